def RX0 : String := "BeltKnots$Alphabet"
def TX0 : u_T := fun k => match k with
  | _ => ("", "", "", false)
def tyX0 : Nat → FieldType := fun k => match k with
  | _ => .int
abbrev wsX00 : List Cond := u_ws RX0 TX0 0
theorem nmX0 : ∀ a, a < 0 → ∀ b, b < 0 → a ≠ b → (TX0 a).2.1 ≠ (TX0 b).2.1 := by decide +kernel
theorem tyX0_ok : ∀ k, k < 0 → parseFieldDescriptor (TX0 k).2.2.1 = some (tyX0 k) := by decide +kernel
abbrev cX0_turns : ByteArray := prog_2_method_2_code
def yX0_turns : MethodName := ⟨RX0, "turns", "(I)I"⟩
abbrev cX0_loops : ByteArray := prog_2_method_3_code
def yX0_loops : MethodName := ⟨RX0, "loops", "(I)I"⟩
abbrev cX0_cordOfKnot : ByteArray := prog_2_method_4_code
def yX0_cordOfKnot : MethodName := ⟨RX0, "cordOfKnot", "(I)I"⟩
abbrev cX0_isVowel : ByteArray := prog_2_method_5_code
def yX0_isVowel : MethodName := ⟨RX0, "isVowel", "(I)Z"⟩
abbrev cX0_reading : ByteArray := prog_2_method_6_code
def yX0_reading : MethodName := ⟨RX0, "reading", "(II)I"⟩
abbrev cX0_codeOf : ByteArray := prog_2_method_7_code
def yX0_codeOf : MethodName := ⟨RX0, "codeOf", "(I)I"⟩
abbrev cX0_isCode : ByteArray := prog_2_method_8_code
def yX0_isCode : MethodName := ⟨RX0, "isCode", "(I)Z"⟩
def RX1 : String := "BeltKnots$Buffer"
def TX1 : u_T := fun k => match k with
  | 0 => ("BeltKnots$Buffer", "codes", "[I", true)
  | _ => ("BeltKnots$Buffer", "size", "I", false)
def tyX1 : Nat → FieldType := fun k => match k with
  | 0 => .array .int
  | _ => .int
abbrev wsX10 : List Cond := u_ws RX1 TX1 2
theorem nmX1 : ∀ a, a < 2 → ∀ b, b < 2 → a ≠ b → (TX1 a).2.1 ≠ (TX1 b).2.1 := by decide +kernel
theorem tyX1_ok : ∀ k, k < 2 → parseFieldDescriptor (TX1 k).2.2.1 = some (tyX1 k) := by decide +kernel
abbrev cX1_init : ByteArray := prog_3_method_1_code
def yX1_init : MethodName := ⟨RX1, "<init>", "()V"⟩
abbrev cX1_isFull : ByteArray := prog_3_method_2_code
def yX1_isFull : MethodName := ⟨RX1, "isFull", "()Z"⟩
abbrev cX1_size : ByteArray := prog_3_method_3_code
def yX1_size : MethodName := ⟨RX1, "size", "()I"⟩
abbrev cX1_at : ByteArray := prog_3_method_4_code
def yX1_at : MethodName := ⟨RX1, "at", "(I)I"⟩
abbrev cX1_digitAt : ByteArray := prog_3_method_5_code
def yX1_digitAt : MethodName := ⟨RX1, "digitAt", "(I)I"⟩
abbrev cX1_add : ByteArray := prog_3_method_6_code
def yX1_add : MethodName := ⟨RX1, "add", "(I)I"⟩
abbrev cX1_empty : ByteArray := prog_3_method_7_code
def yX1_empty : MethodName := ⟨RX1, "empty", "()I"⟩
abbrev cX1_beginsPart : ByteArray := prog_3_method_8_code
def yX1_beginsPart : MethodName := ⟨RX1, "beginsPart", "(I)Z"⟩
abbrev cX1_endOfPart : ByteArray := prog_3_method_9_code
def yX1_endOfPart : MethodName := ⟨RX1, "endOfPart", "(I)I"⟩
abbrev cX1_spell : ByteArray := prog_3_method_10_code
def yX1_spell : MethodName := ⟨RX1, "spell", "(LBeltKnots$Word;II)Z"⟩
abbrev cX1_spells : ByteArray := prog_3_method_11_code
def yX1_spells : MethodName := ⟨RX1, "spells", "(LBeltKnots$Word;)Z"⟩
def RX2 : String := "BeltKnots$Digest"
def TX2 : u_T := fun k => match k with
  | _ => ("", "", "", false)
def tyX2 : Nat → FieldType := fun k => match k with
  | _ => .int
abbrev wsX20 : List Cond := u_ws RX2 TX2 0
theorem nmX2 : ∀ a, a < 0 → ∀ b, b < 0 → a ≠ b → (TX2 a).2.1 ≠ (TX2 b).2.1 := by decide +kernel
theorem tyX2_ok : ∀ k, k < 0 → parseFieldDescriptor (TX2 k).2.2.1 = some (tyX2 k) := by decide +kernel
abbrev cX2_withLetters : ByteArray := prog_4_method_2_code
def yX2_withLetters : MethodName := ⟨RX2, "withLetters", "(LBeltKnots$State;J)J"⟩
abbrev cX2_withFisher : ByteArray := prog_4_method_3_code
def yX2_withFisher : MethodName := ⟨RX2, "withFisher", "(LBeltKnots$State;IJ)J"⟩
abbrev cX2_withNames : ByteArray := prog_4_method_4_code
def yX2_withNames : MethodName := ⟨RX2, "withNames", "(LBeltKnots$State;IJ)J"⟩
abbrev cX2_withKnots : ByteArray := prog_4_method_5_code
def yX2_withKnots : MethodName := ⟨RX2, "withKnots", "(LBeltKnots$State;IIJ)J"⟩
abbrev cX2_withEntries : ByteArray := prog_4_method_6_code
def yX2_withEntries : MethodName := ⟨RX2, "withEntries", "(LBeltKnots$State;J)J"⟩
abbrev cX2_withBuffer : ByteArray := prog_4_method_7_code
def yX2_withBuffer : MethodName := ⟨RX2, "withBuffer", "(LBeltKnots$Buffer;J)J"⟩
abbrev cX2_bitsOfShare : ByteArray := prog_4_method_8_code
def yX2_bitsOfShare : MethodName := ⟨RX2, "bitsOfShare", "(D)J"⟩
def RX3 : String := "BeltKnots$History"
def TX3 : u_T := fun k => match k with
  | 0 => ("BeltKnots$History", "saved", "[I", true)
  | 1 => ("BeltKnots$History", "snapshot", "[I", true)
  | 2 => ("BeltKnots$History", "oldest", "I", false)
  | 3 => ("BeltKnots$History", "size", "I", false)
  | _ => ("BeltKnots$History", "snapshotTaken", "Z", false)
def tyX3 : Nat → FieldType := fun k => match k with
  | 0 => .array .int
  | 1 => .array .int
  | 2 => .int
  | 3 => .int
  | _ => .boolean
abbrev wsX30 : List Cond := u_ws RX3 TX3 5
theorem nmX3 : ∀ a, a < 5 → ∀ b, b < 5 → a ≠ b → (TX3 a).2.1 ≠ (TX3 b).2.1 := by decide +kernel
theorem tyX3_ok : ∀ k, k < 5 → parseFieldDescriptor (TX3 k).2.2.1 = some (tyX3 k) := by decide +kernel
abbrev cX3_init : ByteArray := prog_5_method_1_code
def yX3_init : MethodName := ⟨RX3, "<init>", "()V"⟩
abbrev cX3_size : ByteArray := prog_5_method_2_code
def yX3_size : MethodName := ⟨RX3, "size", "()I"⟩
abbrev cX3_push : ByteArray := prog_5_method_3_code
def yX3_push : MethodName := ⟨RX3, "push", "(LBeltKnots$State;)V"⟩
abbrev cX3_pop : ByteArray := prog_5_method_4_code
def yX3_pop : MethodName := ⟨RX3, "pop", "(LBeltKnots$State;)V"⟩
abbrev cX3_cellOf : ByteArray := prog_5_method_5_code
def yX3_cellOf : MethodName := ⟨RX3, "cellOf", "(I)I"⟩
abbrev cX3_hasSnapshot : ByteArray := prog_5_method_6_code
def yX3_hasSnapshot : MethodName := ⟨RX3, "hasSnapshot", "()Z"⟩
abbrev cX3_takeSnapshot : ByteArray := prog_5_method_7_code
def yX3_takeSnapshot : MethodName := ⟨RX3, "takeSnapshot", "(LBeltKnots$State;)V"⟩
abbrev cX3_loadSnapshot : ByteArray := prog_5_method_8_code
def yX3_loadSnapshot : MethodName := ⟨RX3, "loadSnapshot", "(LBeltKnots$State;)V"⟩
def RX4 : String := "BeltKnots$Names"
def TX4 : u_T := fun k => match k with
  | _ => ("", "", "", false)
def tyX4 : Nat → FieldType := fun k => match k with
  | _ => .int
abbrev wsX40 : List Cond := u_ws RX4 TX4 0
theorem nmX4 : ∀ a, a < 0 → ∀ b, b < 0 → a ≠ b → (TX4 a).2.1 ≠ (TX4 b).2.1 := by decide +kernel
theorem tyX4_ok : ∀ k, k < 0 → parseFieldDescriptor (TX4 k).2.2.1 = some (tyX4 k) := by decide +kernel
abbrev cX4_whyNotTied : ByteArray := prog_6_method_2_code
def yX4_whyNotTied : MethodName := ⟨RX4, "whyNotTied", "(LBeltKnots$State;LBeltKnots$Word;I)I"⟩
abbrev cX4_reads : ByteArray := prog_6_method_3_code
def yX4_reads : MethodName := ⟨RX4, "reads", "(LBeltKnots$State;IILBeltKnots$Word;)Z"⟩
abbrev cX4_tieOn : ByteArray := prog_6_method_4_code
def yX4_tieOn : MethodName := ⟨RX4, "tieOn", "(LBeltKnots$State;LBeltKnots$Word;I)I"⟩
abbrev cX4_takeOff : ByteArray := prog_6_method_5_code
def yX4_takeOff : MethodName := ⟨RX4, "takeOff", "(LBeltKnots$State;II)I"⟩
abbrev cX4_whyNotTightened : ByteArray := prog_6_method_6_code
def yX4_whyNotTightened : MethodName := ⟨RX4, "whyNotTightened", "(LBeltKnots$State;II)I"⟩
abbrev cX4_tighten : ByteArray := prog_6_method_7_code
def yX4_tighten : MethodName := ⟨RX4, "tighten", "(LBeltKnots$State;II)I"⟩
abbrev cX4_cordToTighten : ByteArray := prog_6_method_8_code
def yX4_cordToTighten : MethodName := ⟨RX4, "cordToTighten", "(LBeltKnots$State;I)I"⟩
abbrev cX4_whyNotGiven : ByteArray := prog_6_method_9_code
def yX4_whyNotGiven : MethodName := ⟨RX4, "whyNotGiven", "(LBeltKnots$State;LBeltKnots$Word;III)I"⟩
abbrev cX4_handOver : ByteArray := prog_6_method_10_code
def yX4_handOver : MethodName := ⟨RX4, "handOver", "(LBeltKnots$State;LBeltKnots$Word;III)I"⟩
def RX5 : String := "BeltKnots$Reader"
def TX5 : u_T := fun k => match k with
  | 0 => ("BeltKnots$Reader", "pattern", "Ljava/lang/String;", false)
  | _ => ("BeltKnots$Reader", "place", "I", false)
def tyX5 : Nat → FieldType := fun k => match k with
  | 0 => .object "java/lang/String"
  | _ => .int
abbrev wsX50 : List Cond := u_ws RX5 TX5 2
theorem nmX5 : ∀ a, a < 2 → ∀ b, b < 2 → a ≠ b → (TX5 a).2.1 ≠ (TX5 b).2.1 := by decide +kernel
theorem tyX5_ok : ∀ k, k < 2 → parseFieldDescriptor (TX5 k).2.2.1 = some (tyX5 k) := by decide +kernel
abbrev cX5_init : ByteArray := prog_7_method_1_code
def yX5_init : MethodName := ⟨RX5, "<init>", "()V"⟩
abbrev cX5_patternOf : ByteArray := prog_7_method_2_code
def yX5_patternOf : MethodName := ⟨RX5, "patternOf", "(I)Ljava/lang/String;"⟩
abbrev cX5_placeOfFisher : ByteArray := prog_7_method_3_code
def yX5_placeOfFisher : MethodName := ⟨RX5, "placeOfFisher", "(I)I"⟩
abbrev cX5_readAll : ByteArray := prog_7_method_4_code
def yX5_readAll : MethodName := ⟨RX5, "readAll", "(LBeltKnots$Buffer;)I"⟩
abbrev cX5_mayEnd : ByteArray := prog_7_method_5_code
def yX5_mayEnd : MethodName := ⟨RX5, "mayEnd", "()Z"⟩
abbrev cX5_takes : ByteArray := prog_7_method_6_code
def yX5_takes : MethodName := ⟨RX5, "takes", "(I)Z"⟩
abbrev cX5_fits : ByteArray := prog_7_method_7_code
def yX5_fits : MethodName := ⟨RX5, "fits", "(CI)Z"⟩
def RX6 : String := "BeltKnots$Sea"
def TX6 : u_T := fun k => match k with
  | _ => ("", "", "", false)
def tyX6 : Nat → FieldType := fun k => match k with
  | _ => .int
abbrev wsX60 : List Cond := u_ws RX6 TX6 0
theorem nmX6 : ∀ a, a < 0 → ∀ b, b < 0 → a ≠ b → (TX6 a).2.1 ≠ (TX6 b).2.1 := by decide +kernel
theorem tyX6_ok : ∀ k, k < 0 → parseFieldDescriptor (TX6 k).2.2.1 = some (tyX6 k) := by decide +kernel
abbrev cX6_loosenedBehind : ByteArray := prog_8_method_2_code
def yX6_loosenedBehind : MethodName := ⟨RX6, "loosenedBehind", "(LBeltKnots$State;IIII)I"⟩
abbrev cX6_unreadableBehind : ByteArray := prog_8_method_3_code
def yX6_unreadableBehind : MethodName := ⟨RX6, "unreadableBehind", "(LBeltKnots$State;III)I"⟩
abbrev cX6_stormsToLoss : ByteArray := prog_8_method_4_code
def yX6_stormsToLoss : MethodName := ⟨RX6, "stormsToLoss", "(LBeltKnots$State;II)I"⟩
abbrev cX6_ofNextStorm : ByteArray := prog_8_method_5_code
def yX6_ofNextStorm : MethodName := ⟨RX6, "ofNextStorm", "(LBeltKnots$State;II)I"⟩
abbrev cX6_loosenedByNext : ByteArray := prog_8_method_6_code
def yX6_loosenedByNext : MethodName := ⟨RX6, "loosenedByNext", "(LBeltKnots$State;II)I"⟩
abbrev cX6_comeOver : ByteArray := prog_8_method_7_code
def yX6_comeOver : MethodName := ⟨RX6, "comeOver", "(LBeltKnots$State;I)I"⟩
abbrev cX6_loosen : ByteArray := prog_8_method_8_code
def yX6_loosen : MethodName := ⟨RX6, "loosen", "(LBeltKnots$State;II)V"⟩
abbrev cX6_lose : ByteArray := prog_8_method_9_code
def yX6_lose : MethodName := ⟨RX6, "lose", "(LBeltKnots$State;II)V"⟩
abbrev cX6_enter : ByteArray := prog_8_method_10_code
def yX6_enter : MethodName := ⟨RX6, "enter", "(LBeltKnots$State;II)V"⟩
abbrev cX6_ofEntry : ByteArray := prog_8_method_11_code
def yX6_ofEntry : MethodName := ⟨RX6, "ofEntry", "(LBeltKnots$State;II)I"⟩
abbrev cX6_latestWith : ByteArray := prog_8_method_12_code
def yX6_latestWith : MethodName := ⟨RX6, "latestWith", "(LBeltKnots$State;LBeltKnots$Word;)I"⟩
abbrev cX6_isSpelled : ByteArray := prog_8_method_13_code
def yX6_isSpelled : MethodName := ⟨RX6, "isSpelled", "(LBeltKnots$State;ILBeltKnots$Word;)Z"⟩
def RX7 : String := "BeltKnots$State"
def TX7 : u_T := fun k => match k with
  | _ => ("BeltKnots$State", "cells", "[I", true)
def tyX7 : Nat → FieldType := fun k => match k with
  | _ => .array .int
abbrev wsX70 : List Cond := u_ws RX7 TX7 1
theorem nmX7 : ∀ a, a < 1 → ∀ b, b < 1 → a ≠ b → (TX7 a).2.1 ≠ (TX7 b).2.1 := by decide +kernel
theorem tyX7_ok : ∀ k, k < 1 → parseFieldDescriptor (TX7 k).2.2.1 = some (tyX7 k) := by decide +kernel
abbrev cX7_init : ByteArray := prog_9_method_1_code
def yX7_init : MethodName := ⟨RX7, "<init>", "()V"⟩
abbrev cX7_fisherCell : ByteArray := prog_9_method_2_code
def yX7_fisherCell : MethodName := ⟨RX7, "fisherCell", "(II)I"⟩
abbrev cX7_nameCell : ByteArray := prog_9_method_3_code
def yX7_nameCell : MethodName := ⟨RX7, "nameCell", "(II)I"⟩
abbrev cX7_knotCell : ByteArray := prog_9_method_4_code
def yX7_knotCell : MethodName := ⟨RX7, "knotCell", "(III)I"⟩
abbrev cX7_entryCell : ByteArray := prog_9_method_5_code
def yX7_entryCell : MethodName := ⟨RX7, "entryCell", "(II)I"⟩
abbrev cX7_at : ByteArray := prog_9_method_6_code
def yX7_at : MethodName := ⟨RX7, "at", "(I)I"⟩
abbrev cX7_put : ByteArray := prog_9_method_7_code
def yX7_put : MethodName := ⟨RX7, "put", "(II)V"⟩
abbrev cX7_add : ByteArray := prog_9_method_8_code
def yX7_add : MethodName := ⟨RX7, "add", "(II)V"⟩
abbrev cX7_closeUp : ByteArray := prog_9_method_9_code
def yX7_closeUp : MethodName := ⟨RX7, "closeUp", "(III)V"⟩
abbrev cX7_copyTo : ByteArray := prog_9_method_10_code
def yX7_copyTo : MethodName := ⟨RX7, "copyTo", "([II)V"⟩
abbrev cX7_copyFrom : ByteArray := prog_9_method_11_code
def yX7_copyFrom : MethodName := ⟨RX7, "copyFrom", "([II)V"⟩
abbrev cX7_names : ByteArray := prog_9_method_12_code
def yX7_names : MethodName := ⟨RX7, "names", "(I)I"⟩
abbrev cX7_hasName : ByteArray := prog_9_method_13_code
def yX7_hasName : MethodName := ⟨RX7, "hasName", "(II)Z"⟩
abbrev cX7_knots : ByteArray := prog_9_method_14_code
def yX7_knots : MethodName := ⟨RX7, "knots", "(II)I"⟩
abbrev cX7_loosened : ByteArray := prog_9_method_15_code
def yX7_loosened : MethodName := ⟨RX7, "loosened", "(III)I"⟩
abbrev cX7_readsAs : ByteArray := prog_9_method_16_code
def yX7_readsAs : MethodName := ⟨RX7, "readsAs", "(III)I"⟩
abbrev cX7_cordOf : ByteArray := prog_9_method_17_code
def yX7_cordOf : MethodName := ⟨RX7, "cordOf", "(II)I"⟩
abbrev cX7_left : ByteArray := prog_9_method_18_code
def yX7_left : MethodName := ⟨RX7, "left", "(I)I"⟩
def RX8 : String := "BeltKnots$Tally"
def TX8 : u_T := fun k => match k with
  | _ => ("", "", "", false)
def tyX8 : Nat → FieldType := fun k => match k with
  | _ => .int
abbrev wsX80 : List Cond := u_ws RX8 TX8 0
theorem nmX8 : ∀ a, a < 0 → ∀ b, b < 0 → a ≠ b → (TX8 a).2.1 ≠ (TX8 b).2.1 := by decide +kernel
theorem tyX8_ok : ∀ k, k < 0 → parseFieldDescriptor (TX8 k).2.2.1 = some (tyX8 k) := by decide +kernel
abbrev cX8_knotsThatAre : ByteArray := prog_10_method_2_code
def yX8_knotsThatAre : MethodName := ⟨RX8, "knotsThatAre", "(LBeltKnots$State;II)I"⟩
abbrev cX8_knotsOfName : ByteArray := prog_10_method_3_code
def yX8_knotsOfName : MethodName := ⟨RX8, "knotsOfName", "(LBeltKnots$State;IIII)I"⟩
abbrev cX8_isOfKind : ByteArray := prog_10_method_4_code
def yX8_isOfKind : MethodName := ⟨RX8, "isOfKind", "(LBeltKnots$State;III)Z"⟩
abbrev cX8_ofLetter : ByteArray := prog_10_method_5_code
def yX8_ofLetter : MethodName := ⟨RX8, "ofLetter", "(LBeltKnots$State;II)I"⟩
abbrev cX8_ofKnot : ByteArray := prog_10_method_6_code
def yX8_ofKnot : MethodName := ⟨RX8, "ofKnot", "(LBeltKnots$State;IIII)I"⟩
abbrev cX8_ofName : ByteArray := prog_10_method_7_code
def yX8_ofName : MethodName := ⟨RX8, "ofName", "(LBeltKnots$State;III)I"⟩
abbrev cX8_ofFisher : ByteArray := prog_10_method_8_code
def yX8_ofFisher : MethodName := ⟨RX8, "ofFisher", "(LBeltKnots$State;II)I"⟩
abbrev cX8_ofAll : ByteArray := prog_10_method_9_code
def yX8_ofAll : MethodName := ⟨RX8, "ofAll", "(LBeltKnots$State;I)I"⟩
abbrev cX8_names : ByteArray := prog_10_method_10_code
def yX8_names : MethodName := ⟨RX8, "names", "(LBeltKnots$State;)I"⟩
abbrev cX8_ofFishers : ByteArray := prog_10_method_11_code
def yX8_ofFishers : MethodName := ⟨RX8, "ofFishers", "(LBeltKnots$State;I)I"⟩
abbrev cX8_cordByNames : ByteArray := prog_10_method_12_code
def yX8_cordByNames : MethodName := ⟨RX8, "cordByNames", "(LBeltKnots$State;)I"⟩
abbrev cX8_cordByLetters : ByteArray := prog_10_method_13_code
def yX8_cordByLetters : MethodName := ⟨RX8, "cordByLetters", "(LBeltKnots$State;)I"⟩
abbrev cX8_fishersWithSharedNames : ByteArray := prog_10_method_14_code
def yX8_fishersWithSharedNames : MethodName := ⟨RX8, "fishersWithSharedNames", "(LBeltKnots$State;)I"⟩
abbrev cX8_share : ByteArray := prog_10_method_15_code
def yX8_share : MethodName := ⟨RX8, "share", "(LBeltKnots$State;II)Z"⟩
abbrev cX8_readAlike : ByteArray := prog_10_method_16_code
def yX8_readAlike : MethodName := ⟨RX8, "readAlike", "(LBeltKnots$State;IIII)Z"⟩
abbrev cX8_codeOfBelt : ByteArray := prog_10_method_17_code
def yX8_codeOfBelt : MethodName := ⟨RX8, "codeOfBelt", "(LBeltKnots$State;II)I"⟩
abbrev cX8_shareThatReadsTrue : ByteArray := prog_10_method_18_code
def yX8_shareThatReadsTrue : MethodName := ⟨RX8, "shareThatReadsTrue", "(LBeltKnots$State;)D"⟩
def RX9 : String := "BeltKnots$Word"
def TX9 : u_T := fun k => match k with
  | 0 => ("BeltKnots$Word", "letters", "[I", true)
  | _ => ("BeltKnots$Word", "size", "I", false)
def tyX9 : Nat → FieldType := fun k => match k with
  | 0 => .array .int
  | _ => .int
abbrev wsX90 : List Cond := u_ws RX9 TX9 2
theorem nmX9 : ∀ a, a < 2 → ∀ b, b < 2 → a ≠ b → (TX9 a).2.1 ≠ (TX9 b).2.1 := by decide +kernel
theorem tyX9_ok : ∀ k, k < 2 → parseFieldDescriptor (TX9 k).2.2.1 = some (tyX9 k) := by decide +kernel
abbrev cX9_init : ByteArray := prog_11_method_1_code
def yX9_init : MethodName := ⟨RX9, "<init>", "()V"⟩
abbrev cX9_empty : ByteArray := prog_11_method_2_code
def yX9_empty : MethodName := ⟨RX9, "empty", "()V"⟩
abbrev cX9_add : ByteArray := prog_11_method_3_code
def yX9_add : MethodName := ⟨RX9, "add", "(I)V"⟩
abbrev cX9_size : ByteArray := prog_11_method_4_code
def yX9_size : MethodName := ⟨RX9, "size", "()I"⟩
abbrev cX9_at : ByteArray := prog_11_method_5_code
def yX9_at : MethodName := ⟨RX9, "at", "(I)I"⟩
abbrev cX9_cord : ByteArray := prog_11_method_6_code
def yX9_cord : MethodName := ⟨RX9, "cord", "()I"⟩
def RX10 : String := "BeltKnots"
def TX10 : u_T := fun k => match k with
  | 0 => ("BeltKnots", "state", "LBeltKnots$State;", true)
  | 1 => ("BeltKnots", "history", "LBeltKnots$History;", true)
  | 2 => ("BeltKnots", "buffer", "LBeltKnots$Buffer;", true)
  | 3 => ("BeltKnots", "reader", "LBeltKnots$Reader;", true)
  | _ => ("BeltKnots", "word", "LBeltKnots$Word;", true)
def tyX10 : Nat → FieldType := fun k => match k with
  | 0 => .object "BeltKnots$State"
  | 1 => .object "BeltKnots$History"
  | 2 => .object "BeltKnots$Buffer"
  | 3 => .object "BeltKnots$Reader"
  | _ => .object "BeltKnots$Word"
abbrev wsX100 : List Cond := u_ws RX10 TX10 5
theorem nmX10 : ∀ a, a < 5 → ∀ b, b < 5 → a ≠ b → (TX10 a).2.1 ≠ (TX10 b).2.1 := by decide +kernel
theorem tyX10_ok : ∀ k, k < 5 → parseFieldDescriptor (TX10 k).2.2.1 = some (tyX10 k) := by decide +kernel
abbrev cX10_init : ByteArray := prog_1_method_1_code
def yX10_init : MethodName := ⟨RX10, "<init>", "()V"⟩
abbrev cX10_tie : ByteArray := prog_1_method_2_code
def yX10_tie : MethodName := ⟨RX10, "tie", "(I)I"⟩
abbrev cX10_cut : ByteArray := prog_1_method_3_code
def yX10_cut : MethodName := ⟨RX10, "cut", "(II)I"⟩
abbrev cX10_fast : ByteArray := prog_1_method_4_code
def yX10_fast : MethodName := ⟨RX10, "fast", "(II)I"⟩
abbrev cX10_give : ByteArray := prog_1_method_5_code
def yX10_give : MethodName := ⟨RX10, "give", "(III)I"⟩
abbrev cX10_storm : ByteArray := prog_1_method_6_code
def yX10_storm : MethodName := ⟨RX10, "storm", "(I)I"⟩
abbrev cX10_belt : ByteArray := prog_1_method_7_code
def yX10_belt : MethodName := ⟨RX10, "belt", "(II)I"⟩
abbrev cX10_set : ByteArray := prog_1_method_8_code
def yX10_set : MethodName := ⟨RX10, "set", "(II)I"⟩
abbrev cX10_append : ByteArray := prog_1_method_9_code
def yX10_append : MethodName := ⟨RX10, "append", "(I)I"⟩
abbrev cX10_clearBuffer : ByteArray := prog_1_method_10_code
def yX10_clearBuffer : MethodName := ⟨RX10, "clearBuffer", "()I"⟩
abbrev cX10_firstError : ByteArray := prog_1_method_11_code
def yX10_firstError : MethodName := ⟨RX10, "firstError", "()I"⟩
abbrev cX10_work : ByteArray := prog_1_method_12_code
def yX10_work : MethodName := ⟨RX10, "work", "()I"⟩
abbrev cX10_stopped : ByteArray := prog_1_method_13_code
def yX10_stopped : MethodName := ⟨RX10, "stopped", "(I)I"⟩
abbrev cX10_told : ByteArray := prog_1_method_14_code
def yX10_told : MethodName := ⟨RX10, "told", "(II)I"⟩
abbrev cX10_undo : ByteArray := prog_1_method_15_code
def yX10_undo : MethodName := ⟨RX10, "undo", "()I"⟩
abbrev cX10_keep : ByteArray := prog_1_method_16_code
def yX10_keep : MethodName := ⟨RX10, "keep", "()I"⟩
abbrev cX10_restore : ByteArray := prog_1_method_17_code
def yX10_restore : MethodName := ⟨RX10, "restore", "()I"⟩
abbrev cX10_letter : ByteArray := prog_1_method_18_code
def yX10_letter : MethodName := ⟨RX10, "letter", "(II)I"⟩
abbrev cX10_knot : ByteArray := prog_1_method_19_code
def yX10_knot : MethodName := ⟨RX10, "knot", "(IIII)I"⟩
abbrev cX10_name : ByteArray := prog_1_method_20_code
def yX10_name : MethodName := ⟨RX10, "name", "(III)I"⟩
abbrev cX10_fisher : ByteArray := prog_1_method_21_code
def yX10_fisher : MethodName := ⟨RX10, "fisher", "(II)I"⟩
abbrev cX10_drowned : ByteArray := prog_1_method_22_code
def yX10_drowned : MethodName := ⟨RX10, "drowned", "(II)I"⟩
abbrev cX10_find : ByteArray := prog_1_method_23_code
def yX10_find : MethodName := ⟨RX10, "find", "()I"⟩
abbrev cX10_count : ByteArray := prog_1_method_24_code
def yX10_count : MethodName := ⟨RX10, "count", "(I)I"⟩
abbrev cX10_whyNot : ByteArray := prog_1_method_25_code
def yX10_whyNot : MethodName := ⟨RX10, "whyNot", "(I)I"⟩
abbrev cX10_noGift : ByteArray := prog_1_method_26_code
def yX10_noGift : MethodName := ⟨RX10, "noGift", "(III)I"⟩
abbrev cX10_ifStorm : ByteArray := prog_1_method_27_code
def yX10_ifStorm : MethodName := ⟨RX10, "ifStorm", "(II)I"⟩
abbrev cX10_bestBelt : ByteArray := prog_1_method_28_code
def yX10_bestBelt : MethodName := ⟨RX10, "bestBelt", "()I"⟩
abbrev cX10_trueShare : ByteArray := prog_1_method_29_code
def yX10_trueShare : MethodName := ⟨RX10, "trueShare", "()D"⟩
abbrev cX10_digest : ByteArray := prog_1_method_30_code
def yX10_digest : MethodName := ⟨RX10, "digest", "()J"⟩
abbrev cX10_needFisher : ByteArray := prog_1_method_31_code
def yX10_needFisher : MethodName := ⟨RX10, "needFisher", "(I)V"⟩
abbrev cX10_needName : ByteArray := prog_1_method_32_code
def yX10_needName : MethodName := ⟨RX10, "needName", "(II)V"⟩
abbrev cX10_needWord : ByteArray := prog_1_method_33_code
def yX10_needWord : MethodName := ⟨RX10, "needWord", "()V"⟩
abbrev cX10_needWhat : ByteArray := prog_1_method_34_code
def yX10_needWhat : MethodName := ⟨RX10, "needWhat", "(II)V"⟩
abbrev cX10_numberOfStop : ByteArray := prog_1_method_35_code
def yX10_numberOfStop : MethodName := ⟨RX10, "numberOfStop", "(I)I"⟩
abbrev cX10_whyNotDone : ByteArray := prog_1_method_36_code
def yX10_whyNotDone : MethodName := ⟨RX10, "whyNotDone", "(I)I"⟩
abbrev cX10_doPart : ByteArray := prog_1_method_37_code
def yX10_doPart : MethodName := ⟨RX10, "doPart", "(I)V"⟩
def RX11 : String := "BeltKnotsModel"
def TX11 : u_T := fun k => match k with
  | 0 => ("BeltKnotsModel", "s", "[I", true)
  | 1 => ("BeltKnotsModel", "saved", "[I", true)
  | 2 => ("BeltKnotsModel", "savedMany", "I", false)
  | 3 => ("BeltKnotsModel", "snapshot", "[I", true)
  | 4 => ("BeltKnotsModel", "isTaken", "Z", false)
  | 5 => ("BeltKnotsModel", "text", "[I", true)
  | 6 => ("BeltKnotsModel", "length", "I", false)
  | 7 => ("BeltKnotsModel", "thrown", "I", false)
  | 8 => ("BeltKnotsModel", "spelt", "I", false)
  | 9 => ("BeltKnotsModel", "speltMany", "I", false)
  | 10 => ("BeltKnotsModel", "place", "I", false)
  | 11 => ("BeltKnotsModel", "kind", "I", false)
  | 12 => ("BeltKnotsModel", "one", "I", false)
  | 13 => ("BeltKnotsModel", "two", "I", false)
  | 14 => ("BeltKnotsModel", "three", "I", false)
  | 15 => ("BeltKnotsModel", "begins", "I", false)
  | 16 => ("BeltKnotsModel", "done", "I", false)
  | 17 => ("BeltKnotsModel", "stopBy", "I", false)
  | _ => ("BeltKnotsModel", "hash", "J", false)
def tyX11 : Nat → FieldType := fun k => match k with
  | 0 => .array .int
  | 1 => .array .int
  | 2 => .int
  | 3 => .array .int
  | 4 => .boolean
  | 5 => .array .int
  | 6 => .int
  | 7 => .int
  | 8 => .int
  | 9 => .int
  | 10 => .int
  | 11 => .int
  | 12 => .int
  | 13 => .int
  | 14 => .int
  | 15 => .int
  | 16 => .int
  | 17 => .int
  | _ => .long
abbrev wsX110 : List Cond := u_ws RX11 TX11 19
theorem nmX11 : ∀ a, a < 19 → ∀ b, b < 19 → a ≠ b → (TX11 a).2.1 ≠ (TX11 b).2.1 := by decide +kernel
theorem tyX11_ok : ∀ k, k < 19 → parseFieldDescriptor (TX11 k).2.2.1 = some (tyX11 k) := by decide +kernel
abbrev cX11_init : ByteArray := prog_13_method_1_code
def yX11_init : MethodName := ⟨RX11, "<init>", "()V"⟩
abbrev cX11_thrown : ByteArray := prog_13_method_2_code
def yX11_thrown : MethodName := ⟨RX11, "thrown", "()I"⟩
abbrev cX11_holds : ByteArray := prog_13_method_3_code
def yX11_holds : MethodName := ⟨RX11, "holds", "(I)Z"⟩
abbrev cX11_plain : ByteArray := prog_13_method_4_code
def yX11_plain : MethodName := ⟨RX11, "plain", "(I)I"⟩
abbrev cX11_in : ByteArray := prog_13_method_5_code
def yX11_in : MethodName := ⟨RX11, "in", "(III)Z"⟩
abbrev cX11_isFisher : ByteArray := prog_13_method_6_code
def yX11_isFisher : MethodName := ⟨RX11, "isFisher", "(I)Z"⟩
abbrev cX11_isName : ByteArray := prog_13_method_7_code
def yX11_isName : MethodName := ⟨RX11, "isName", "(II)Z"⟩
abbrev cX11_of : ByteArray := prog_13_method_8_code
def yX11_of : MethodName := ⟨RX11, "of", "(II)I"⟩
abbrev cX11_add : ByteArray := prog_13_method_9_code
def yX11_add : MethodName := ⟨RX11, "add", "(III)V"⟩
abbrev cX11_whereIs : ByteArray := prog_13_method_10_code
def yX11_whereIs : MethodName := ⟨RX11, "whereIs", "(II)I"⟩
abbrev cX11_copy : ByteArray := prog_13_method_11_code
def yX11_copy : MethodName := ⟨RX11, "copy", "([II[II)V"⟩
abbrev cX11_save : ByteArray := prog_13_method_12_code
def yX11_save : MethodName := ⟨RX11, "save", "()V"⟩
abbrev cX11_turns : ByteArray := prog_13_method_13_code
def yX11_turns : MethodName := ⟨RX11, "turns", "(I)I"⟩
abbrev cX11_cordOfLetter : ByteArray := prog_13_method_14_code
def yX11_cordOfLetter : MethodName := ⟨RX11, "cordOfLetter", "(I)I"⟩
abbrev cX11_isVowel : ByteArray := prog_13_method_15_code
def yX11_isVowel : MethodName := ⟨RX11, "isVowel", "(I)Z"⟩
abbrev cX11_letterAt : ByteArray := prog_13_method_16_code
def yX11_letterAt : MethodName := ⟨RX11, "letterAt", "(II)I"⟩
abbrev cX11_cordOfLetters : ByteArray := prog_13_method_17_code
def yX11_cordOfLetters : MethodName := ⟨RX11, "cordOfLetters", "(II)I"⟩
abbrev cX11_knots : ByteArray := prog_13_method_18_code
def yX11_knots : MethodName := ⟨RX11, "knots", "(I)I"⟩
abbrev cX11_tiedAs : ByteArray := prog_13_method_19_code
def yX11_tiedAs : MethodName := ⟨RX11, "tiedAs", "(II)I"⟩
abbrev cX11_readAs : ByteArray := prog_13_method_20_code
def yX11_readAs : MethodName := ⟨RX11, "readAs", "(II)I"⟩
abbrev cX11_cordOf : ByteArray := prog_13_method_21_code
def yX11_cordOf : MethodName := ⟨RX11, "cordOf", "(I)I"⟩
abbrev cX11_loosened : ByteArray := prog_13_method_22_code
def yX11_loosened : MethodName := ⟨RX11, "loosened", "(II)I"⟩
abbrev cX11_whole : ByteArray := prog_13_method_23_code
def yX11_whole : MethodName := ⟨RX11, "whole", "(II)I"⟩
abbrev cX11_readLetters : ByteArray := prog_13_method_24_code
def yX11_readLetters : MethodName := ⟨RX11, "readLetters", "(I)I"⟩
abbrev cX11_readsSo : ByteArray := prog_13_method_25_code
def yX11_readsSo : MethodName := ⟨RX11, "readsSo", "(III)Z"⟩
abbrev cX11_readAlike : ByteArray := prog_13_method_26_code
def yX11_readAlike : MethodName := ⟨RX11, "readAlike", "(II)Z"⟩
abbrev cX11_cordOn : ByteArray := prog_13_method_27_code
def yX11_cordOn : MethodName := ⟨RX11, "cordOn", "(I)I"⟩
abbrev cX11_left : ByteArray := prog_13_method_28_code
def yX11_left : MethodName := ⟨RX11, "left", "(I)I"⟩
abbrev cX11_reason : ByteArray := prog_13_method_29_code
def yX11_reason : MethodName := ⟨RX11, "reason", "(III)I"⟩
abbrev cX11_doTie : ByteArray := prog_13_method_30_code
def yX11_doTie : MethodName := ⟨RX11, "doTie", "(III)I"⟩
abbrev cX11_takeOff : ByteArray := prog_13_method_31_code
def yX11_takeOff : MethodName := ⟨RX11, "takeOff", "(II)I"⟩
abbrev cX11_gift : ByteArray := prog_13_method_32_code
def yX11_gift : MethodName := ⟨RX11, "gift", "(III)I"⟩
abbrev cX11_doGive : ByteArray := prog_13_method_33_code
def yX11_doGive : MethodName := ⟨RX11, "doGive", "(III)I"⟩
abbrev cX11_tightened : ByteArray := prog_13_method_34_code
def yX11_tightened : MethodName := ⟨RX11, "tightened", "(II)I"⟩
abbrev cX11_canFasten : ByteArray := prog_13_method_35_code
def yX11_canFasten : MethodName := ⟨RX11, "canFasten", "(II)Z"⟩
abbrev cX11_doFast : ByteArray := prog_13_method_36_code
def yX11_doFast : MethodName := ⟨RX11, "doFast", "(II)I"⟩
abbrev cX11_loosens : ByteArray := prog_13_method_37_code
def yX11_loosens : MethodName := ⟨RX11, "loosens", "(III)Z"⟩
abbrev cX11_drown : ByteArray := prog_13_method_38_code
def yX11_drown : MethodName := ⟨RX11, "drown", "(II)V"⟩
abbrev cX11_doStorm : ByteArray := prog_13_method_39_code
def yX11_doStorm : MethodName := ⟨RX11, "doStorm", "(I)I"⟩
abbrev cX11_isSpelt : ByteArray := prog_13_method_40_code
def yX11_isSpelt : MethodName := ⟨RX11, "isSpelt", "(II)Z"⟩
abbrev cX11_tie : ByteArray := prog_13_method_41_code
def yX11_tie : MethodName := ⟨RX11, "tie", "(I)I"⟩
abbrev cX11_cut : ByteArray := prog_13_method_42_code
def yX11_cut : MethodName := ⟨RX11, "cut", "(II)I"⟩
abbrev cX11_fast : ByteArray := prog_13_method_43_code
def yX11_fast : MethodName := ⟨RX11, "fast", "(II)I"⟩
abbrev cX11_give : ByteArray := prog_13_method_44_code
def yX11_give : MethodName := ⟨RX11, "give", "(III)I"⟩
abbrev cX11_storm : ByteArray := prog_13_method_45_code
def yX11_storm : MethodName := ⟨RX11, "storm", "(I)I"⟩
abbrev cX11_belt : ByteArray := prog_13_method_46_code
def yX11_belt : MethodName := ⟨RX11, "belt", "(II)I"⟩
abbrev cX11_set : ByteArray := prog_13_method_47_code
def yX11_set : MethodName := ⟨RX11, "set", "(II)I"⟩
abbrev cX11_append : ByteArray := prog_13_method_48_code
def yX11_append : MethodName := ⟨RX11, "append", "(I)I"⟩
abbrev cX11_clearBuffer : ByteArray := prog_13_method_49_code
def yX11_clearBuffer : MethodName := ⟨RX11, "clearBuffer", "()I"⟩
abbrev cX11_isNext : ByteArray := prog_13_method_50_code
def yX11_isNext : MethodName := ⟨RX11, "isNext", "(II)Z"⟩
abbrev cX11_takes : ByteArray := prog_13_method_51_code
def yX11_takes : MethodName := ⟨RX11, "takes", "(I)Z"⟩
abbrev cX11_digit : ByteArray := prog_13_method_52_code
def yX11_digit : MethodName := ⟨RX11, "digit", "(I)I"⟩
abbrev cX11_takesWord : ByteArray := prog_13_method_53_code
def yX11_takesWord : MethodName := ⟨RX11, "takesWord", "()Z"⟩
abbrev cX11_readLettersOfName : ByteArray := prog_13_method_54_code
def yX11_readLettersOfName : MethodName := ⟨RX11, "readLettersOfName", "()Z"⟩
abbrev cX11_readPart : ByteArray := prog_13_method_55_code
def yX11_readPart : MethodName := ⟨RX11, "readPart", "()Z"⟩
abbrev cX11_stopOfPart : ByteArray := prog_13_method_56_code
def yX11_stopOfPart : MethodName := ⟨RX11, "stopOfPart", "()I"⟩
abbrev cX11_does : ByteArray := prog_13_method_57_code
def yX11_does : MethodName := ⟨RX11, "does", "()I"⟩
abbrev cX11_readText : ByteArray := prog_13_method_58_code
def yX11_readText : MethodName := ⟨RX11, "readText", "(Z)Z"⟩
abbrev cX11_firstError : ByteArray := prog_13_method_59_code
def yX11_firstError : MethodName := ⟨RX11, "firstError", "()I"⟩
abbrev cX11_work : ByteArray := prog_13_method_60_code
def yX11_work : MethodName := ⟨RX11, "work", "()I"⟩
abbrev cX11_stopped : ByteArray := prog_13_method_61_code
def yX11_stopped : MethodName := ⟨RX11, "stopped", "(I)I"⟩
abbrev cX11_characterAt : ByteArray := prog_13_method_62_code
def yX11_characterAt : MethodName := ⟨RX11, "characterAt", "(II)I"⟩
abbrev cX11_told : ByteArray := prog_13_method_63_code
def yX11_told : MethodName := ⟨RX11, "told", "(II)I"⟩
abbrev cX11_undo : ByteArray := prog_13_method_64_code
def yX11_undo : MethodName := ⟨RX11, "undo", "()I"⟩
abbrev cX11_sumOf : ByteArray := prog_13_method_65_code
def yX11_sumOf : MethodName := ⟨RX11, "sumOf", "(I)I"⟩
abbrev cX11_keep : ByteArray := prog_13_method_66_code
def yX11_keep : MethodName := ⟨RX11, "keep", "()I"⟩
abbrev cX11_restore : ByteArray := prog_13_method_67_code
def yX11_restore : MethodName := ⟨RX11, "restore", "()I"⟩
abbrev cX11_knotsOf : ByteArray := prog_13_method_68_code
def yX11_knotsOf : MethodName := ⟨RX11, "knotsOf", "(IZ)I"⟩
abbrev cX11_letterNumber : ByteArray := prog_13_method_69_code
def yX11_letterNumber : MethodName := ⟨RX11, "letterNumber", "(II)I"⟩
abbrev cX11_letter : ByteArray := prog_13_method_70_code
def yX11_letter : MethodName := ⟨RX11, "letter", "(II)I"⟩
abbrev cX11_knotNumber : ByteArray := prog_13_method_71_code
def yX11_knotNumber : MethodName := ⟨RX11, "knotNumber", "(III)I"⟩
abbrev cX11_knot : ByteArray := prog_13_method_72_code
def yX11_knot : MethodName := ⟨RX11, "knot", "(IIII)I"⟩
abbrev cX11_storms : ByteArray := prog_13_method_73_code
def yX11_storms : MethodName := ⟨RX11, "storms", "(I)I"⟩
abbrev cX11_nameNumber : ByteArray := prog_13_method_74_code
def yX11_nameNumber : MethodName := ⟨RX11, "nameNumber", "(II)I"⟩
abbrev cX11_name : ByteArray := prog_13_method_75_code
def yX11_name : MethodName := ⟨RX11, "name", "(III)I"⟩
abbrev cX11_fisherNumber : ByteArray := prog_13_method_76_code
def yX11_fisherNumber : MethodName := ⟨RX11, "fisherNumber", "(II)I"⟩
abbrev cX11_fisher : ByteArray := prog_13_method_77_code
def yX11_fisher : MethodName := ⟨RX11, "fisher", "(II)I"⟩
abbrev cX11_entryNumber : ByteArray := prog_13_method_78_code
def yX11_entryNumber : MethodName := ⟨RX11, "entryNumber", "(II)I"⟩
abbrev cX11_drowned : ByteArray := prog_13_method_79_code
def yX11_drowned : MethodName := ⟨RX11, "drowned", "(II)I"⟩
abbrev cX11_find : ByteArray := prog_13_method_80_code
def yX11_find : MethodName := ⟨RX11, "find", "()I"⟩
abbrev cX11_allLoosened : ByteArray := prog_13_method_81_code
def yX11_allLoosened : MethodName := ⟨RX11, "allLoosened", "(I)I"⟩
abbrev cX11_allKnots : ByteArray := prog_13_method_82_code
def yX11_allKnots : MethodName := ⟨RX11, "allKnots", "()I"⟩
abbrev cX11_cordByLetters : ByteArray := prog_13_method_83_code
def yX11_cordByLetters : MethodName := ⟨RX11, "cordByLetters", "()I"⟩
abbrev cX11_cordByNames : ByteArray := prog_13_method_84_code
def yX11_cordByNames : MethodName := ⟨RX11, "cordByNames", "()I"⟩
abbrev cX11_hasCommon : ByteArray := prog_13_method_85_code
def yX11_hasCommon : MethodName := ⟨RX11, "hasCommon", "(II)Z"⟩
abbrev cX11_withCommon : ByteArray := prog_13_method_86_code
def yX11_withCommon : MethodName := ⟨RX11, "withCommon", "()I"⟩
abbrev cX11_countNumber : ByteArray := prog_13_method_87_code
def yX11_countNumber : MethodName := ⟨RX11, "countNumber", "(I)I"⟩
abbrev cX11_count : ByteArray := prog_13_method_88_code
def yX11_count : MethodName := ⟨RX11, "count", "(I)I"⟩
abbrev cX11_whyNot : ByteArray := prog_13_method_89_code
def yX11_whyNot : MethodName := ⟨RX11, "whyNot", "(I)I"⟩
abbrev cX11_noGift : ByteArray := prog_13_method_90_code
def yX11_noGift : MethodName := ⟨RX11, "noGift", "(III)I"⟩
abbrev cX11_stormNumber : ByteArray := prog_13_method_91_code
def yX11_stormNumber : MethodName := ⟨RX11, "stormNumber", "(II)I"⟩
abbrev cX11_ifStorm : ByteArray := prog_13_method_92_code
def yX11_ifStorm : MethodName := ⟨RX11, "ifStorm", "(II)I"⟩
abbrev cX11_bestBelt : ByteArray := prog_13_method_93_code
def yX11_bestBelt : MethodName := ⟨RX11, "bestBelt", "()I"⟩
abbrev cX11_shareNumber : ByteArray := prog_13_method_94_code
def yX11_shareNumber : MethodName := ⟨RX11, "shareNumber", "()D"⟩
abbrev cX11_trueShare : ByteArray := prog_13_method_95_code
def yX11_trueShare : MethodName := ⟨RX11, "trueShare", "()D"⟩
abbrev cX11_bitsOf : ByteArray := prog_13_method_96_code
def yX11_bitsOf : MethodName := ⟨RX11, "bitsOf", "(D)J"⟩
abbrev cX11_mix : ByteArray := prog_13_method_97_code
def yX11_mix : MethodName := ⟨RX11, "mix", "(J)V"⟩
abbrev cX11_mixName : ByteArray := prog_13_method_98_code
def yX11_mixName : MethodName := ⟨RX11, "mixName", "(I)V"⟩
abbrev cX11_mixFisher : ByteArray := prog_13_method_99_code
def yX11_mixFisher : MethodName := ⟨RX11, "mixFisher", "(I)V"⟩
abbrev cX11_digest : ByteArray := prog_13_method_100_code
def yX11_digest : MethodName := ⟨RX11, "digest", "()J"⟩
def RJ11 : String := "java/lang/Character"
def TJ11 : u_T := fun k => match k with
  | _ => ("", "", "", false)
def tyJ11 : Nat → FieldType := fun k => match k with
  | _ => .int
abbrev wsJ110 : List Cond := u_ws RJ11 TJ11 0
theorem nmJ11 : ∀ a, a < 0 → ∀ b, b < 0 → a ≠ b → (TJ11 a).2.1 ≠ (TJ11 b).2.1 := by decide +kernel
theorem tyJ11_ok : ∀ k, k < 0 → parseFieldDescriptor (TJ11 k).2.2.1 = some (tyJ11 k) := by decide +kernel
abbrev cJ11_isValidCodePoint_9a6ad : ByteArray := prog_14_method_11_code
def yJ11_isValidCodePoint_9a6ad : MethodName := ⟨RJ11, "isValidCodePoint", "(I)Z"⟩
abbrev cJ11_highSurrogate_5068e : ByteArray := prog_14_method_28_code
def yJ11_highSurrogate_5068e : MethodName := ⟨RJ11, "highSurrogate", "(I)C"⟩
abbrev cJ11_lowSurrogate_5068e : ByteArray := prog_14_method_29_code
def yJ11_lowSurrogate_5068e : MethodName := ⟨RJ11, "lowSurrogate", "(I)C"⟩
def RJ9 : String := "java/lang/Math"
def TJ9 : u_T := fun k => match k with
  | _ => ("", "", "", false)
def tyJ9 : Nat → FieldType := fun k => match k with
  | _ => .int
abbrev wsJ90 : List Cond := u_ws RJ9 TJ9 0
theorem nmJ9 : ∀ a, a < 0 → ∀ b, b < 0 → a ≠ b → (TJ9 a).2.1 ≠ (TJ9 b).2.1 := by decide +kernel
theorem tyJ9_ok : ∀ k, k < 0 → parseFieldDescriptor (TJ9 k).2.2.1 = some (tyJ9 k) := by decide +kernel
abbrev cJ9_max_7cf53 : ByteArray := prog_19_method_65_code
def yJ9_max_7cf53 : MethodName := ⟨RJ9, "max", "(II)I"⟩
abbrev cJ9_min_7cf53 : ByteArray := prog_19_method_69_code
def yJ9_min_7cf53 : MethodName := ⟨RJ9, "min", "(II)I"⟩
def RJ0 : String := "java/lang/String"
def TJ0 : u_T := fun k => match k with
  | _ => ("", "", "", false)
def tyJ0 : Nat → FieldType := fun k => match k with
  | _ => .int
abbrev wsJ00 : List Cond := u_ws RJ0 TJ0 0
theorem nmJ0 : ∀ a, a < 0 → ∀ b, b < 0 → a ≠ b → (TJ0 a).2.1 ≠ (TJ0 b).2.1 := by decide +kernel
theorem tyJ0_ok : ∀ k, k < 0 → parseFieldDescriptor (TJ0 k).2.2.1 = some (tyJ0 k) := by decide +kernel
abbrev cJ0_length_8abf5 : ByteArray := prog_21_method_54_code
def yJ0_length_8abf5 : MethodName := ⟨RJ0, "length", "()I"⟩
abbrev cJ0_charAt_5068e : ByteArray := prog_21_method_56_code
def yJ0_charAt_5068e : MethodName := ⟨RJ0, "charAt", "(I)C"⟩
abbrev cJ0_indexOf_0f7a4 : ByteArray := prog_21_method_79_code
def yJ0_indexOf_0f7a4 : MethodName := ⟨RJ0, "indexOf", "(I)I"⟩
abbrev cJ0_indexOf_7cf53 : ByteArray := prog_21_method_80_code
def yJ0_indexOf_7cf53 : MethodName := ⟨RJ0, "indexOf", "(II)I"⟩
abbrev cJ0_coder_7d493 : ByteArray := prog_21_method_152_code
def yJ0_coder_7d493 : MethodName := ⟨RJ0, "coder", "()B"⟩
abbrev cJ0_isLatin1_aae02 : ByteArray := prog_21_method_154_code
def yJ0_isLatin1_aae02 : MethodName := ⟨RJ0, "isLatin1", "()Z"⟩
abbrev cJ0_checkIndex_df160 : ByteArray := prog_21_method_155_code
def yJ0_checkIndex_df160 : MethodName := ⟨RJ0, "checkIndex", "(II)V"⟩
abbrev cJ0_checkBoundsBeginEnd_23922 : ByteArray := prog_21_method_158_code
def yJ0_checkBoundsBeginEnd_23922 : MethodName := ⟨RJ0, "checkBoundsBeginEnd", "(III)V"⟩
def RJ1 : String := "java/lang/StringLatin1"
def TJ1 : u_T := fun k => match k with
  | _ => ("", "", "", false)
def tyJ1 : Nat → FieldType := fun k => match k with
  | _ => .int
abbrev wsJ10 : List Cond := u_ws RJ1 TJ1 0
theorem nmJ1 : ∀ a, a < 0 → ∀ b, b < 0 → a ≠ b → (TJ1 a).2.1 ≠ (TJ1 b).2.1 := by decide +kernel
theorem tyJ1_ok : ∀ k, k < 0 → parseFieldDescriptor (TJ1 k).2.2.1 = some (tyJ1 k) := by decide +kernel
abbrev cJ1_charAt_3b067 : ByteArray := prog_22_method_2_code
def yJ1_charAt_3b067 : MethodName := ⟨RJ1, "charAt", "([BI)C"⟩
abbrev cJ1_canEncode_9a6ad : ByteArray := prog_22_method_4_code
def yJ1_canEncode_9a6ad : MethodName := ⟨RJ1, "canEncode", "(I)Z"⟩
abbrev cJ1_indexOf_4cfef : ByteArray := prog_22_method_22_code
def yJ1_indexOf_4cfef : MethodName := ⟨RJ1, "indexOf", "([BIII)I"⟩
abbrev cJ1_indexOfChar_4cfef : ByteArray := prog_22_method_23_code
def yJ1_indexOfChar_4cfef : MethodName := ⟨RJ1, "indexOfChar", "([BIII)I"⟩
def RJ2 : String := "java/lang/StringUTF16"
def TJ2 : u_T := fun k => match k with
  | _ => ("", "", "", false)
def tyJ2 : Nat → FieldType := fun k => match k with
  | _ => .int
abbrev wsJ20 : List Cond := u_ws RJ2 TJ2 0
theorem nmJ2 : ∀ a, a < 0 → ∀ b, b < 0 → a ≠ b → (TJ2 a).2.1 ≠ (TJ2 b).2.1 := by decide +kernel
theorem tyJ2_ok : ∀ k, k < 0 → parseFieldDescriptor (TJ2 k).2.2.1 = some (tyJ2 k) := by decide +kernel
abbrev cJ2_getChar_3b067 : ByteArray := prog_23_method_5_code
def yJ2_getChar_3b067 : MethodName := ⟨RJ2, "getChar", "([BI)C"⟩
abbrev cJ2_length_9d52b : ByteArray := prog_23_method_6_code
def yJ2_length_9d52b : MethodName := ⟨RJ2, "length", "([B)I"⟩
abbrev cJ2_indexOf_4cfef : ByteArray := prog_23_method_40_code
def yJ2_indexOf_4cfef : MethodName := ⟨RJ2, "indexOf", "([BIII)I"⟩
abbrev cJ2_indexOfChar_4cfef : ByteArray := prog_23_method_47_code
def yJ2_indexOfChar_4cfef : MethodName := ⟨RJ2, "indexOfChar", "([BIII)I"⟩
abbrev cJ2_indexOfCharUnsafe_4cfef : ByteArray := prog_23_method_48_code
def yJ2_indexOfCharUnsafe_4cfef : MethodName := ⟨RJ2, "indexOfCharUnsafe", "([BIII)I"⟩
abbrev cJ2_indexOfSupplementary_4cfef : ByteArray := prog_23_method_49_code
def yJ2_indexOfSupplementary_4cfef : MethodName := ⟨RJ2, "indexOfSupplementary", "([BIII)I"⟩
abbrev cJ2_charAt_3b067 : ByteArray := prog_23_method_83_code
def yJ2_charAt_3b067 : MethodName := ⟨RJ2, "charAt", "([BI)C"⟩
abbrev cJ2_checkIndex_2214a : ByteArray := prog_23_method_91_code
def yJ2_checkIndex_2214a : MethodName := ⟨RJ2, "checkIndex", "(I[B)V"⟩
abbrev cJ2_checkBoundsBeginEnd_d044e : ByteArray := prog_23_method_93_code
def yJ2_checkBoundsBeginEnd_d044e : MethodName := ⟨RJ2, "checkBoundsBeginEnd", "(II[B)V"⟩
def RJ10 : String := "java/lang/System"
def TJ10 : u_T := fun k => match k with
  | _ => ("", "", "", false)
def tyJ10 : Nat → FieldType := fun k => match k with
  | _ => .int
abbrev wsJ100 : List Cond := u_ws RJ10 TJ10 0
theorem nmJ10 : ∀ a, a < 0 → ∀ b, b < 0 → a ≠ b → (TJ10 a).2.1 ≠ (TJ10 b).2.1 := by decide +kernel
theorem tyJ10_ok : ∀ k, k < 0 → parseFieldDescriptor (TJ10 k).2.2.1 = some (tyJ10 k) := by decide +kernel
def RJ3 : String := "jdk/internal/util/Preconditions"
def TJ3 : u_T := fun k => match k with
  | _ => ("", "", "", false)
def tyJ3 : Nat → FieldType := fun k => match k with
  | _ => .int
abbrev wsJ30 : List Cond := u_ws RJ3 TJ3 0
theorem nmJ3 : ∀ a, a < 0 → ∀ b, b < 0 → a ≠ b → (TJ3 a).2.1 ≠ (TJ3 b).2.1 := by decide +kernel
theorem tyJ3_ok : ∀ k, k < 0 → parseFieldDescriptor (TJ3 k).2.2.1 = some (tyJ3 k) := by decide +kernel
abbrev cJ3_checkIndex_8e157 : ByteArray := prog_26_method_11_code
def yJ3_checkIndex_8e157 : MethodName := ⟨RJ3, "checkIndex", "(IILjava/util/function/BiFunction;)I"⟩
abbrev cJ3_checkFromToIndex_8c36e : ByteArray := prog_26_method_12_code
def yJ3_checkFromToIndex_8c36e : MethodName := ⟨RJ3, "checkFromToIndex", "(IIILjava/util/function/BiFunction;)I"⟩
def RL : String := "BeltKnotsLaw"
abbrev cL_tie : ByteArray := method_3_code
def yL_tie : MethodName := ⟨RL, "tie", "(LBeltKnots;I[J)I"⟩
abbrev cL_cut : ByteArray := method_4_code
def yL_cut : MethodName := ⟨RL, "cut", "(LBeltKnots;II[J)I"⟩
abbrev cL_fast : ByteArray := method_5_code
def yL_fast : MethodName := ⟨RL, "fast", "(LBeltKnots;II[J)I"⟩
abbrev cL_give : ByteArray := method_6_code
def yL_give : MethodName := ⟨RL, "give", "(LBeltKnots;III[J)I"⟩
abbrev cL_storm : ByteArray := method_7_code
def yL_storm : MethodName := ⟨RL, "storm", "(LBeltKnots;I[J)I"⟩
abbrev cL_belt : ByteArray := method_8_code
def yL_belt : MethodName := ⟨RL, "belt", "(LBeltKnots;II[J)I"⟩
abbrev cL_set : ByteArray := method_9_code
def yL_set : MethodName := ⟨RL, "set", "(LBeltKnots;II[J)I"⟩
abbrev cL_append : ByteArray := method_10_code
def yL_append : MethodName := ⟨RL, "append", "(LBeltKnots;I[J)I"⟩
abbrev cL_work : ByteArray := method_11_code
def yL_work : MethodName := ⟨RL, "work", "(LBeltKnots;[J)I"⟩
abbrev cL_stopped : ByteArray := method_12_code
def yL_stopped : MethodName := ⟨RL, "stopped", "(LBeltKnots;I[J)I"⟩
abbrev cL_told : ByteArray := method_13_code
def yL_told : MethodName := ⟨RL, "told", "(LBeltKnots;II[J)I"⟩
abbrev cL_undo : ByteArray := method_14_code
def yL_undo : MethodName := ⟨RL, "undo", "(LBeltKnots;[J)I"⟩
abbrev cL_restore : ByteArray := method_15_code
def yL_restore : MethodName := ⟨RL, "restore", "(LBeltKnots;[J)I"⟩
abbrev cL_letter : ByteArray := method_16_code
def yL_letter : MethodName := ⟨RL, "letter", "(LBeltKnots;II[J)I"⟩
abbrev cL_knot : ByteArray := method_17_code
def yL_knot : MethodName := ⟨RL, "knot", "(LBeltKnots;IIII[J)I"⟩
abbrev cL_name : ByteArray := method_18_code
def yL_name : MethodName := ⟨RL, "name", "(LBeltKnots;III[J)I"⟩
abbrev cL_fisher : ByteArray := method_19_code
def yL_fisher : MethodName := ⟨RL, "fisher", "(LBeltKnots;II[J)I"⟩
abbrev cL_drowned : ByteArray := method_20_code
def yL_drowned : MethodName := ⟨RL, "drowned", "(LBeltKnots;II[J)I"⟩
abbrev cL_find : ByteArray := method_21_code
def yL_find : MethodName := ⟨RL, "find", "(LBeltKnots;[J)I"⟩
abbrev cL_count : ByteArray := method_22_code
def yL_count : MethodName := ⟨RL, "count", "(LBeltKnots;I[J)I"⟩
abbrev cL_whyNot : ByteArray := method_23_code
def yL_whyNot : MethodName := ⟨RL, "whyNot", "(LBeltKnots;I[J)I"⟩
abbrev cL_noGift : ByteArray := method_24_code
def yL_noGift : MethodName := ⟨RL, "noGift", "(LBeltKnots;III[J)I"⟩
abbrev cL_ifStorm : ByteArray := method_25_code
def yL_ifStorm : MethodName := ⟨RL, "ifStorm", "(LBeltKnots;II[J)I"⟩
abbrev cL_bestBelt : ByteArray := method_26_code
def yL_bestBelt : MethodName := ⟨RL, "bestBelt", "(LBeltKnots;[J)I"⟩
abbrev cL_law : ByteArray := code
def yL_law : MethodName := ⟨RL, "law", "([I)Z"⟩
theorem dX0_turns_0 : decode cX0_turns 0 = .ok (.iload_n 0, 1) := by decide +kernel
theorem dX0_turns_1 : decode cX0_turns 1 = .ok (.iconst 4, 1) := by decide +kernel
theorem dX0_turns_2 : decode cX0_turns 2 = .ok (.idiv, 1) := by decide +kernel
theorem dX0_turns_3 : decode cX0_turns 3 = .ok (.iconst 1, 1) := by decide +kernel
theorem dX0_turns_4 : decode cX0_turns 4 = .ok (.iadd, 1) := by decide +kernel
theorem dX0_turns_5 : decode cX0_turns 5 = .ok (.ireturn, 1) := by decide +kernel
theorem dX0_loops_0 : decode cX0_loops 0 = .ok (.iload_n 0, 1) := by decide +kernel
theorem dX0_loops_1 : decode cX0_loops 1 = .ok (.iconst 4, 1) := by decide +kernel
theorem dX0_loops_2 : decode cX0_loops 2 = .ok (.irem, 1) := by decide +kernel
theorem dX0_loops_3 : decode cX0_loops 3 = .ok (.ireturn, 1) := by decide +kernel
theorem dX0_cordOfKnot_0 : decode cX0_cordOfKnot 0 = .ok (.iconst 2, 1) := by decide +kernel
theorem dX0_cordOfKnot_1 : decode cX0_cordOfKnot 1 = .ok (.iload_n 0, 1) := by decide +kernel
theorem dX0_cordOfKnot_2 : decode cX0_cordOfKnot 2 = .ok (.iconst 4, 1) := by decide +kernel
theorem dX0_cordOfKnot_3 : decode cX0_cordOfKnot 3 = .ok (.idiv, 1) := by decide +kernel
theorem dX0_cordOfKnot_4 : decode cX0_cordOfKnot 4 = .ok (.iconst 1, 1) := by decide +kernel
theorem dX0_cordOfKnot_5 : decode cX0_cordOfKnot 5 = .ok (.iadd, 1) := by decide +kernel
theorem dX0_cordOfKnot_6 : decode cX0_cordOfKnot 6 = .ok (.imul, 1) := by decide +kernel
theorem dX0_cordOfKnot_7 : decode cX0_cordOfKnot 7 = .ok (.iload_n 0, 1) := by decide +kernel
theorem dX0_cordOfKnot_8 : decode cX0_cordOfKnot 8 = .ok (.iconst 4, 1) := by decide +kernel
theorem dX0_cordOfKnot_9 : decode cX0_cordOfKnot 9 = .ok (.irem, 1) := by decide +kernel
theorem dX0_cordOfKnot_10 : decode cX0_cordOfKnot 10 = .ok (.iadd, 1) := by decide +kernel
theorem dX0_cordOfKnot_11 : decode cX0_cordOfKnot 11 = .ok (.ireturn, 1) := by decide +kernel
theorem dX0_isVowel_0 : decode cX0_isVowel 0 = .ok (.iload_n 0, 1) := by decide +kernel
theorem dX0_isVowel_1 : decode cX0_isVowel 1 = .ok (.ifCond .eq 20, 3) := by decide +kernel
theorem dX0_isVowel_4 : decode cX0_isVowel 4 = .ok (.iload_n 0, 1) := by decide +kernel
theorem dX0_isVowel_5 : decode cX0_isVowel 5 = .ok (.iconst 4, 1) := by decide +kernel
theorem dX0_isVowel_6 : decode cX0_isVowel 6 = .ok (.if_icmp .eq 15, 3) := by decide +kernel
theorem dX0_isVowel_9 : decode cX0_isVowel 9 = .ok (.iload_n 0, 1) := by decide +kernel
theorem dX0_isVowel_10 : decode cX0_isVowel 10 = .ok (.bipush 8, 2) := by decide +kernel
theorem dX0_isVowel_12 : decode cX0_isVowel 12 = .ok (.if_icmp .eq 9, 3) := by decide +kernel
theorem dX0_isVowel_15 : decode cX0_isVowel 15 = .ok (.iload_n 0, 1) := by decide +kernel
theorem dX0_isVowel_16 : decode cX0_isVowel 16 = .ok (.bipush 14, 2) := by decide +kernel
theorem dX0_isVowel_18 : decode cX0_isVowel 18 = .ok (.if_icmp .ne 7, 3) := by decide +kernel
theorem dX0_isVowel_21 : decode cX0_isVowel 21 = .ok (.iconst 1, 1) := by decide +kernel
theorem dX0_isVowel_22 : decode cX0_isVowel 22 = .ok (.goto 4, 3) := by decide +kernel
theorem dX0_isVowel_25 : decode cX0_isVowel 25 = .ok (.iconst 0, 1) := by decide +kernel
theorem dX0_isVowel_26 : decode cX0_isVowel 26 = .ok (.ireturn, 1) := by decide +kernel
theorem dX0_reading_0 : decode cX0_reading 0 = .ok (.iload_n 1, 1) := by decide +kernel
theorem dX0_reading_1 : decode cX0_reading 1 = .ok (.iconst 1, 1) := by decide +kernel
theorem dX0_reading_2 : decode cX0_reading 2 = .ok (.if_icmp .ge 5, 3) := by decide +kernel
theorem dX0_reading_5 : decode cX0_reading 5 = .ok (.iload_n 0, 1) := by decide +kernel
theorem dX0_reading_6 : decode cX0_reading 6 = .ok (.ireturn, 1) := by decide +kernel
theorem dX0_reading_7 : decode cX0_reading 7 = .ok (.iload_n 1, 1) := by decide +kernel
theorem dX0_reading_8 : decode cX0_reading 8 = .ok (.iconst 1, 1) := by decide +kernel
theorem dX0_reading_9 : decode cX0_reading 9 = .ok (.if_icmp .ne 9, 3) := by decide +kernel
theorem dX0_reading_12 : decode cX0_reading 12 = .ok (.iload_n 0, 1) := by decide +kernel
theorem dX0_reading_13 : decode cX0_reading 13 = .ok (.iconst 1, 1) := by decide +kernel
theorem dX0_reading_14 : decode cX0_reading 14 = .ok (.iadd, 1) := by decide +kernel
theorem dX0_reading_15 : decode cX0_reading 15 = .ok (.goto 5, 3) := by decide +kernel
theorem dX0_reading_18 : decode cX0_reading 18 = .ok (.bipush 16, 2) := by decide +kernel
theorem dX0_reading_20 : decode cX0_reading 20 = .ok (.ireturn, 1) := by decide +kernel
theorem dX0_codeOf_0 : decode cX0_codeOf 0 = .ok (.iload_n 0, 1) := by decide +kernel
theorem dX0_codeOf_1 : decode cX0_codeOf 1 = .ok (.bipush 16, 2) := by decide +kernel
theorem dX0_codeOf_3 : decode cX0_codeOf 3 = .ok (.if_icmp .ne 8, 3) := by decide +kernel
theorem dX0_codeOf_6 : decode cX0_codeOf 6 = .ok (.bipush 63, 2) := by decide +kernel
theorem dX0_codeOf_8 : decode cX0_codeOf 8 = .ok (.goto 7, 3) := by decide +kernel
theorem dX0_codeOf_11 : decode cX0_codeOf 11 = .ok (.bipush 97, 2) := by decide +kernel
theorem dX0_codeOf_13 : decode cX0_codeOf 13 = .ok (.iload_n 0, 1) := by decide +kernel
theorem dX0_codeOf_14 : decode cX0_codeOf 14 = .ok (.iadd, 1) := by decide +kernel
theorem dX0_codeOf_15 : decode cX0_codeOf 15 = .ok (.ireturn, 1) := by decide +kernel
theorem dX0_isCode_0 : decode cX0_isCode 0 = .ok (.iload_n 0, 1) := by decide +kernel
theorem dX0_isCode_1 : decode cX0_isCode 1 = .ok (.bipush 97, 2) := by decide +kernel
theorem dX0_isCode_3 : decode cX0_isCode 3 = .ok (.if_icmp .lt 13, 3) := by decide +kernel
theorem dX0_isCode_6 : decode cX0_isCode 6 = .ok (.iload_n 0, 1) := by decide +kernel
theorem dX0_isCode_7 : decode cX0_isCode 7 = .ok (.bipush 112, 2) := by decide +kernel
theorem dX0_isCode_9 : decode cX0_isCode 9 = .ok (.if_icmp .gt 7, 3) := by decide +kernel
theorem dX0_isCode_12 : decode cX0_isCode 12 = .ok (.iconst 1, 1) := by decide +kernel
theorem dX0_isCode_13 : decode cX0_isCode 13 = .ok (.goto 4, 3) := by decide +kernel
theorem dX0_isCode_16 : decode cX0_isCode 16 = .ok (.iconst 0, 1) := by decide +kernel
theorem dX0_isCode_17 : decode cX0_isCode 17 = .ok (.ireturn, 1) := by decide +kernel
theorem dX1_init_0 : decode cX1_init 0 = .ok (.aload_n 0, 1) := by decide +kernel
theorem dX1_init_1 : decode cX1_init 1 = .ok (.invokespecial 3, 3) := by decide +kernel
theorem dX1_init_4 : decode cX1_init 4 = .ok (.aload_n 0, 1) := by decide +kernel
theorem dX1_init_5 : decode cX1_init 5 = .ok (.bipush 60, 2) := by decide +kernel
theorem dX1_init_7 : decode cX1_init 7 = .ok (.newarray .int, 2) := by decide +kernel
theorem dX1_init_9 : decode cX1_init 9 = .ok (.putfield 9, 3) := by decide +kernel
theorem dX1_init_12 : decode cX1_init 12 = .ok (.aload_n 0, 1) := by decide +kernel
theorem dX1_init_13 : decode cX1_init 13 = .ok (.iconst 0, 1) := by decide +kernel
theorem dX1_init_14 : decode cX1_init 14 = .ok (.putfield 15, 3) := by decide +kernel
theorem dX1_init_17 : decode cX1_init 17 = .ok (.return_, 1) := by decide +kernel
theorem dX1_isFull_0 : decode cX1_isFull 0 = .ok (.aload_n 0, 1) := by decide +kernel
theorem dX1_isFull_1 : decode cX1_isFull 1 = .ok (.getfield 15, 3) := by decide +kernel
theorem dX1_isFull_4 : decode cX1_isFull 4 = .ok (.aload_n 0, 1) := by decide +kernel
theorem dX1_isFull_5 : decode cX1_isFull 5 = .ok (.getfield 9, 3) := by decide +kernel
theorem dX1_isFull_8 : decode cX1_isFull 8 = .ok (.arraylength, 1) := by decide +kernel
theorem dX1_isFull_9 : decode cX1_isFull 9 = .ok (.if_icmp .lt 7, 3) := by decide +kernel
theorem dX1_isFull_12 : decode cX1_isFull 12 = .ok (.iconst 1, 1) := by decide +kernel
theorem dX1_isFull_13 : decode cX1_isFull 13 = .ok (.goto 4, 3) := by decide +kernel
theorem dX1_isFull_16 : decode cX1_isFull 16 = .ok (.iconst 0, 1) := by decide +kernel
theorem dX1_isFull_17 : decode cX1_isFull 17 = .ok (.ireturn, 1) := by decide +kernel
theorem dX1_size_0 : decode cX1_size 0 = .ok (.aload_n 0, 1) := by decide +kernel
theorem dX1_size_1 : decode cX1_size 1 = .ok (.getfield 15, 3) := by decide +kernel
theorem dX1_size_4 : decode cX1_size 4 = .ok (.ireturn, 1) := by decide +kernel
theorem dX1_at_0 : decode cX1_at 0 = .ok (.iload_n 1, 1) := by decide +kernel
theorem dX1_at_1 : decode cX1_at 1 = .ok (.ifCond .lt 29, 3) := by decide +kernel
theorem dX1_at_4 : decode cX1_at 4 = .ok (.iload_n 1, 1) := by decide +kernel
theorem dX1_at_5 : decode cX1_at 5 = .ok (.aload_n 0, 1) := by decide +kernel
theorem dX1_at_6 : decode cX1_at 6 = .ok (.getfield 15, 3) := by decide +kernel
theorem dX1_at_9 : decode cX1_at 9 = .ok (.if_icmp .ge 21, 3) := by decide +kernel
theorem dX1_at_12 : decode cX1_at 12 = .ok (.iload_n 1, 1) := by decide +kernel
theorem dX1_at_13 : decode cX1_at 13 = .ok (.aload_n 0, 1) := by decide +kernel
theorem dX1_at_14 : decode cX1_at 14 = .ok (.getfield 9, 3) := by decide +kernel
theorem dX1_at_17 : decode cX1_at 17 = .ok (.arraylength, 1) := by decide +kernel
theorem dX1_at_18 : decode cX1_at 18 = .ok (.if_icmp .ge 12, 3) := by decide +kernel
theorem dX1_at_21 : decode cX1_at 21 = .ok (.aload_n 0, 1) := by decide +kernel
theorem dX1_at_22 : decode cX1_at 22 = .ok (.getfield 9, 3) := by decide +kernel
theorem dX1_at_25 : decode cX1_at 25 = .ok (.iload_n 1, 1) := by decide +kernel
theorem dX1_at_26 : decode cX1_at 26 = .ok (.iaload, 1) := by decide +kernel
theorem dX1_at_27 : decode cX1_at 27 = .ok (.goto 4, 3) := by decide +kernel
theorem dX1_at_30 : decode cX1_at 30 = .ok (.iconst (-1), 1) := by decide +kernel
theorem dX1_at_31 : decode cX1_at 31 = .ok (.ireturn, 1) := by decide +kernel
theorem dX1_digitAt_0 : decode cX1_digitAt 0 = .ok (.aload_n 0, 1) := by decide +kernel
theorem dX1_digitAt_1 : decode cX1_digitAt 1 = .ok (.iload_n 1, 1) := by decide +kernel
theorem dX1_digitAt_2 : decode cX1_digitAt 2 = .ok (.invokevirtual 19, 3) := by decide +kernel
theorem dX1_digitAt_5 : decode cX1_digitAt 5 = .ok (.bipush 48, 2) := by decide +kernel
theorem dX1_digitAt_7 : decode cX1_digitAt 7 = .ok (.isub, 1) := by decide +kernel
theorem dX1_digitAt_8 : decode cX1_digitAt 8 = .ok (.ireturn, 1) := by decide +kernel
theorem dX1_add_0 : decode cX1_add 0 = .ok (.aload_n 0, 1) := by decide +kernel
theorem dX1_add_1 : decode cX1_add 1 = .ok (.getfield 15, 3) := by decide +kernel
theorem dX1_add_4 : decode cX1_add 4 = .ok (.ifCond .lt 35, 3) := by decide +kernel
theorem dX1_add_7 : decode cX1_add 7 = .ok (.aload_n 0, 1) := by decide +kernel
theorem dX1_add_8 : decode cX1_add 8 = .ok (.getfield 15, 3) := by decide +kernel
theorem dX1_add_11 : decode cX1_add 11 = .ok (.aload_n 0, 1) := by decide +kernel
theorem dX1_add_12 : decode cX1_add 12 = .ok (.getfield 9, 3) := by decide +kernel
theorem dX1_add_15 : decode cX1_add 15 = .ok (.arraylength, 1) := by decide +kernel
theorem dX1_add_16 : decode cX1_add 16 = .ok (.if_icmp .ge 23, 3) := by decide +kernel
theorem dX1_add_19 : decode cX1_add 19 = .ok (.aload_n 0, 1) := by decide +kernel
theorem dX1_add_20 : decode cX1_add 20 = .ok (.getfield 9, 3) := by decide +kernel
theorem dX1_add_23 : decode cX1_add 23 = .ok (.aload_n 0, 1) := by decide +kernel
theorem dX1_add_24 : decode cX1_add 24 = .ok (.getfield 15, 3) := by decide +kernel
theorem dX1_add_27 : decode cX1_add 27 = .ok (.iload_n 1, 1) := by decide +kernel
theorem dX1_add_28 : decode cX1_add 28 = .ok (.iastore, 1) := by decide +kernel
theorem dX1_add_29 : decode cX1_add 29 = .ok (.aload_n 0, 1) := by decide +kernel
theorem dX1_add_30 : decode cX1_add 30 = .ok (.dup, 1) := by decide +kernel
theorem dX1_add_31 : decode cX1_add 31 = .ok (.getfield 15, 3) := by decide +kernel
theorem dX1_add_34 : decode cX1_add 34 = .ok (.iconst 1, 1) := by decide +kernel
theorem dX1_add_35 : decode cX1_add 35 = .ok (.iadd, 1) := by decide +kernel
theorem dX1_add_36 : decode cX1_add 36 = .ok (.putfield 15, 3) := by decide +kernel
theorem dX1_add_39 : decode cX1_add 39 = .ok (.aload_n 0, 1) := by decide +kernel
theorem dX1_add_40 : decode cX1_add 40 = .ok (.getfield 15, 3) := by decide +kernel
theorem dX1_add_43 : decode cX1_add 43 = .ok (.ireturn, 1) := by decide +kernel
theorem dX1_empty_0 : decode cX1_empty 0 = .ok (.aload_n 0, 1) := by decide +kernel
theorem dX1_empty_1 : decode cX1_empty 1 = .ok (.getfield 15, 3) := by decide +kernel
theorem dX1_empty_4 : decode cX1_empty 4 = .ok (.istore_n 1, 1) := by decide +kernel
theorem dX1_empty_5 : decode cX1_empty 5 = .ok (.aload_n 0, 1) := by decide +kernel
theorem dX1_empty_6 : decode cX1_empty 6 = .ok (.iconst 0, 1) := by decide +kernel
theorem dX1_empty_7 : decode cX1_empty 7 = .ok (.putfield 15, 3) := by decide +kernel
theorem dX1_empty_10 : decode cX1_empty 10 = .ok (.iload_n 1, 1) := by decide +kernel
theorem dX1_empty_11 : decode cX1_empty 11 = .ok (.ireturn, 1) := by decide +kernel
theorem dX1_beginsPart_0 : decode cX1_beginsPart 0 = .ok (.iload_n 1, 1) := by decide +kernel
theorem dX1_beginsPart_1 : decode cX1_beginsPart 1 = .ok (.ifCond .eq 15, 3) := by decide +kernel
theorem dX1_beginsPart_4 : decode cX1_beginsPart 4 = .ok (.aload_n 0, 1) := by decide +kernel
theorem dX1_beginsPart_5 : decode cX1_beginsPart 5 = .ok (.iload_n 1, 1) := by decide +kernel
theorem dX1_beginsPart_6 : decode cX1_beginsPart 6 = .ok (.iconst 1, 1) := by decide +kernel
theorem dX1_beginsPart_7 : decode cX1_beginsPart 7 = .ok (.isub, 1) := by decide +kernel
theorem dX1_beginsPart_8 : decode cX1_beginsPart 8 = .ok (.invokevirtual 19, 3) := by decide +kernel
theorem dX1_beginsPart_11 : decode cX1_beginsPart 11 = .ok (.bipush 59, 2) := by decide +kernel
theorem dX1_beginsPart_13 : decode cX1_beginsPart 13 = .ok (.if_icmp .ne 7, 3) := by decide +kernel
theorem dX1_beginsPart_16 : decode cX1_beginsPart 16 = .ok (.iconst 1, 1) := by decide +kernel
theorem dX1_beginsPart_17 : decode cX1_beginsPart 17 = .ok (.goto 4, 3) := by decide +kernel
theorem dX1_beginsPart_20 : decode cX1_beginsPart 20 = .ok (.iconst 0, 1) := by decide +kernel
theorem dX1_beginsPart_21 : decode cX1_beginsPart 21 = .ok (.ireturn, 1) := by decide +kernel
theorem dX1_endOfPart_0 : decode cX1_endOfPart 0 = .ok (.iload_n 1, 1) := by decide +kernel
theorem dX1_endOfPart_1 : decode cX1_endOfPart 1 = .ok (.istore_n 2, 1) := by decide +kernel
theorem dX1_endOfPart_2 : decode cX1_endOfPart 2 = .ok (.iload_n 2, 1) := by decide +kernel
theorem dX1_endOfPart_3 : decode cX1_endOfPart 3 = .ok (.aload_n 0, 1) := by decide +kernel
theorem dX1_endOfPart_4 : decode cX1_endOfPart 4 = .ok (.getfield 15, 3) := by decide +kernel
theorem dX1_endOfPart_7 : decode cX1_endOfPart 7 = .ok (.if_icmp .ge 19, 3) := by decide +kernel
theorem dX1_endOfPart_10 : decode cX1_endOfPart 10 = .ok (.aload_n 0, 1) := by decide +kernel
theorem dX1_endOfPart_11 : decode cX1_endOfPart 11 = .ok (.iload_n 2, 1) := by decide +kernel
theorem dX1_endOfPart_12 : decode cX1_endOfPart 12 = .ok (.invokevirtual 19, 3) := by decide +kernel
theorem dX1_endOfPart_15 : decode cX1_endOfPart 15 = .ok (.bipush 59, 2) := by decide +kernel
theorem dX1_endOfPart_17 : decode cX1_endOfPart 17 = .ok (.if_icmp .eq 9, 3) := by decide +kernel
theorem dX1_endOfPart_20 : decode cX1_endOfPart 20 = .ok (.iinc 2 1, 3) := by decide +kernel
theorem dX1_endOfPart_23 : decode cX1_endOfPart 23 = .ok (.goto (-21), 3) := by decide +kernel
theorem dX1_endOfPart_26 : decode cX1_endOfPart 26 = .ok (.iload_n 2, 1) := by decide +kernel
theorem dX1_endOfPart_27 : decode cX1_endOfPart 27 = .ok (.ireturn, 1) := by decide +kernel
theorem dX1_spell_0 : decode cX1_spell 0 = .ok (.aload_n 1, 1) := by decide +kernel
theorem dX1_spell_1 : decode cX1_spell 1 = .ok (.invokevirtual 23, 3) := by decide +kernel
theorem dX1_spell_4 : decode cX1_spell 4 = .ok (.iload_n 3, 1) := by decide +kernel
theorem dX1_spell_5 : decode cX1_spell 5 = .ok (.iload_n 2, 1) := by decide +kernel
theorem dX1_spell_6 : decode cX1_spell 6 = .ok (.if_icmp .le 11, 3) := by decide +kernel
theorem dX1_spell_9 : decode cX1_spell 9 = .ok (.iload_n 3, 1) := by decide +kernel
theorem dX1_spell_10 : decode cX1_spell 10 = .ok (.iload_n 2, 1) := by decide +kernel
theorem dX1_spell_11 : decode cX1_spell 11 = .ok (.isub, 1) := by decide +kernel
theorem dX1_spell_12 : decode cX1_spell 12 = .ok (.bipush 8, 2) := by decide +kernel
theorem dX1_spell_14 : decode cX1_spell 14 = .ok (.if_icmp .le 5, 3) := by decide +kernel
theorem dX1_spell_17 : decode cX1_spell 17 = .ok (.iconst 0, 1) := by decide +kernel
theorem dX1_spell_18 : decode cX1_spell 18 = .ok (.ireturn, 1) := by decide +kernel
theorem dX1_spell_19 : decode cX1_spell 19 = .ok (.iload_n 2, 1) := by decide +kernel
theorem dX1_spell_20 : decode cX1_spell 20 = .ok (.istore 4, 2) := by decide +kernel
theorem dX1_spell_22 : decode cX1_spell 22 = .ok (.iload 4, 2) := by decide +kernel
theorem dX1_spell_24 : decode cX1_spell 24 = .ok (.iload_n 3, 1) := by decide +kernel
theorem dX1_spell_25 : decode cX1_spell 25 = .ok (.if_icmp .ge 36, 3) := by decide +kernel
theorem dX1_spell_28 : decode cX1_spell 28 = .ok (.aload_n 0, 1) := by decide +kernel
theorem dX1_spell_29 : decode cX1_spell 29 = .ok (.iload 4, 2) := by decide +kernel
theorem dX1_spell_31 : decode cX1_spell 31 = .ok (.invokevirtual 19, 3) := by decide +kernel
theorem dX1_spell_34 : decode cX1_spell 34 = .ok (.invokestatic 28, 3) := by decide +kernel
theorem dX1_spell_37 : decode cX1_spell 37 = .ok (.ifCond .ne 5, 3) := by decide +kernel
theorem dX1_spell_40 : decode cX1_spell 40 = .ok (.iconst 0, 1) := by decide +kernel
theorem dX1_spell_41 : decode cX1_spell 41 = .ok (.ireturn, 1) := by decide +kernel
theorem dX1_spell_42 : decode cX1_spell 42 = .ok (.aload_n 1, 1) := by decide +kernel
theorem dX1_spell_43 : decode cX1_spell 43 = .ok (.aload_n 0, 1) := by decide +kernel
theorem dX1_spell_44 : decode cX1_spell 44 = .ok (.iload 4, 2) := by decide +kernel
theorem dX1_spell_46 : decode cX1_spell 46 = .ok (.invokevirtual 19, 3) := by decide +kernel
theorem dX1_spell_49 : decode cX1_spell 49 = .ok (.bipush 97, 2) := by decide +kernel
theorem dX1_spell_51 : decode cX1_spell 51 = .ok (.isub, 1) := by decide +kernel
theorem dX1_spell_52 : decode cX1_spell 52 = .ok (.invokevirtual 34, 3) := by decide +kernel
theorem dX1_spell_55 : decode cX1_spell 55 = .ok (.iinc 4 1, 3) := by decide +kernel
theorem dX1_spell_58 : decode cX1_spell 58 = .ok (.goto (-36), 3) := by decide +kernel
theorem dX1_spell_61 : decode cX1_spell 61 = .ok (.iconst 1, 1) := by decide +kernel
theorem dX1_spell_62 : decode cX1_spell 62 = .ok (.ireturn, 1) := by decide +kernel
theorem dX1_spells_0 : decode cX1_spells 0 = .ok (.aload_n 0, 1) := by decide +kernel
theorem dX1_spells_1 : decode cX1_spells 1 = .ok (.aload_n 1, 1) := by decide +kernel
theorem dX1_spells_2 : decode cX1_spells 2 = .ok (.iconst 0, 1) := by decide +kernel
theorem dX1_spells_3 : decode cX1_spells 3 = .ok (.aload_n 0, 1) := by decide +kernel
theorem dX1_spells_4 : decode cX1_spells 4 = .ok (.getfield 15, 3) := by decide +kernel
theorem dX1_spells_7 : decode cX1_spells 7 = .ok (.invokevirtual 38, 3) := by decide +kernel
theorem dX1_spells_10 : decode cX1_spells 10 = .ok (.ireturn, 1) := by decide +kernel
theorem dX2_withLetters_0 : decode cX2_withLetters 0 = .ok (.lload_n 1, 1) := by decide +kernel
theorem dX2_withLetters_1 : decode cX2_withLetters 1 = .ok (.lstore_n 3, 1) := by decide +kernel
theorem dX2_withLetters_2 : decode cX2_withLetters 2 = .ok (.iconst 0, 1) := by decide +kernel
theorem dX2_withLetters_3 : decode cX2_withLetters 3 = .ok (.istore 5, 2) := by decide +kernel
theorem dX2_withLetters_5 : decode cX2_withLetters 5 = .ok (.iload 5, 2) := by decide +kernel
theorem dX2_withLetters_7 : decode cX2_withLetters 7 = .ok (.bipush 16, 2) := by decide +kernel
theorem dX2_withLetters_9 : decode cX2_withLetters 9 = .ok (.if_icmp .ge 40, 3) := by decide +kernel
theorem dX2_withLetters_12 : decode cX2_withLetters 12 = .ok (.iconst 0, 1) := by decide +kernel
theorem dX2_withLetters_13 : decode cX2_withLetters 13 = .ok (.istore 6, 2) := by decide +kernel
theorem dX2_withLetters_15 : decode cX2_withLetters 15 = .ok (.iload 6, 2) := by decide +kernel
theorem dX2_withLetters_17 : decode cX2_withLetters 17 = .ok (.iconst 5, 1) := by decide +kernel
theorem dX2_withLetters_18 : decode cX2_withLetters 18 = .ok (.if_icmp .gt 25, 3) := by decide +kernel
theorem dX2_withLetters_21 : decode cX2_withLetters 21 = .ok (.ldc2_w 9, 3) := by decide +kernel
theorem dX2_withLetters_24 : decode cX2_withLetters 24 = .ok (.lload_n 3, 1) := by decide +kernel
theorem dX2_withLetters_25 : decode cX2_withLetters 25 = .ok (.lmul, 1) := by decide +kernel
theorem dX2_withLetters_26 : decode cX2_withLetters 26 = .ok (.aload_n 0, 1) := by decide +kernel
theorem dX2_withLetters_27 : decode cX2_withLetters 27 = .ok (.iload 5, 2) := by decide +kernel
theorem dX2_withLetters_29 : decode cX2_withLetters 29 = .ok (.iload 6, 2) := by decide +kernel
theorem dX2_withLetters_31 : decode cX2_withLetters 31 = .ok (.invokestatic 11, 3) := by decide +kernel
theorem dX2_withLetters_34 : decode cX2_withLetters 34 = .ok (.i2l, 1) := by decide +kernel
theorem dX2_withLetters_35 : decode cX2_withLetters 35 = .ok (.ladd, 1) := by decide +kernel
theorem dX2_withLetters_36 : decode cX2_withLetters 36 = .ok (.lstore_n 3, 1) := by decide +kernel
theorem dX2_withLetters_37 : decode cX2_withLetters 37 = .ok (.iinc 6 1, 3) := by decide +kernel
theorem dX2_withLetters_40 : decode cX2_withLetters 40 = .ok (.goto (-25), 3) := by decide +kernel
theorem dX2_withLetters_43 : decode cX2_withLetters 43 = .ok (.iinc 5 1, 3) := by decide +kernel
theorem dX2_withLetters_46 : decode cX2_withLetters 46 = .ok (.goto (-41), 3) := by decide +kernel
theorem dX2_withLetters_49 : decode cX2_withLetters 49 = .ok (.lload_n 3, 1) := by decide +kernel
theorem dX2_withLetters_50 : decode cX2_withLetters 50 = .ok (.lreturn, 1) := by decide +kernel
theorem dX2_withFisher_0 : decode cX2_withFisher 0 = .ok (.lload_n 2, 1) := by decide +kernel
theorem dX2_withFisher_1 : decode cX2_withFisher 1 = .ok (.lstore 4, 2) := by decide +kernel
theorem dX2_withFisher_3 : decode cX2_withFisher 3 = .ok (.iconst 0, 1) := by decide +kernel
theorem dX2_withFisher_4 : decode cX2_withFisher 4 = .ok (.istore 6, 2) := by decide +kernel
theorem dX2_withFisher_6 : decode cX2_withFisher 6 = .ok (.iload 6, 2) := by decide +kernel
theorem dX2_withFisher_8 : decode cX2_withFisher 8 = .ok (.iconst 4, 1) := by decide +kernel
theorem dX2_withFisher_9 : decode cX2_withFisher 9 = .ok (.if_icmp .gt 26, 3) := by decide +kernel
theorem dX2_withFisher_12 : decode cX2_withFisher 12 = .ok (.ldc2_w 9, 3) := by decide +kernel
theorem dX2_withFisher_15 : decode cX2_withFisher 15 = .ok (.lload 4, 2) := by decide +kernel
theorem dX2_withFisher_17 : decode cX2_withFisher 17 = .ok (.lmul, 1) := by decide +kernel
theorem dX2_withFisher_18 : decode cX2_withFisher 18 = .ok (.aload_n 0, 1) := by decide +kernel
theorem dX2_withFisher_19 : decode cX2_withFisher 19 = .ok (.iload_n 1, 1) := by decide +kernel
theorem dX2_withFisher_20 : decode cX2_withFisher 20 = .ok (.iload 6, 2) := by decide +kernel
theorem dX2_withFisher_22 : decode cX2_withFisher 22 = .ok (.invokestatic 17, 3) := by decide +kernel
theorem dX2_withFisher_25 : decode cX2_withFisher 25 = .ok (.i2l, 1) := by decide +kernel
theorem dX2_withFisher_26 : decode cX2_withFisher 26 = .ok (.ladd, 1) := by decide +kernel
theorem dX2_withFisher_27 : decode cX2_withFisher 27 = .ok (.lstore 4, 2) := by decide +kernel
theorem dX2_withFisher_29 : decode cX2_withFisher 29 = .ok (.iinc 6 1, 3) := by decide +kernel
theorem dX2_withFisher_32 : decode cX2_withFisher 32 = .ok (.goto (-26), 3) := by decide +kernel
theorem dX2_withFisher_35 : decode cX2_withFisher 35 = .ok (.iconst 0, 1) := by decide +kernel
theorem dX2_withFisher_36 : decode cX2_withFisher 36 = .ok (.istore 6, 2) := by decide +kernel
theorem dX2_withFisher_38 : decode cX2_withFisher 38 = .ok (.iload 6, 2) := by decide +kernel
theorem dX2_withFisher_40 : decode cX2_withFisher 40 = .ok (.iconst 1, 1) := by decide +kernel
theorem dX2_withFisher_41 : decode cX2_withFisher 41 = .ok (.if_icmp .gt 26, 3) := by decide +kernel
theorem dX2_withFisher_44 : decode cX2_withFisher 44 = .ok (.ldc2_w 9, 3) := by decide +kernel
theorem dX2_withFisher_47 : decode cX2_withFisher 47 = .ok (.lload 4, 2) := by decide +kernel
theorem dX2_withFisher_49 : decode cX2_withFisher 49 = .ok (.lmul, 1) := by decide +kernel
theorem dX2_withFisher_50 : decode cX2_withFisher 50 = .ok (.aload_n 0, 1) := by decide +kernel
theorem dX2_withFisher_51 : decode cX2_withFisher 51 = .ok (.iload_n 1, 1) := by decide +kernel
theorem dX2_withFisher_52 : decode cX2_withFisher 52 = .ok (.iload 6, 2) := by decide +kernel
theorem dX2_withFisher_54 : decode cX2_withFisher 54 = .ok (.invokestatic 20, 3) := by decide +kernel
theorem dX2_withFisher_57 : decode cX2_withFisher 57 = .ok (.i2l, 1) := by decide +kernel
theorem dX2_withFisher_58 : decode cX2_withFisher 58 = .ok (.ladd, 1) := by decide +kernel
theorem dX2_withFisher_59 : decode cX2_withFisher 59 = .ok (.lstore 4, 2) := by decide +kernel
theorem dX2_withFisher_61 : decode cX2_withFisher 61 = .ok (.iinc 6 1, 3) := by decide +kernel
theorem dX2_withFisher_64 : decode cX2_withFisher 64 = .ok (.goto (-26), 3) := by decide +kernel
theorem dX2_withFisher_67 : decode cX2_withFisher 67 = .ok (.iconst 0, 1) := by decide +kernel
theorem dX2_withFisher_68 : decode cX2_withFisher 68 = .ok (.istore 6, 2) := by decide +kernel
theorem dX2_withFisher_70 : decode cX2_withFisher 70 = .ok (.iload 6, 2) := by decide +kernel
theorem dX2_withFisher_72 : decode cX2_withFisher 72 = .ok (.bipush 54, 2) := by decide +kernel
theorem dX2_withFisher_74 : decode cX2_withFisher 74 = .ok (.if_icmp .ge 39, 3) := by decide +kernel
theorem dX2_withFisher_77 : decode cX2_withFisher 77 = .ok (.aload_n 0, 1) := by decide +kernel
theorem dX2_withFisher_78 : decode cX2_withFisher 78 = .ok (.iload_n 1, 1) := by decide +kernel
theorem dX2_withFisher_79 : decode cX2_withFisher 79 = .ok (.iload 6, 2) := by decide +kernel
theorem dX2_withFisher_81 : decode cX2_withFisher 81 = .ok (.invokestatic 25, 3) := by decide +kernel
theorem dX2_withFisher_84 : decode cX2_withFisher 84 = .ok (.istore 7, 2) := by decide +kernel
theorem dX2_withFisher_86 : decode cX2_withFisher 86 = .ok (.iload 7, 2) := by decide +kernel
theorem dX2_withFisher_88 : decode cX2_withFisher 88 = .ok (.iconst (-1), 1) := by decide +kernel
theorem dX2_withFisher_89 : decode cX2_withFisher 89 = .ok (.if_icmp .ne 6, 3) := by decide +kernel
theorem dX2_withFisher_92 : decode cX2_withFisher 92 = .ok (.goto 21, 3) := by decide +kernel
theorem dX2_withFisher_95 : decode cX2_withFisher 95 = .ok (.ldc2_w 9, 3) := by decide +kernel
theorem dX2_withFisher_98 : decode cX2_withFisher 98 = .ok (.lload 4, 2) := by decide +kernel
theorem dX2_withFisher_100 : decode cX2_withFisher 100 = .ok (.lmul, 1) := by decide +kernel
theorem dX2_withFisher_101 : decode cX2_withFisher 101 = .ok (.iload 7, 2) := by decide +kernel
theorem dX2_withFisher_103 : decode cX2_withFisher 103 = .ok (.i2l, 1) := by decide +kernel
theorem dX2_withFisher_104 : decode cX2_withFisher 104 = .ok (.ladd, 1) := by decide +kernel
theorem dX2_withFisher_105 : decode cX2_withFisher 105 = .ok (.lstore 4, 2) := by decide +kernel
theorem dX2_withFisher_107 : decode cX2_withFisher 107 = .ok (.iinc 6 1, 3) := by decide +kernel
theorem dX2_withFisher_110 : decode cX2_withFisher 110 = .ok (.goto (-40), 3) := by decide +kernel
theorem dX2_withFisher_113 : decode cX2_withFisher 113 = .ok (.lload 4, 2) := by decide +kernel
theorem dX2_withFisher_115 : decode cX2_withFisher 115 = .ok (.lreturn, 1) := by decide +kernel
theorem dX2_withNames_0 : decode cX2_withNames 0 = .ok (.lload_n 2, 1) := by decide +kernel
theorem dX2_withNames_1 : decode cX2_withNames 1 = .ok (.lstore 4, 2) := by decide +kernel
theorem dX2_withNames_3 : decode cX2_withNames 3 = .ok (.aload_n 0, 1) := by decide +kernel
theorem dX2_withNames_4 : decode cX2_withNames 4 = .ok (.iload_n 1, 1) := by decide +kernel
theorem dX2_withNames_5 : decode cX2_withNames 5 = .ok (.invokevirtual 28, 3) := by decide +kernel
theorem dX2_withNames_8 : decode cX2_withNames 8 = .ok (.istore 6, 2) := by decide +kernel
theorem dX2_withNames_10 : decode cX2_withNames 10 = .ok (.iconst 0, 1) := by decide +kernel
theorem dX2_withNames_11 : decode cX2_withNames 11 = .ok (.istore 7, 2) := by decide +kernel
theorem dX2_withNames_13 : decode cX2_withNames 13 = .ok (.iload 7, 2) := by decide +kernel
theorem dX2_withNames_15 : decode cX2_withNames 15 = .ok (.iload 6, 2) := by decide +kernel
theorem dX2_withNames_17 : decode cX2_withNames 17 = .ok (.if_icmp .ge 54, 3) := by decide +kernel
theorem dX2_withNames_20 : decode cX2_withNames 20 = .ok (.iconst 0, 1) := by decide +kernel
theorem dX2_withNames_21 : decode cX2_withNames 21 = .ok (.istore 8, 2) := by decide +kernel
theorem dX2_withNames_23 : decode cX2_withNames 23 = .ok (.iload 8, 2) := by decide +kernel
theorem dX2_withNames_25 : decode cX2_withNames 25 = .ok (.iconst 4, 1) := by decide +kernel
theorem dX2_withNames_26 : decode cX2_withNames 26 = .ok (.if_icmp .gt 28, 3) := by decide +kernel
theorem dX2_withNames_29 : decode cX2_withNames 29 = .ok (.ldc2_w 9, 3) := by decide +kernel
theorem dX2_withNames_32 : decode cX2_withNames 32 = .ok (.lload 4, 2) := by decide +kernel
theorem dX2_withNames_34 : decode cX2_withNames 34 = .ok (.lmul, 1) := by decide +kernel
theorem dX2_withNames_35 : decode cX2_withNames 35 = .ok (.aload_n 0, 1) := by decide +kernel
theorem dX2_withNames_36 : decode cX2_withNames 36 = .ok (.iload_n 1, 1) := by decide +kernel
theorem dX2_withNames_37 : decode cX2_withNames 37 = .ok (.iload 7, 2) := by decide +kernel
theorem dX2_withNames_39 : decode cX2_withNames 39 = .ok (.iload 8, 2) := by decide +kernel
theorem dX2_withNames_41 : decode cX2_withNames 41 = .ok (.invokestatic 34, 3) := by decide +kernel
theorem dX2_withNames_44 : decode cX2_withNames 44 = .ok (.i2l, 1) := by decide +kernel
theorem dX2_withNames_45 : decode cX2_withNames 45 = .ok (.ladd, 1) := by decide +kernel
theorem dX2_withNames_46 : decode cX2_withNames 46 = .ok (.lstore 4, 2) := by decide +kernel
theorem dX2_withNames_48 : decode cX2_withNames 48 = .ok (.iinc 8 1, 3) := by decide +kernel
theorem dX2_withNames_51 : decode cX2_withNames 51 = .ok (.goto (-28), 3) := by decide +kernel
theorem dX2_withNames_54 : decode cX2_withNames 54 = .ok (.aload_n 0, 1) := by decide +kernel
theorem dX2_withNames_55 : decode cX2_withNames 55 = .ok (.iload_n 1, 1) := by decide +kernel
theorem dX2_withNames_56 : decode cX2_withNames 56 = .ok (.iload 7, 2) := by decide +kernel
theorem dX2_withNames_58 : decode cX2_withNames 58 = .ok (.lload 4, 2) := by decide +kernel
theorem dX2_withNames_60 : decode cX2_withNames 60 = .ok (.invokestatic 38, 3) := by decide +kernel
theorem dX2_withNames_63 : decode cX2_withNames 63 = .ok (.lstore 4, 2) := by decide +kernel
theorem dX2_withNames_65 : decode cX2_withNames 65 = .ok (.iinc 7 1, 3) := by decide +kernel
theorem dX2_withNames_68 : decode cX2_withNames 68 = .ok (.goto (-55), 3) := by decide +kernel
theorem dX2_withNames_71 : decode cX2_withNames 71 = .ok (.lload 4, 2) := by decide +kernel
theorem dX2_withNames_73 : decode cX2_withNames 73 = .ok (.lreturn, 1) := by decide +kernel
theorem dX2_withKnots_0 : decode cX2_withKnots 0 = .ok (.lload_n 3, 1) := by decide +kernel
theorem dX2_withKnots_1 : decode cX2_withKnots 1 = .ok (.lstore 5, 2) := by decide +kernel
theorem dX2_withKnots_3 : decode cX2_withKnots 3 = .ok (.aload_n 0, 1) := by decide +kernel
theorem dX2_withKnots_4 : decode cX2_withKnots 4 = .ok (.iload_n 1, 1) := by decide +kernel
theorem dX2_withKnots_5 : decode cX2_withKnots 5 = .ok (.iload_n 2, 1) := by decide +kernel
theorem dX2_withKnots_6 : decode cX2_withKnots 6 = .ok (.invokevirtual 44, 3) := by decide +kernel
theorem dX2_withKnots_9 : decode cX2_withKnots 9 = .ok (.istore 7, 2) := by decide +kernel
theorem dX2_withKnots_11 : decode cX2_withKnots 11 = .ok (.iconst 0, 1) := by decide +kernel
theorem dX2_withKnots_12 : decode cX2_withKnots 12 = .ok (.istore 8, 2) := by decide +kernel
theorem dX2_withKnots_14 : decode cX2_withKnots 14 = .ok (.iload 8, 2) := by decide +kernel
theorem dX2_withKnots_16 : decode cX2_withKnots 16 = .ok (.iload 7, 2) := by decide +kernel
theorem dX2_withKnots_18 : decode cX2_withKnots 18 = .ok (.if_icmp .ge 44, 3) := by decide +kernel
theorem dX2_withKnots_21 : decode cX2_withKnots 21 = .ok (.iconst 0, 1) := by decide +kernel
theorem dX2_withKnots_22 : decode cX2_withKnots 22 = .ok (.istore 9, 2) := by decide +kernel
theorem dX2_withKnots_24 : decode cX2_withKnots 24 = .ok (.iload 9, 2) := by decide +kernel
theorem dX2_withKnots_26 : decode cX2_withKnots 26 = .ok (.iconst 2, 1) := by decide +kernel
theorem dX2_withKnots_27 : decode cX2_withKnots 27 = .ok (.if_icmp .gt 29, 3) := by decide +kernel
theorem dX2_withKnots_30 : decode cX2_withKnots 30 = .ok (.ldc2_w 9, 3) := by decide +kernel
theorem dX2_withKnots_33 : decode cX2_withKnots 33 = .ok (.lload 5, 2) := by decide +kernel
theorem dX2_withKnots_35 : decode cX2_withKnots 35 = .ok (.lmul, 1) := by decide +kernel
theorem dX2_withKnots_36 : decode cX2_withKnots 36 = .ok (.aload_n 0, 1) := by decide +kernel
theorem dX2_withKnots_37 : decode cX2_withKnots 37 = .ok (.iload_n 1, 1) := by decide +kernel
theorem dX2_withKnots_38 : decode cX2_withKnots 38 = .ok (.iload_n 2, 1) := by decide +kernel
theorem dX2_withKnots_39 : decode cX2_withKnots 39 = .ok (.iload 8, 2) := by decide +kernel
theorem dX2_withKnots_41 : decode cX2_withKnots 41 = .ok (.iload 9, 2) := by decide +kernel
theorem dX2_withKnots_43 : decode cX2_withKnots 43 = .ok (.invokestatic 48, 3) := by decide +kernel
theorem dX2_withKnots_46 : decode cX2_withKnots 46 = .ok (.i2l, 1) := by decide +kernel
theorem dX2_withKnots_47 : decode cX2_withKnots 47 = .ok (.ladd, 1) := by decide +kernel
theorem dX2_withKnots_48 : decode cX2_withKnots 48 = .ok (.lstore 5, 2) := by decide +kernel
theorem dX2_withKnots_50 : decode cX2_withKnots 50 = .ok (.iinc 9 1, 3) := by decide +kernel
theorem dX2_withKnots_53 : decode cX2_withKnots 53 = .ok (.goto (-29), 3) := by decide +kernel
theorem dX2_withKnots_56 : decode cX2_withKnots 56 = .ok (.iinc 8 1, 3) := by decide +kernel
theorem dX2_withKnots_59 : decode cX2_withKnots 59 = .ok (.goto (-45), 3) := by decide +kernel
theorem dX2_withKnots_62 : decode cX2_withKnots 62 = .ok (.lload 5, 2) := by decide +kernel
theorem dX2_withKnots_64 : decode cX2_withKnots 64 = .ok (.lreturn, 1) := by decide +kernel
theorem dX2_withEntries_0 : decode cX2_withEntries 0 = .ok (.lload_n 1, 1) := by decide +kernel
theorem dX2_withEntries_1 : decode cX2_withEntries 1 = .ok (.lstore_n 3, 1) := by decide +kernel
theorem dX2_withEntries_2 : decode cX2_withEntries 2 = .ok (.aload_n 0, 1) := by decide +kernel
theorem dX2_withEntries_3 : decode cX2_withEntries 3 = .ok (.bipush 7, 2) := by decide +kernel
theorem dX2_withEntries_5 : decode cX2_withEntries 5 = .ok (.invokevirtual 52, 3) := by decide +kernel
theorem dX2_withEntries_8 : decode cX2_withEntries 8 = .ok (.istore 5, 2) := by decide +kernel
theorem dX2_withEntries_10 : decode cX2_withEntries 10 = .ok (.iconst 0, 1) := by decide +kernel
theorem dX2_withEntries_11 : decode cX2_withEntries 11 = .ok (.istore 6, 2) := by decide +kernel
theorem dX2_withEntries_13 : decode cX2_withEntries 13 = .ok (.iload 6, 2) := by decide +kernel
theorem dX2_withEntries_15 : decode cX2_withEntries 15 = .ok (.iload 5, 2) := by decide +kernel
theorem dX2_withEntries_17 : decode cX2_withEntries 17 = .ok (.if_icmp .ge 40, 3) := by decide +kernel
theorem dX2_withEntries_20 : decode cX2_withEntries 20 = .ok (.iconst 0, 1) := by decide +kernel
theorem dX2_withEntries_21 : decode cX2_withEntries 21 = .ok (.istore 7, 2) := by decide +kernel
theorem dX2_withEntries_23 : decode cX2_withEntries 23 = .ok (.iload 7, 2) := by decide +kernel
theorem dX2_withEntries_25 : decode cX2_withEntries 25 = .ok (.iconst 3, 1) := by decide +kernel
theorem dX2_withEntries_26 : decode cX2_withEntries 26 = .ok (.if_icmp .gt 25, 3) := by decide +kernel
theorem dX2_withEntries_29 : decode cX2_withEntries 29 = .ok (.ldc2_w 9, 3) := by decide +kernel
theorem dX2_withEntries_32 : decode cX2_withEntries 32 = .ok (.lload_n 3, 1) := by decide +kernel
theorem dX2_withEntries_33 : decode cX2_withEntries 33 = .ok (.lmul, 1) := by decide +kernel
theorem dX2_withEntries_34 : decode cX2_withEntries 34 = .ok (.aload_n 0, 1) := by decide +kernel
theorem dX2_withEntries_35 : decode cX2_withEntries 35 = .ok (.iload 6, 2) := by decide +kernel
theorem dX2_withEntries_37 : decode cX2_withEntries 37 = .ok (.iload 7, 2) := by decide +kernel
theorem dX2_withEntries_39 : decode cX2_withEntries 39 = .ok (.invokestatic 55, 3) := by decide +kernel
theorem dX2_withEntries_42 : decode cX2_withEntries 42 = .ok (.i2l, 1) := by decide +kernel
theorem dX2_withEntries_43 : decode cX2_withEntries 43 = .ok (.ladd, 1) := by decide +kernel
theorem dX2_withEntries_44 : decode cX2_withEntries 44 = .ok (.lstore_n 3, 1) := by decide +kernel
theorem dX2_withEntries_45 : decode cX2_withEntries 45 = .ok (.iinc 7 1, 3) := by decide +kernel
theorem dX2_withEntries_48 : decode cX2_withEntries 48 = .ok (.goto (-25), 3) := by decide +kernel
theorem dX2_withEntries_51 : decode cX2_withEntries 51 = .ok (.iinc 6 1, 3) := by decide +kernel
theorem dX2_withEntries_54 : decode cX2_withEntries 54 = .ok (.goto (-41), 3) := by decide +kernel
theorem dX2_withEntries_57 : decode cX2_withEntries 57 = .ok (.lload_n 3, 1) := by decide +kernel
theorem dX2_withEntries_58 : decode cX2_withEntries 58 = .ok (.lreturn, 1) := by decide +kernel
theorem dX2_withBuffer_0 : decode cX2_withBuffer 0 = .ok (.ldc2_w 9, 3) := by decide +kernel
theorem dX2_withBuffer_3 : decode cX2_withBuffer 3 = .ok (.lload_n 1, 1) := by decide +kernel
theorem dX2_withBuffer_4 : decode cX2_withBuffer 4 = .ok (.lmul, 1) := by decide +kernel
theorem dX2_withBuffer_5 : decode cX2_withBuffer 5 = .ok (.aload_n 0, 1) := by decide +kernel
theorem dX2_withBuffer_6 : decode cX2_withBuffer 6 = .ok (.invokevirtual 58, 3) := by decide +kernel
theorem dX2_withBuffer_9 : decode cX2_withBuffer 9 = .ok (.i2l, 1) := by decide +kernel
theorem dX2_withBuffer_10 : decode cX2_withBuffer 10 = .ok (.ladd, 1) := by decide +kernel
theorem dX2_withBuffer_11 : decode cX2_withBuffer 11 = .ok (.lstore_n 3, 1) := by decide +kernel
theorem dX2_withBuffer_12 : decode cX2_withBuffer 12 = .ok (.iconst 0, 1) := by decide +kernel
theorem dX2_withBuffer_13 : decode cX2_withBuffer 13 = .ok (.istore 5, 2) := by decide +kernel
theorem dX2_withBuffer_15 : decode cX2_withBuffer 15 = .ok (.iload 5, 2) := by decide +kernel
theorem dX2_withBuffer_17 : decode cX2_withBuffer 17 = .ok (.aload_n 0, 1) := by decide +kernel
theorem dX2_withBuffer_18 : decode cX2_withBuffer 18 = .ok (.invokevirtual 58, 3) := by decide +kernel
theorem dX2_withBuffer_21 : decode cX2_withBuffer 21 = .ok (.if_icmp .ge 23, 3) := by decide +kernel
theorem dX2_withBuffer_24 : decode cX2_withBuffer 24 = .ok (.ldc2_w 9, 3) := by decide +kernel
theorem dX2_withBuffer_27 : decode cX2_withBuffer 27 = .ok (.lload_n 3, 1) := by decide +kernel
theorem dX2_withBuffer_28 : decode cX2_withBuffer 28 = .ok (.lmul, 1) := by decide +kernel
theorem dX2_withBuffer_29 : decode cX2_withBuffer 29 = .ok (.aload_n 0, 1) := by decide +kernel
theorem dX2_withBuffer_30 : decode cX2_withBuffer 30 = .ok (.iload 5, 2) := by decide +kernel
theorem dX2_withBuffer_32 : decode cX2_withBuffer 32 = .ok (.invokevirtual 64, 3) := by decide +kernel
theorem dX2_withBuffer_35 : decode cX2_withBuffer 35 = .ok (.i2l, 1) := by decide +kernel
theorem dX2_withBuffer_36 : decode cX2_withBuffer 36 = .ok (.ladd, 1) := by decide +kernel
theorem dX2_withBuffer_37 : decode cX2_withBuffer 37 = .ok (.lstore_n 3, 1) := by decide +kernel
theorem dX2_withBuffer_38 : decode cX2_withBuffer 38 = .ok (.iinc 5 1, 3) := by decide +kernel
theorem dX2_withBuffer_41 : decode cX2_withBuffer 41 = .ok (.goto (-26), 3) := by decide +kernel
theorem dX2_withBuffer_44 : decode cX2_withBuffer 44 = .ok (.lload_n 3, 1) := by decide +kernel
theorem dX2_withBuffer_45 : decode cX2_withBuffer 45 = .ok (.lreturn, 1) := by decide +kernel
theorem dX2_bitsOfShare_0 : decode cX2_bitsOfShare 0 = .ok (.dload_n 0, 1) := by decide +kernel
theorem dX2_bitsOfShare_1 : decode cX2_bitsOfShare 1 = .ok (.dconst 0, 1) := by decide +kernel
theorem dX2_bitsOfShare_2 : decode cX2_bitsOfShare 2 = .ok (.dcmp .g, 1) := by decide +kernel
theorem dX2_bitsOfShare_3 : decode cX2_bitsOfShare 3 = .ok (.ifCond .gt 5, 3) := by decide +kernel
theorem dX2_bitsOfShare_6 : decode cX2_bitsOfShare 6 = .ok (.lconst 0, 1) := by decide +kernel
theorem dX2_bitsOfShare_7 : decode cX2_bitsOfShare 7 = .ok (.lreturn, 1) := by decide +kernel
theorem dX2_bitsOfShare_8 : decode cX2_bitsOfShare 8 = .ok (.dload_n 0, 1) := by decide +kernel
theorem dX2_bitsOfShare_9 : decode cX2_bitsOfShare 9 = .ok (.dstore_n 2, 1) := by decide +kernel
theorem dX2_bitsOfShare_10 : decode cX2_bitsOfShare 10 = .ok (.ldc2_w 65, 3) := by decide +kernel
theorem dX2_bitsOfShare_13 : decode cX2_bitsOfShare 13 = .ok (.lstore 4, 2) := by decide +kernel
theorem dX2_bitsOfShare_15 : decode cX2_bitsOfShare 15 = .ok (.dload_n 2, 1) := by decide +kernel
theorem dX2_bitsOfShare_16 : decode cX2_bitsOfShare 16 = .ok (.dconst 1, 1) := by decide +kernel
theorem dX2_bitsOfShare_17 : decode cX2_bitsOfShare 17 = .ok (.dcmp .g, 1) := by decide +kernel
theorem dX2_bitsOfShare_18 : decode cX2_bitsOfShare 18 = .ok (.ifCond .ge 25, 3) := by decide +kernel
theorem dX2_bitsOfShare_21 : decode cX2_bitsOfShare 21 = .ok (.lload 4, 2) := by decide +kernel
theorem dX2_bitsOfShare_23 : decode cX2_bitsOfShare 23 = .ok (.lconst 1, 1) := by decide +kernel
theorem dX2_bitsOfShare_24 : decode cX2_bitsOfShare 24 = .ok (.lcmp, 1) := by decide +kernel
theorem dX2_bitsOfShare_25 : decode cX2_bitsOfShare 25 = .ok (.ifCond .le 18, 3) := by decide +kernel
theorem dX2_bitsOfShare_28 : decode cX2_bitsOfShare 28 = .ok (.dload_n 2, 1) := by decide +kernel
theorem dX2_bitsOfShare_29 : decode cX2_bitsOfShare 29 = .ok (.ldc2_w 67, 3) := by decide +kernel
theorem dX2_bitsOfShare_32 : decode cX2_bitsOfShare 32 = .ok (.dmul, 1) := by decide +kernel
theorem dX2_bitsOfShare_33 : decode cX2_bitsOfShare 33 = .ok (.dstore_n 2, 1) := by decide +kernel
theorem dX2_bitsOfShare_34 : decode cX2_bitsOfShare 34 = .ok (.lload 4, 2) := by decide +kernel
theorem dX2_bitsOfShare_36 : decode cX2_bitsOfShare 36 = .ok (.lconst 1, 1) := by decide +kernel
theorem dX2_bitsOfShare_37 : decode cX2_bitsOfShare 37 = .ok (.lsub, 1) := by decide +kernel
theorem dX2_bitsOfShare_38 : decode cX2_bitsOfShare 38 = .ok (.lstore 4, 2) := by decide +kernel
theorem dX2_bitsOfShare_40 : decode cX2_bitsOfShare 40 = .ok (.goto (-25), 3) := by decide +kernel
theorem dX2_bitsOfShare_43 : decode cX2_bitsOfShare 43 = .ok (.lload 4, 2) := by decide +kernel
theorem dX2_bitsOfShare_45 : decode cX2_bitsOfShare 45 = .ok (.bipush 52, 2) := by decide +kernel
theorem dX2_bitsOfShare_47 : decode cX2_bitsOfShare 47 = .ok (.lshl, 1) := by decide +kernel
theorem dX2_bitsOfShare_48 : decode cX2_bitsOfShare 48 = .ok (.dload_n 2, 1) := by decide +kernel
theorem dX2_bitsOfShare_49 : decode cX2_bitsOfShare 49 = .ok (.dconst 1, 1) := by decide +kernel
theorem dX2_bitsOfShare_50 : decode cX2_bitsOfShare 50 = .ok (.dsub, 1) := by decide +kernel
theorem dX2_bitsOfShare_51 : decode cX2_bitsOfShare 51 = .ok (.ldc2_w 69, 3) := by decide +kernel
theorem dX2_bitsOfShare_54 : decode cX2_bitsOfShare 54 = .ok (.dmul, 1) := by decide +kernel
theorem dX2_bitsOfShare_55 : decode cX2_bitsOfShare 55 = .ok (.d2l, 1) := by decide +kernel
theorem dX2_bitsOfShare_56 : decode cX2_bitsOfShare 56 = .ok (.ladd, 1) := by decide +kernel
theorem dX2_bitsOfShare_57 : decode cX2_bitsOfShare 57 = .ok (.lreturn, 1) := by decide +kernel
theorem dX3_init_0 : decode cX3_init 0 = .ok (.aload_n 0, 1) := by decide +kernel
theorem dX3_init_1 : decode cX3_init 1 = .ok (.invokespecial 3, 3) := by decide +kernel
theorem dX3_init_4 : decode cX3_init 4 = .ok (.aload_n 0, 1) := by decide +kernel
theorem dX3_init_5 : decode cX3_init 5 = .ok (.sipush 5460, 3) := by decide +kernel
theorem dX3_init_8 : decode cX3_init 8 = .ok (.newarray .int, 2) := by decide +kernel
theorem dX3_init_10 : decode cX3_init 10 = .ok (.putfield 11, 3) := by decide +kernel
theorem dX3_init_13 : decode cX3_init 13 = .ok (.aload_n 0, 1) := by decide +kernel
theorem dX3_init_14 : decode cX3_init 14 = .ok (.sipush 910, 3) := by decide +kernel
theorem dX3_init_17 : decode cX3_init 17 = .ok (.newarray .int, 2) := by decide +kernel
theorem dX3_init_19 : decode cX3_init 19 = .ok (.putfield 17, 3) := by decide +kernel
theorem dX3_init_22 : decode cX3_init 22 = .ok (.aload_n 0, 1) := by decide +kernel
theorem dX3_init_23 : decode cX3_init 23 = .ok (.iconst 0, 1) := by decide +kernel
theorem dX3_init_24 : decode cX3_init 24 = .ok (.putfield 20, 3) := by decide +kernel
theorem dX3_init_27 : decode cX3_init 27 = .ok (.aload_n 0, 1) := by decide +kernel
theorem dX3_init_28 : decode cX3_init 28 = .ok (.iconst 0, 1) := by decide +kernel
theorem dX3_init_29 : decode cX3_init 29 = .ok (.putfield 24, 3) := by decide +kernel
theorem dX3_init_32 : decode cX3_init 32 = .ok (.aload_n 0, 1) := by decide +kernel
theorem dX3_init_33 : decode cX3_init 33 = .ok (.iconst 0, 1) := by decide +kernel
theorem dX3_init_34 : decode cX3_init 34 = .ok (.putfield 27, 3) := by decide +kernel
theorem dX3_init_37 : decode cX3_init 37 = .ok (.return_, 1) := by decide +kernel
theorem dX3_size_0 : decode cX3_size 0 = .ok (.aload_n 0, 1) := by decide +kernel
theorem dX3_size_1 : decode cX3_size 1 = .ok (.getfield 24, 3) := by decide +kernel
theorem dX3_size_4 : decode cX3_size 4 = .ok (.ireturn, 1) := by decide +kernel
theorem dX3_push_0 : decode cX3_push 0 = .ok (.aload_n 0, 1) := by decide +kernel
theorem dX3_push_1 : decode cX3_push 1 = .ok (.getfield 24, 3) := by decide +kernel
theorem dX3_push_4 : decode cX3_push 4 = .ok (.bipush 6, 2) := by decide +kernel
theorem dX3_push_6 : decode cX3_push 6 = .ok (.if_icmp .ne 26, 3) := by decide +kernel
theorem dX3_push_9 : decode cX3_push 9 = .ok (.aload_n 0, 1) := by decide +kernel
theorem dX3_push_10 : decode cX3_push 10 = .ok (.aload_n 0, 1) := by decide +kernel
theorem dX3_push_11 : decode cX3_push 11 = .ok (.getfield 20, 3) := by decide +kernel
theorem dX3_push_14 : decode cX3_push 14 = .ok (.iconst 1, 1) := by decide +kernel
theorem dX3_push_15 : decode cX3_push 15 = .ok (.iadd, 1) := by decide +kernel
theorem dX3_push_16 : decode cX3_push 16 = .ok (.bipush 6, 2) := by decide +kernel
theorem dX3_push_18 : decode cX3_push 18 = .ok (.irem, 1) := by decide +kernel
theorem dX3_push_19 : decode cX3_push 19 = .ok (.putfield 20, 3) := by decide +kernel
theorem dX3_push_22 : decode cX3_push 22 = .ok (.aload_n 0, 1) := by decide +kernel
theorem dX3_push_23 : decode cX3_push 23 = .ok (.dup, 1) := by decide +kernel
theorem dX3_push_24 : decode cX3_push 24 = .ok (.getfield 24, 3) := by decide +kernel
theorem dX3_push_27 : decode cX3_push 27 = .ok (.iconst 1, 1) := by decide +kernel
theorem dX3_push_28 : decode cX3_push 28 = .ok (.isub, 1) := by decide +kernel
theorem dX3_push_29 : decode cX3_push 29 = .ok (.putfield 24, 3) := by decide +kernel
theorem dX3_push_32 : decode cX3_push 32 = .ok (.aload_n 1, 1) := by decide +kernel
theorem dX3_push_33 : decode cX3_push 33 = .ok (.aload_n 0, 1) := by decide +kernel
theorem dX3_push_34 : decode cX3_push 34 = .ok (.getfield 11, 3) := by decide +kernel
theorem dX3_push_37 : decode cX3_push 37 = .ok (.aload_n 0, 1) := by decide +kernel
theorem dX3_push_38 : decode cX3_push 38 = .ok (.aload_n 0, 1) := by decide +kernel
theorem dX3_push_39 : decode cX3_push 39 = .ok (.getfield 24, 3) := by decide +kernel
theorem dX3_push_42 : decode cX3_push 42 = .ok (.invokevirtual 31, 3) := by decide +kernel
theorem dX3_push_45 : decode cX3_push 45 = .ok (.invokevirtual 35, 3) := by decide +kernel
theorem dX3_push_48 : decode cX3_push 48 = .ok (.aload_n 0, 1) := by decide +kernel
theorem dX3_push_49 : decode cX3_push 49 = .ok (.dup, 1) := by decide +kernel
theorem dX3_push_50 : decode cX3_push 50 = .ok (.getfield 24, 3) := by decide +kernel
theorem dX3_push_53 : decode cX3_push 53 = .ok (.iconst 1, 1) := by decide +kernel
theorem dX3_push_54 : decode cX3_push 54 = .ok (.iadd, 1) := by decide +kernel
theorem dX3_push_55 : decode cX3_push 55 = .ok (.putfield 24, 3) := by decide +kernel
theorem dX3_push_58 : decode cX3_push 58 = .ok (.return_, 1) := by decide +kernel
theorem dX3_pop_0 : decode cX3_pop 0 = .ok (.aload_n 0, 1) := by decide +kernel
theorem dX3_pop_1 : decode cX3_pop 1 = .ok (.getfield 24, 3) := by decide +kernel
theorem dX3_pop_4 : decode cX3_pop 4 = .ok (.ifCond .le 29, 3) := by decide +kernel
theorem dX3_pop_7 : decode cX3_pop 7 = .ok (.aload_n 0, 1) := by decide +kernel
theorem dX3_pop_8 : decode cX3_pop 8 = .ok (.dup, 1) := by decide +kernel
theorem dX3_pop_9 : decode cX3_pop 9 = .ok (.getfield 24, 3) := by decide +kernel
theorem dX3_pop_12 : decode cX3_pop 12 = .ok (.iconst 1, 1) := by decide +kernel
theorem dX3_pop_13 : decode cX3_pop 13 = .ok (.isub, 1) := by decide +kernel
theorem dX3_pop_14 : decode cX3_pop 14 = .ok (.putfield 24, 3) := by decide +kernel
theorem dX3_pop_17 : decode cX3_pop 17 = .ok (.aload_n 1, 1) := by decide +kernel
theorem dX3_pop_18 : decode cX3_pop 18 = .ok (.aload_n 0, 1) := by decide +kernel
theorem dX3_pop_19 : decode cX3_pop 19 = .ok (.getfield 11, 3) := by decide +kernel
theorem dX3_pop_22 : decode cX3_pop 22 = .ok (.aload_n 0, 1) := by decide +kernel
theorem dX3_pop_23 : decode cX3_pop 23 = .ok (.aload_n 0, 1) := by decide +kernel
theorem dX3_pop_24 : decode cX3_pop 24 = .ok (.getfield 24, 3) := by decide +kernel
theorem dX3_pop_27 : decode cX3_pop 27 = .ok (.invokevirtual 31, 3) := by decide +kernel
theorem dX3_pop_30 : decode cX3_pop 30 = .ok (.invokevirtual 39, 3) := by decide +kernel
theorem dX3_pop_33 : decode cX3_pop 33 = .ok (.return_, 1) := by decide +kernel
theorem dX3_cellOf_0 : decode cX3_cellOf 0 = .ok (.aload_n 0, 1) := by decide +kernel
theorem dX3_cellOf_1 : decode cX3_cellOf 1 = .ok (.getfield 20, 3) := by decide +kernel
theorem dX3_cellOf_4 : decode cX3_cellOf 4 = .ok (.iload_n 1, 1) := by decide +kernel
theorem dX3_cellOf_5 : decode cX3_cellOf 5 = .ok (.iadd, 1) := by decide +kernel
theorem dX3_cellOf_6 : decode cX3_cellOf 6 = .ok (.bipush 6, 2) := by decide +kernel
theorem dX3_cellOf_8 : decode cX3_cellOf 8 = .ok (.irem, 1) := by decide +kernel
theorem dX3_cellOf_9 : decode cX3_cellOf 9 = .ok (.sipush 910, 3) := by decide +kernel
theorem dX3_cellOf_12 : decode cX3_cellOf 12 = .ok (.imul, 1) := by decide +kernel
theorem dX3_cellOf_13 : decode cX3_cellOf 13 = .ok (.ireturn, 1) := by decide +kernel
theorem dX3_hasSnapshot_0 : decode cX3_hasSnapshot 0 = .ok (.aload_n 0, 1) := by decide +kernel
theorem dX3_hasSnapshot_1 : decode cX3_hasSnapshot 1 = .ok (.getfield 27, 3) := by decide +kernel
theorem dX3_hasSnapshot_4 : decode cX3_hasSnapshot 4 = .ok (.ireturn, 1) := by decide +kernel
theorem dX3_takeSnapshot_0 : decode cX3_takeSnapshot 0 = .ok (.aload_n 1, 1) := by decide +kernel
theorem dX3_takeSnapshot_1 : decode cX3_takeSnapshot 1 = .ok (.aload_n 0, 1) := by decide +kernel
theorem dX3_takeSnapshot_2 : decode cX3_takeSnapshot 2 = .ok (.getfield 17, 3) := by decide +kernel
theorem dX3_takeSnapshot_5 : decode cX3_takeSnapshot 5 = .ok (.iconst 0, 1) := by decide +kernel
theorem dX3_takeSnapshot_6 : decode cX3_takeSnapshot 6 = .ok (.invokevirtual 35, 3) := by decide +kernel
theorem dX3_takeSnapshot_9 : decode cX3_takeSnapshot 9 = .ok (.aload_n 0, 1) := by decide +kernel
theorem dX3_takeSnapshot_10 : decode cX3_takeSnapshot 10 = .ok (.iconst 1, 1) := by decide +kernel
theorem dX3_takeSnapshot_11 : decode cX3_takeSnapshot 11 = .ok (.putfield 27, 3) := by decide +kernel
theorem dX3_takeSnapshot_14 : decode cX3_takeSnapshot 14 = .ok (.return_, 1) := by decide +kernel
theorem dX3_loadSnapshot_0 : decode cX3_loadSnapshot 0 = .ok (.aload_n 1, 1) := by decide +kernel
theorem dX3_loadSnapshot_1 : decode cX3_loadSnapshot 1 = .ok (.aload_n 0, 1) := by decide +kernel
theorem dX3_loadSnapshot_2 : decode cX3_loadSnapshot 2 = .ok (.getfield 17, 3) := by decide +kernel
theorem dX3_loadSnapshot_5 : decode cX3_loadSnapshot 5 = .ok (.iconst 0, 1) := by decide +kernel
theorem dX3_loadSnapshot_6 : decode cX3_loadSnapshot 6 = .ok (.invokevirtual 39, 3) := by decide +kernel
theorem dX3_loadSnapshot_9 : decode cX3_loadSnapshot 9 = .ok (.return_, 1) := by decide +kernel
theorem dX4_whyNotTied_0 : decode cX4_whyNotTied 0 = .ok (.aload_n 0, 1) := by decide +kernel
theorem dX4_whyNotTied_1 : decode cX4_whyNotTied 1 = .ok (.iload_n 2, 1) := by decide +kernel
theorem dX4_whyNotTied_2 : decode cX4_whyNotTied 2 = .ok (.invokevirtual 9, 3) := by decide +kernel
theorem dX4_whyNotTied_5 : decode cX4_whyNotTied 5 = .ok (.istore_n 3, 1) := by decide +kernel
theorem dX4_whyNotTied_6 : decode cX4_whyNotTied 6 = .ok (.iload_n 3, 1) := by decide +kernel
theorem dX4_whyNotTied_7 : decode cX4_whyNotTied 7 = .ok (.bipush 6, 2) := by decide +kernel
theorem dX4_whyNotTied_9 : decode cX4_whyNotTied 9 = .ok (.if_icmp .lt 5, 3) := by decide +kernel
theorem dX4_whyNotTied_12 : decode cX4_whyNotTied 12 = .ok (.iconst 1, 1) := by decide +kernel
theorem dX4_whyNotTied_13 : decode cX4_whyNotTied 13 = .ok (.ireturn, 1) := by decide +kernel
theorem dX4_whyNotTied_14 : decode cX4_whyNotTied 14 = .ok (.aload_n 1, 1) := by decide +kernel
theorem dX4_whyNotTied_15 : decode cX4_whyNotTied 15 = .ok (.invokevirtual 15, 3) := by decide +kernel
theorem dX4_whyNotTied_18 : decode cX4_whyNotTied 18 = .ok (.aload_n 0, 1) := by decide +kernel
theorem dX4_whyNotTied_19 : decode cX4_whyNotTied 19 = .ok (.iload_n 2, 1) := by decide +kernel
theorem dX4_whyNotTied_20 : decode cX4_whyNotTied 20 = .ok (.invokevirtual 21, 3) := by decide +kernel
theorem dX4_whyNotTied_23 : decode cX4_whyNotTied 23 = .ok (.if_icmp .le 5, 3) := by decide +kernel
theorem dX4_whyNotTied_26 : decode cX4_whyNotTied 26 = .ok (.iconst 2, 1) := by decide +kernel
theorem dX4_whyNotTied_27 : decode cX4_whyNotTied 27 = .ok (.ireturn, 1) := by decide +kernel
theorem dX4_whyNotTied_28 : decode cX4_whyNotTied 28 = .ok (.iconst 0, 1) := by decide +kernel
theorem dX4_whyNotTied_29 : decode cX4_whyNotTied 29 = .ok (.istore 4, 2) := by decide +kernel
theorem dX4_whyNotTied_31 : decode cX4_whyNotTied 31 = .ok (.iload 4, 2) := by decide +kernel
theorem dX4_whyNotTied_33 : decode cX4_whyNotTied 33 = .ok (.iload_n 3, 1) := by decide +kernel
theorem dX4_whyNotTied_34 : decode cX4_whyNotTied 34 = .ok (.if_icmp .ge 22, 3) := by decide +kernel
theorem dX4_whyNotTied_37 : decode cX4_whyNotTied 37 = .ok (.aload_n 0, 1) := by decide +kernel
theorem dX4_whyNotTied_38 : decode cX4_whyNotTied 38 = .ok (.iload_n 2, 1) := by decide +kernel
theorem dX4_whyNotTied_39 : decode cX4_whyNotTied 39 = .ok (.iload 4, 2) := by decide +kernel
theorem dX4_whyNotTied_41 : decode cX4_whyNotTied 41 = .ok (.aload_n 1, 1) := by decide +kernel
theorem dX4_whyNotTied_42 : decode cX4_whyNotTied 42 = .ok (.invokestatic 24, 3) := by decide +kernel
theorem dX4_whyNotTied_45 : decode cX4_whyNotTied 45 = .ok (.ifCond .eq 5, 3) := by decide +kernel
theorem dX4_whyNotTied_48 : decode cX4_whyNotTied 48 = .ok (.iconst 3, 1) := by decide +kernel
theorem dX4_whyNotTied_49 : decode cX4_whyNotTied 49 = .ok (.ireturn, 1) := by decide +kernel
theorem dX4_whyNotTied_50 : decode cX4_whyNotTied 50 = .ok (.iinc 4 1, 3) := by decide +kernel
theorem dX4_whyNotTied_53 : decode cX4_whyNotTied 53 = .ok (.goto (-22), 3) := by decide +kernel
theorem dX4_whyNotTied_56 : decode cX4_whyNotTied 56 = .ok (.iconst 0, 1) := by decide +kernel
theorem dX4_whyNotTied_57 : decode cX4_whyNotTied 57 = .ok (.ireturn, 1) := by decide +kernel
theorem dX4_reads_0 : decode cX4_reads 0 = .ok (.aload_n 0, 1) := by decide +kernel
theorem dX4_reads_1 : decode cX4_reads 1 = .ok (.iload_n 1, 1) := by decide +kernel
theorem dX4_reads_2 : decode cX4_reads 2 = .ok (.iload_n 2, 1) := by decide +kernel
theorem dX4_reads_3 : decode cX4_reads 3 = .ok (.invokevirtual 30, 3) := by decide +kernel
theorem dX4_reads_6 : decode cX4_reads 6 = .ok (.aload_n 3, 1) := by decide +kernel
theorem dX4_reads_7 : decode cX4_reads 7 = .ok (.invokevirtual 34, 3) := by decide +kernel
theorem dX4_reads_10 : decode cX4_reads 10 = .ok (.if_icmp .eq 5, 3) := by decide +kernel
theorem dX4_reads_13 : decode cX4_reads 13 = .ok (.iconst 0, 1) := by decide +kernel
theorem dX4_reads_14 : decode cX4_reads 14 = .ok (.ireturn, 1) := by decide +kernel
theorem dX4_reads_15 : decode cX4_reads 15 = .ok (.iconst 0, 1) := by decide +kernel
theorem dX4_reads_16 : decode cX4_reads 16 = .ok (.istore 4, 2) := by decide +kernel
theorem dX4_reads_18 : decode cX4_reads 18 = .ok (.iload 4, 2) := by decide +kernel
theorem dX4_reads_20 : decode cX4_reads 20 = .ok (.aload_n 3, 1) := by decide +kernel
theorem dX4_reads_21 : decode cX4_reads 21 = .ok (.invokevirtual 34, 3) := by decide +kernel
theorem dX4_reads_24 : decode cX4_reads 24 = .ok (.if_icmp .ge 28, 3) := by decide +kernel
theorem dX4_reads_27 : decode cX4_reads 27 = .ok (.aload_n 0, 1) := by decide +kernel
theorem dX4_reads_28 : decode cX4_reads 28 = .ok (.iload_n 1, 1) := by decide +kernel
theorem dX4_reads_29 : decode cX4_reads 29 = .ok (.iload_n 2, 1) := by decide +kernel
theorem dX4_reads_30 : decode cX4_reads 30 = .ok (.iload 4, 2) := by decide +kernel
theorem dX4_reads_32 : decode cX4_reads 32 = .ok (.invokevirtual 37, 3) := by decide +kernel
theorem dX4_reads_35 : decode cX4_reads 35 = .ok (.aload_n 3, 1) := by decide +kernel
theorem dX4_reads_36 : decode cX4_reads 36 = .ok (.iload 4, 2) := by decide +kernel
theorem dX4_reads_38 : decode cX4_reads 38 = .ok (.invokevirtual 41, 3) := by decide +kernel
theorem dX4_reads_41 : decode cX4_reads 41 = .ok (.if_icmp .eq 5, 3) := by decide +kernel
theorem dX4_reads_44 : decode cX4_reads 44 = .ok (.iconst 0, 1) := by decide +kernel
theorem dX4_reads_45 : decode cX4_reads 45 = .ok (.ireturn, 1) := by decide +kernel
theorem dX4_reads_46 : decode cX4_reads 46 = .ok (.iinc 4 1, 3) := by decide +kernel
theorem dX4_reads_49 : decode cX4_reads 49 = .ok (.goto (-31), 3) := by decide +kernel
theorem dX4_reads_52 : decode cX4_reads 52 = .ok (.iconst 1, 1) := by decide +kernel
theorem dX4_reads_53 : decode cX4_reads 53 = .ok (.ireturn, 1) := by decide +kernel
theorem dX4_tieOn_0 : decode cX4_tieOn 0 = .ok (.aload_n 0, 1) := by decide +kernel
theorem dX4_tieOn_1 : decode cX4_tieOn 1 = .ok (.iload_n 2, 1) := by decide +kernel
theorem dX4_tieOn_2 : decode cX4_tieOn 2 = .ok (.invokevirtual 9, 3) := by decide +kernel
theorem dX4_tieOn_5 : decode cX4_tieOn 5 = .ok (.istore_n 3, 1) := by decide +kernel
theorem dX4_tieOn_6 : decode cX4_tieOn 6 = .ok (.aload_n 0, 1) := by decide +kernel
theorem dX4_tieOn_7 : decode cX4_tieOn 7 = .ok (.iload_n 2, 1) := by decide +kernel
theorem dX4_tieOn_8 : decode cX4_tieOn 8 = .ok (.iload_n 3, 1) := by decide +kernel
theorem dX4_tieOn_9 : decode cX4_tieOn 9 = .ok (.invokestatic 44, 3) := by decide +kernel
theorem dX4_tieOn_12 : decode cX4_tieOn 12 = .ok (.iconst 0, 1) := by decide +kernel
theorem dX4_tieOn_13 : decode cX4_tieOn 13 = .ok (.iadd, 1) := by decide +kernel
theorem dX4_tieOn_14 : decode cX4_tieOn 14 = .ok (.aload_n 1, 1) := by decide +kernel
theorem dX4_tieOn_15 : decode cX4_tieOn 15 = .ok (.invokevirtual 34, 3) := by decide +kernel
theorem dX4_tieOn_18 : decode cX4_tieOn 18 = .ok (.invokevirtual 47, 3) := by decide +kernel
theorem dX4_tieOn_21 : decode cX4_tieOn 21 = .ok (.iconst 0, 1) := by decide +kernel
theorem dX4_tieOn_22 : decode cX4_tieOn 22 = .ok (.istore 4, 2) := by decide +kernel
theorem dX4_tieOn_24 : decode cX4_tieOn 24 = .ok (.iload 4, 2) := by decide +kernel
theorem dX4_tieOn_26 : decode cX4_tieOn 26 = .ok (.aload_n 1, 1) := by decide +kernel
theorem dX4_tieOn_27 : decode cX4_tieOn 27 = .ok (.invokevirtual 34, 3) := by decide +kernel
theorem dX4_tieOn_30 : decode cX4_tieOn 30 = .ok (.if_icmp .ge 55, 3) := by decide +kernel
theorem dX4_tieOn_33 : decode cX4_tieOn 33 = .ok (.iload_n 2, 1) := by decide +kernel
theorem dX4_tieOn_34 : decode cX4_tieOn 34 = .ok (.iload_n 3, 1) := by decide +kernel
theorem dX4_tieOn_35 : decode cX4_tieOn 35 = .ok (.iload 4, 2) := by decide +kernel
theorem dX4_tieOn_37 : decode cX4_tieOn 37 = .ok (.invokestatic 51, 3) := by decide +kernel
theorem dX4_tieOn_40 : decode cX4_tieOn 40 = .ok (.istore 5, 2) := by decide +kernel
theorem dX4_tieOn_42 : decode cX4_tieOn 42 = .ok (.aload_n 0, 1) := by decide +kernel
theorem dX4_tieOn_43 : decode cX4_tieOn 43 = .ok (.iload 5, 2) := by decide +kernel
theorem dX4_tieOn_45 : decode cX4_tieOn 45 = .ok (.iconst 0, 1) := by decide +kernel
theorem dX4_tieOn_46 : decode cX4_tieOn 46 = .ok (.iadd, 1) := by decide +kernel
theorem dX4_tieOn_47 : decode cX4_tieOn 47 = .ok (.aload_n 1, 1) := by decide +kernel
theorem dX4_tieOn_48 : decode cX4_tieOn 48 = .ok (.iload 4, 2) := by decide +kernel
theorem dX4_tieOn_50 : decode cX4_tieOn 50 = .ok (.invokevirtual 41, 3) := by decide +kernel
theorem dX4_tieOn_53 : decode cX4_tieOn 53 = .ok (.invokevirtual 47, 3) := by decide +kernel
theorem dX4_tieOn_56 : decode cX4_tieOn 56 = .ok (.aload_n 0, 1) := by decide +kernel
theorem dX4_tieOn_57 : decode cX4_tieOn 57 = .ok (.iload 5, 2) := by decide +kernel
theorem dX4_tieOn_59 : decode cX4_tieOn 59 = .ok (.iconst 1, 1) := by decide +kernel
theorem dX4_tieOn_60 : decode cX4_tieOn 60 = .ok (.iadd, 1) := by decide +kernel
theorem dX4_tieOn_61 : decode cX4_tieOn 61 = .ok (.iconst 0, 1) := by decide +kernel
theorem dX4_tieOn_62 : decode cX4_tieOn 62 = .ok (.invokevirtual 47, 3) := by decide +kernel
theorem dX4_tieOn_65 : decode cX4_tieOn 65 = .ok (.aload_n 0, 1) := by decide +kernel
theorem dX4_tieOn_66 : decode cX4_tieOn 66 = .ok (.iload 5, 2) := by decide +kernel
theorem dX4_tieOn_68 : decode cX4_tieOn 68 = .ok (.iconst 2, 1) := by decide +kernel
theorem dX4_tieOn_69 : decode cX4_tieOn 69 = .ok (.iadd, 1) := by decide +kernel
theorem dX4_tieOn_70 : decode cX4_tieOn 70 = .ok (.aload_n 1, 1) := by decide +kernel
theorem dX4_tieOn_71 : decode cX4_tieOn 71 = .ok (.iload 4, 2) := by decide +kernel
theorem dX4_tieOn_73 : decode cX4_tieOn 73 = .ok (.invokevirtual 41, 3) := by decide +kernel
theorem dX4_tieOn_76 : decode cX4_tieOn 76 = .ok (.invokevirtual 47, 3) := by decide +kernel
theorem dX4_tieOn_79 : decode cX4_tieOn 79 = .ok (.iinc 4 1, 3) := by decide +kernel
theorem dX4_tieOn_82 : decode cX4_tieOn 82 = .ok (.goto (-58), 3) := by decide +kernel
theorem dX4_tieOn_85 : decode cX4_tieOn 85 = .ok (.aload_n 0, 1) := by decide +kernel
theorem dX4_tieOn_86 : decode cX4_tieOn 86 = .ok (.iload_n 2, 1) := by decide +kernel
theorem dX4_tieOn_87 : decode cX4_tieOn 87 = .ok (.iconst 1, 1) := by decide +kernel
theorem dX4_tieOn_88 : decode cX4_tieOn 88 = .ok (.invokestatic 54, 3) := by decide +kernel
theorem dX4_tieOn_91 : decode cX4_tieOn 91 = .ok (.iconst 1, 1) := by decide +kernel
theorem dX4_tieOn_92 : decode cX4_tieOn 92 = .ok (.invokevirtual 57, 3) := by decide +kernel
theorem dX4_tieOn_95 : decode cX4_tieOn 95 = .ok (.aload_n 0, 1) := by decide +kernel
theorem dX4_tieOn_96 : decode cX4_tieOn 96 = .ok (.iconst 3, 1) := by decide +kernel
theorem dX4_tieOn_97 : decode cX4_tieOn 97 = .ok (.aload_n 1, 1) := by decide +kernel
theorem dX4_tieOn_98 : decode cX4_tieOn 98 = .ok (.invokevirtual 34, 3) := by decide +kernel
theorem dX4_tieOn_101 : decode cX4_tieOn 101 = .ok (.invokevirtual 57, 3) := by decide +kernel
theorem dX4_tieOn_104 : decode cX4_tieOn 104 = .ok (.aload_n 0, 1) := by decide +kernel
theorem dX4_tieOn_105 : decode cX4_tieOn 105 = .ok (.iconst 4, 1) := by decide +kernel
theorem dX4_tieOn_106 : decode cX4_tieOn 106 = .ok (.aload_n 1, 1) := by decide +kernel
theorem dX4_tieOn_107 : decode cX4_tieOn 107 = .ok (.invokevirtual 15, 3) := by decide +kernel
theorem dX4_tieOn_110 : decode cX4_tieOn 110 = .ok (.invokevirtual 57, 3) := by decide +kernel
theorem dX4_tieOn_113 : decode cX4_tieOn 113 = .ok (.iload_n 3, 1) := by decide +kernel
theorem dX4_tieOn_114 : decode cX4_tieOn 114 = .ok (.ireturn, 1) := by decide +kernel
theorem dX4_takeOff_0 : decode cX4_takeOff 0 = .ok (.aload_n 0, 1) := by decide +kernel
theorem dX4_takeOff_1 : decode cX4_takeOff 1 = .ok (.iload_n 1, 1) := by decide +kernel
theorem dX4_takeOff_2 : decode cX4_takeOff 2 = .ok (.iload_n 2, 1) := by decide +kernel
theorem dX4_takeOff_3 : decode cX4_takeOff 3 = .ok (.invokevirtual 60, 3) := by decide +kernel
theorem dX4_takeOff_6 : decode cX4_takeOff 6 = .ok (.istore_n 3, 1) := by decide +kernel
theorem dX4_takeOff_7 : decode cX4_takeOff 7 = .ok (.iload_n 1, 1) := by decide +kernel
theorem dX4_takeOff_8 : decode cX4_takeOff 8 = .ok (.bipush 6, 2) := by decide +kernel
theorem dX4_takeOff_10 : decode cX4_takeOff 10 = .ok (.invokestatic 44, 3) := by decide +kernel
theorem dX4_takeOff_13 : decode cX4_takeOff 13 = .ok (.istore 4, 2) := by decide +kernel
theorem dX4_takeOff_15 : decode cX4_takeOff 15 = .ok (.aload_n 0, 1) := by decide +kernel
theorem dX4_takeOff_16 : decode cX4_takeOff 16 = .ok (.iload_n 1, 1) := by decide +kernel
theorem dX4_takeOff_17 : decode cX4_takeOff 17 = .ok (.iload_n 2, 1) := by decide +kernel
theorem dX4_takeOff_18 : decode cX4_takeOff 18 = .ok (.invokestatic 44, 3) := by decide +kernel
theorem dX4_takeOff_21 : decode cX4_takeOff 21 = .ok (.iload 4, 2) := by decide +kernel
theorem dX4_takeOff_23 : decode cX4_takeOff 23 = .ok (.bipush 25, 2) := by decide +kernel
theorem dX4_takeOff_25 : decode cX4_takeOff 25 = .ok (.invokevirtual 63, 3) := by decide +kernel
theorem dX4_takeOff_28 : decode cX4_takeOff 28 = .ok (.aload_n 0, 1) := by decide +kernel
theorem dX4_takeOff_29 : decode cX4_takeOff 29 = .ok (.iload_n 1, 1) := by decide +kernel
theorem dX4_takeOff_30 : decode cX4_takeOff 30 = .ok (.iconst 1, 1) := by decide +kernel
theorem dX4_takeOff_31 : decode cX4_takeOff 31 = .ok (.invokestatic 54, 3) := by decide +kernel
theorem dX4_takeOff_34 : decode cX4_takeOff 34 = .ok (.iconst (-1), 1) := by decide +kernel
theorem dX4_takeOff_35 : decode cX4_takeOff 35 = .ok (.invokevirtual 57, 3) := by decide +kernel
theorem dX4_takeOff_38 : decode cX4_takeOff 38 = .ok (.aload_n 0, 1) := by decide +kernel
theorem dX4_takeOff_39 : decode cX4_takeOff 39 = .ok (.iconst 4, 1) := by decide +kernel
theorem dX4_takeOff_40 : decode cX4_takeOff 40 = .ok (.iload_n 3, 1) := by decide +kernel
theorem dX4_takeOff_41 : decode cX4_takeOff 41 = .ok (.ineg, 1) := by decide +kernel
theorem dX4_takeOff_42 : decode cX4_takeOff 42 = .ok (.invokevirtual 57, 3) := by decide +kernel
theorem dX4_takeOff_45 : decode cX4_takeOff 45 = .ok (.iload_n 3, 1) := by decide +kernel
theorem dX4_takeOff_46 : decode cX4_takeOff 46 = .ok (.ireturn, 1) := by decide +kernel
theorem dX4_whyNotTightened_0 : decode cX4_whyNotTightened 0 = .ok (.iconst 0, 1) := by decide +kernel
theorem dX4_whyNotTightened_1 : decode cX4_whyNotTightened 1 = .ok (.istore_n 3, 1) := by decide +kernel
theorem dX4_whyNotTightened_2 : decode cX4_whyNotTightened 2 = .ok (.aload_n 0, 1) := by decide +kernel
theorem dX4_whyNotTightened_3 : decode cX4_whyNotTightened 3 = .ok (.iload_n 1, 1) := by decide +kernel
theorem dX4_whyNotTightened_4 : decode cX4_whyNotTightened 4 = .ok (.iload_n 2, 1) := by decide +kernel
theorem dX4_whyNotTightened_5 : decode cX4_whyNotTightened 5 = .ok (.invokevirtual 30, 3) := by decide +kernel
theorem dX4_whyNotTightened_8 : decode cX4_whyNotTightened 8 = .ok (.istore 4, 2) := by decide +kernel
theorem dX4_whyNotTightened_10 : decode cX4_whyNotTightened 10 = .ok (.iconst 0, 1) := by decide +kernel
theorem dX4_whyNotTightened_11 : decode cX4_whyNotTightened 11 = .ok (.istore 5, 2) := by decide +kernel
theorem dX4_whyNotTightened_13 : decode cX4_whyNotTightened 13 = .ok (.iload 5, 2) := by decide +kernel
theorem dX4_whyNotTightened_15 : decode cX4_whyNotTightened 15 = .ok (.iload 4, 2) := by decide +kernel
theorem dX4_whyNotTightened_17 : decode cX4_whyNotTightened 17 = .ok (.if_icmp .ge 23, 3) := by decide +kernel
theorem dX4_whyNotTightened_20 : decode cX4_whyNotTightened 20 = .ok (.iload_n 3, 1) := by decide +kernel
theorem dX4_whyNotTightened_21 : decode cX4_whyNotTightened 21 = .ok (.aload_n 0, 1) := by decide +kernel
theorem dX4_whyNotTightened_22 : decode cX4_whyNotTightened 22 = .ok (.iload_n 1, 1) := by decide +kernel
theorem dX4_whyNotTightened_23 : decode cX4_whyNotTightened 23 = .ok (.iload_n 2, 1) := by decide +kernel
theorem dX4_whyNotTightened_24 : decode cX4_whyNotTightened 24 = .ok (.iload 5, 2) := by decide +kernel
theorem dX4_whyNotTightened_26 : decode cX4_whyNotTightened 26 = .ok (.invokestatic 51, 3) := by decide +kernel
theorem dX4_whyNotTightened_29 : decode cX4_whyNotTightened 29 = .ok (.invokestatic 67, 3) := by decide +kernel
theorem dX4_whyNotTightened_32 : decode cX4_whyNotTightened 32 = .ok (.iadd, 1) := by decide +kernel
theorem dX4_whyNotTightened_33 : decode cX4_whyNotTightened 33 = .ok (.istore_n 3, 1) := by decide +kernel
theorem dX4_whyNotTightened_34 : decode cX4_whyNotTightened 34 = .ok (.iinc 5 1, 3) := by decide +kernel
theorem dX4_whyNotTightened_37 : decode cX4_whyNotTightened 37 = .ok (.goto (-24), 3) := by decide +kernel
theorem dX4_whyNotTightened_40 : decode cX4_whyNotTightened 40 = .ok (.iload_n 3, 1) := by decide +kernel
theorem dX4_whyNotTightened_41 : decode cX4_whyNotTightened 41 = .ok (.aload_n 0, 1) := by decide +kernel
theorem dX4_whyNotTightened_42 : decode cX4_whyNotTightened 42 = .ok (.iload_n 1, 1) := by decide +kernel
theorem dX4_whyNotTightened_43 : decode cX4_whyNotTightened 43 = .ok (.invokevirtual 21, 3) := by decide +kernel
theorem dX4_whyNotTightened_46 : decode cX4_whyNotTightened 46 = .ok (.if_icmp .le 7, 3) := by decide +kernel
theorem dX4_whyNotTightened_49 : decode cX4_whyNotTightened 49 = .ok (.iconst 2, 1) := by decide +kernel
theorem dX4_whyNotTightened_50 : decode cX4_whyNotTightened 50 = .ok (.goto 4, 3) := by decide +kernel
theorem dX4_whyNotTightened_53 : decode cX4_whyNotTightened 53 = .ok (.iconst 0, 1) := by decide +kernel
theorem dX4_whyNotTightened_54 : decode cX4_whyNotTightened 54 = .ok (.ireturn, 1) := by decide +kernel
theorem dX4_tighten_0 : decode cX4_tighten 0 = .ok (.iconst 0, 1) := by decide +kernel
theorem dX4_tighten_1 : decode cX4_tighten 1 = .ok (.istore_n 3, 1) := by decide +kernel
theorem dX4_tighten_2 : decode cX4_tighten 2 = .ok (.aload_n 0, 1) := by decide +kernel
theorem dX4_tighten_3 : decode cX4_tighten 3 = .ok (.iload_n 1, 1) := by decide +kernel
theorem dX4_tighten_4 : decode cX4_tighten 4 = .ok (.iload_n 2, 1) := by decide +kernel
theorem dX4_tighten_5 : decode cX4_tighten 5 = .ok (.invokevirtual 30, 3) := by decide +kernel
theorem dX4_tighten_8 : decode cX4_tighten 8 = .ok (.istore 4, 2) := by decide +kernel
theorem dX4_tighten_10 : decode cX4_tighten 10 = .ok (.iconst 0, 1) := by decide +kernel
theorem dX4_tighten_11 : decode cX4_tighten 11 = .ok (.istore 5, 2) := by decide +kernel
theorem dX4_tighten_13 : decode cX4_tighten 13 = .ok (.iload 5, 2) := by decide +kernel
theorem dX4_tighten_15 : decode cX4_tighten 15 = .ok (.iload 4, 2) := by decide +kernel
theorem dX4_tighten_17 : decode cX4_tighten 17 = .ok (.if_icmp .ge 69, 3) := by decide +kernel
theorem dX4_tighten_20 : decode cX4_tighten 20 = .ok (.iload_n 1, 1) := by decide +kernel
theorem dX4_tighten_21 : decode cX4_tighten 21 = .ok (.iload_n 2, 1) := by decide +kernel
theorem dX4_tighten_22 : decode cX4_tighten 22 = .ok (.iload 5, 2) := by decide +kernel
theorem dX4_tighten_24 : decode cX4_tighten 24 = .ok (.invokestatic 51, 3) := by decide +kernel
theorem dX4_tighten_27 : decode cX4_tighten 27 = .ok (.istore 6, 2) := by decide +kernel
theorem dX4_tighten_29 : decode cX4_tighten 29 = .ok (.aload_n 0, 1) := by decide +kernel
theorem dX4_tighten_30 : decode cX4_tighten 30 = .ok (.iload 6, 2) := by decide +kernel
theorem dX4_tighten_32 : decode cX4_tighten 32 = .ok (.iconst 1, 1) := by decide +kernel
theorem dX4_tighten_33 : decode cX4_tighten 33 = .ok (.iadd, 1) := by decide +kernel
theorem dX4_tighten_34 : decode cX4_tighten 34 = .ok (.invokevirtual 71, 3) := by decide +kernel
theorem dX4_tighten_37 : decode cX4_tighten 37 = .ok (.iconst 1, 1) := by decide +kernel
theorem dX4_tighten_38 : decode cX4_tighten 38 = .ok (.if_icmp .ne 42, 3) := by decide +kernel
theorem dX4_tighten_41 : decode cX4_tighten 41 = .ok (.aload_n 0, 1) := by decide +kernel
theorem dX4_tighten_42 : decode cX4_tighten 42 = .ok (.iconst 4, 1) := by decide +kernel
theorem dX4_tighten_43 : decode cX4_tighten 43 = .ok (.aload_n 0, 1) := by decide +kernel
theorem dX4_tighten_44 : decode cX4_tighten 44 = .ok (.iload 6, 2) := by decide +kernel
theorem dX4_tighten_46 : decode cX4_tighten 46 = .ok (.invokestatic 67, 3) := by decide +kernel
theorem dX4_tighten_49 : decode cX4_tighten 49 = .ok (.invokevirtual 57, 3) := by decide +kernel
theorem dX4_tighten_52 : decode cX4_tighten 52 = .ok (.aload_n 0, 1) := by decide +kernel
theorem dX4_tighten_53 : decode cX4_tighten 53 = .ok (.iload 6, 2) := by decide +kernel
theorem dX4_tighten_55 : decode cX4_tighten 55 = .ok (.iconst 0, 1) := by decide +kernel
theorem dX4_tighten_56 : decode cX4_tighten 56 = .ok (.iadd, 1) := by decide +kernel
theorem dX4_tighten_57 : decode cX4_tighten 57 = .ok (.aload_n 0, 1) := by decide +kernel
theorem dX4_tighten_58 : decode cX4_tighten 58 = .ok (.iload_n 1, 1) := by decide +kernel
theorem dX4_tighten_59 : decode cX4_tighten 59 = .ok (.iload_n 2, 1) := by decide +kernel
theorem dX4_tighten_60 : decode cX4_tighten 60 = .ok (.iload 5, 2) := by decide +kernel
theorem dX4_tighten_62 : decode cX4_tighten 62 = .ok (.invokevirtual 37, 3) := by decide +kernel
theorem dX4_tighten_65 : decode cX4_tighten 65 = .ok (.invokevirtual 47, 3) := by decide +kernel
theorem dX4_tighten_68 : decode cX4_tighten 68 = .ok (.aload_n 0, 1) := by decide +kernel
theorem dX4_tighten_69 : decode cX4_tighten 69 = .ok (.iload 6, 2) := by decide +kernel
theorem dX4_tighten_71 : decode cX4_tighten 71 = .ok (.iconst 1, 1) := by decide +kernel
theorem dX4_tighten_72 : decode cX4_tighten 72 = .ok (.iadd, 1) := by decide +kernel
theorem dX4_tighten_73 : decode cX4_tighten 73 = .ok (.iconst 0, 1) := by decide +kernel
theorem dX4_tighten_74 : decode cX4_tighten 74 = .ok (.invokevirtual 47, 3) := by decide +kernel
theorem dX4_tighten_77 : decode cX4_tighten 77 = .ok (.iinc 3 1, 3) := by decide +kernel
theorem dX4_tighten_80 : decode cX4_tighten 80 = .ok (.iinc 5 1, 3) := by decide +kernel
theorem dX4_tighten_83 : decode cX4_tighten 83 = .ok (.goto (-70), 3) := by decide +kernel
theorem dX4_tighten_86 : decode cX4_tighten 86 = .ok (.iload_n 3, 1) := by decide +kernel
theorem dX4_tighten_87 : decode cX4_tighten 87 = .ok (.ireturn, 1) := by decide +kernel
theorem dX4_cordToTighten_0 : decode cX4_cordToTighten 0 = .ok (.aload_n 0, 1) := by decide +kernel
theorem dX4_cordToTighten_1 : decode cX4_cordToTighten 1 = .ok (.iload_n 1, 1) := by decide +kernel
theorem dX4_cordToTighten_2 : decode cX4_cordToTighten 2 = .ok (.iconst 0, 1) := by decide +kernel
theorem dX4_cordToTighten_3 : decode cX4_cordToTighten 3 = .ok (.iadd, 1) := by decide +kernel
theorem dX4_cordToTighten_4 : decode cX4_cordToTighten 4 = .ok (.invokevirtual 71, 3) := by decide +kernel
theorem dX4_cordToTighten_7 : decode cX4_cordToTighten 7 = .ok (.istore_n 2, 1) := by decide +kernel
theorem dX4_cordToTighten_8 : decode cX4_cordToTighten 8 = .ok (.iload_n 2, 1) := by decide +kernel
theorem dX4_cordToTighten_9 : decode cX4_cordToTighten 9 = .ok (.aload_n 0, 1) := by decide +kernel
theorem dX4_cordToTighten_10 : decode cX4_cordToTighten 10 = .ok (.iload_n 1, 1) := by decide +kernel
theorem dX4_cordToTighten_11 : decode cX4_cordToTighten 11 = .ok (.iconst 1, 1) := by decide +kernel
theorem dX4_cordToTighten_12 : decode cX4_cordToTighten 12 = .ok (.iadd, 1) := by decide +kernel
theorem dX4_cordToTighten_13 : decode cX4_cordToTighten 13 = .ok (.invokevirtual 71, 3) := by decide +kernel
theorem dX4_cordToTighten_16 : decode cX4_cordToTighten 16 = .ok (.invokestatic 72, 3) := by decide +kernel
theorem dX4_cordToTighten_19 : decode cX4_cordToTighten 19 = .ok (.istore_n 3, 1) := by decide +kernel
theorem dX4_cordToTighten_20 : decode cX4_cordToTighten 20 = .ok (.iload_n 3, 1) := by decide +kernel
theorem dX4_cordToTighten_21 : decode cX4_cordToTighten 21 = .ok (.bipush 16, 2) := by decide +kernel
theorem dX4_cordToTighten_23 : decode cX4_cordToTighten 23 = .ok (.if_icmp .ne 7, 3) := by decide +kernel
theorem dX4_cordToTighten_26 : decode cX4_cordToTighten 26 = .ok (.iconst 0, 1) := by decide +kernel
theorem dX4_cordToTighten_27 : decode cX4_cordToTighten 27 = .ok (.goto 12, 3) := by decide +kernel
theorem dX4_cordToTighten_30 : decode cX4_cordToTighten 30 = .ok (.iload_n 3, 1) := by decide +kernel
theorem dX4_cordToTighten_31 : decode cX4_cordToTighten 31 = .ok (.invokestatic 77, 3) := by decide +kernel
theorem dX4_cordToTighten_34 : decode cX4_cordToTighten 34 = .ok (.iload_n 2, 1) := by decide +kernel
theorem dX4_cordToTighten_35 : decode cX4_cordToTighten 35 = .ok (.invokestatic 77, 3) := by decide +kernel
theorem dX4_cordToTighten_38 : decode cX4_cordToTighten 38 = .ok (.isub, 1) := by decide +kernel
theorem dX4_cordToTighten_39 : decode cX4_cordToTighten 39 = .ok (.ireturn, 1) := by decide +kernel
theorem dX4_whyNotGiven_0 : decode cX4_whyNotGiven 0 = .ok (.iload_n 2, 1) := by decide +kernel
theorem dX4_whyNotGiven_1 : decode cX4_whyNotGiven 1 = .ok (.iload 4, 2) := by decide +kernel
theorem dX4_whyNotGiven_3 : decode cX4_whyNotGiven 3 = .ok (.if_icmp .ne 5, 3) := by decide +kernel
theorem dX4_whyNotGiven_6 : decode cX4_whyNotGiven 6 = .ok (.iconst 5, 1) := by decide +kernel
theorem dX4_whyNotGiven_7 : decode cX4_whyNotGiven 7 = .ok (.ireturn, 1) := by decide +kernel
theorem dX4_whyNotGiven_8 : decode cX4_whyNotGiven 8 = .ok (.aload_n 1, 1) := by decide +kernel
theorem dX4_whyNotGiven_9 : decode cX4_whyNotGiven 9 = .ok (.invokevirtual 80, 3) := by decide +kernel
theorem dX4_whyNotGiven_12 : decode cX4_whyNotGiven 12 = .ok (.aload_n 0, 1) := by decide +kernel
theorem dX4_whyNotGiven_13 : decode cX4_whyNotGiven 13 = .ok (.iload_n 2, 1) := by decide +kernel
theorem dX4_whyNotGiven_14 : decode cX4_whyNotGiven 14 = .ok (.iload_n 3, 1) := by decide +kernel
theorem dX4_whyNotGiven_15 : decode cX4_whyNotGiven 15 = .ok (.invokevirtual 30, 3) := by decide +kernel
theorem dX4_whyNotGiven_18 : decode cX4_whyNotGiven 18 = .ok (.istore 5, 2) := by decide +kernel
theorem dX4_whyNotGiven_20 : decode cX4_whyNotGiven 20 = .ok (.iconst 0, 1) := by decide +kernel
theorem dX4_whyNotGiven_21 : decode cX4_whyNotGiven 21 = .ok (.istore 6, 2) := by decide +kernel
theorem dX4_whyNotGiven_23 : decode cX4_whyNotGiven 23 = .ok (.iload 6, 2) := by decide +kernel
theorem dX4_whyNotGiven_25 : decode cX4_whyNotGiven 25 = .ok (.iload 5, 2) := by decide +kernel
theorem dX4_whyNotGiven_27 : decode cX4_whyNotGiven 27 = .ok (.if_icmp .ge 34, 3) := by decide +kernel
theorem dX4_whyNotGiven_30 : decode cX4_whyNotGiven 30 = .ok (.aload_n 0, 1) := by decide +kernel
theorem dX4_whyNotGiven_31 : decode cX4_whyNotGiven 31 = .ok (.iload_n 2, 1) := by decide +kernel
theorem dX4_whyNotGiven_32 : decode cX4_whyNotGiven 32 = .ok (.iload_n 3, 1) := by decide +kernel
theorem dX4_whyNotGiven_33 : decode cX4_whyNotGiven 33 = .ok (.iload 6, 2) := by decide +kernel
theorem dX4_whyNotGiven_35 : decode cX4_whyNotGiven 35 = .ok (.invokevirtual 37, 3) := by decide +kernel
theorem dX4_whyNotGiven_38 : decode cX4_whyNotGiven 38 = .ok (.istore 7, 2) := by decide +kernel
theorem dX4_whyNotGiven_40 : decode cX4_whyNotGiven 40 = .ok (.iload 7, 2) := by decide +kernel
theorem dX4_whyNotGiven_42 : decode cX4_whyNotGiven 42 = .ok (.bipush 16, 2) := by decide +kernel
theorem dX4_whyNotGiven_44 : decode cX4_whyNotGiven 44 = .ok (.if_icmp .ne 5, 3) := by decide +kernel
theorem dX4_whyNotGiven_47 : decode cX4_whyNotGiven 47 = .ok (.iconst 4, 1) := by decide +kernel
theorem dX4_whyNotGiven_48 : decode cX4_whyNotGiven 48 = .ok (.ireturn, 1) := by decide +kernel
theorem dX4_whyNotGiven_49 : decode cX4_whyNotGiven 49 = .ok (.aload_n 1, 1) := by decide +kernel
theorem dX4_whyNotGiven_50 : decode cX4_whyNotGiven 50 = .ok (.iload 7, 2) := by decide +kernel
theorem dX4_whyNotGiven_52 : decode cX4_whyNotGiven 52 = .ok (.invokevirtual 83, 3) := by decide +kernel
theorem dX4_whyNotGiven_55 : decode cX4_whyNotGiven 55 = .ok (.iinc 6 1, 3) := by decide +kernel
theorem dX4_whyNotGiven_58 : decode cX4_whyNotGiven 58 = .ok (.goto (-35), 3) := by decide +kernel
theorem dX4_whyNotGiven_61 : decode cX4_whyNotGiven 61 = .ok (.aload_n 0, 1) := by decide +kernel
theorem dX4_whyNotGiven_62 : decode cX4_whyNotGiven 62 = .ok (.aload_n 1, 1) := by decide +kernel
theorem dX4_whyNotGiven_63 : decode cX4_whyNotGiven 63 = .ok (.iload 4, 2) := by decide +kernel
theorem dX4_whyNotGiven_65 : decode cX4_whyNotGiven 65 = .ok (.invokestatic 86, 3) := by decide +kernel
theorem dX4_whyNotGiven_68 : decode cX4_whyNotGiven 68 = .ok (.ireturn, 1) := by decide +kernel
theorem dX4_handOver_0 : decode cX4_handOver 0 = .ok (.aload_n 0, 1) := by decide +kernel
theorem dX4_handOver_1 : decode cX4_handOver 1 = .ok (.iload_n 2, 1) := by decide +kernel
theorem dX4_handOver_2 : decode cX4_handOver 2 = .ok (.iload_n 3, 1) := by decide +kernel
theorem dX4_handOver_3 : decode cX4_handOver 3 = .ok (.invokestatic 90, 3) := by decide +kernel
theorem dX4_handOver_6 : decode cX4_handOver 6 = .ok (.pop, 1) := by decide +kernel
theorem dX4_handOver_7 : decode cX4_handOver 7 = .ok (.aload_n 0, 1) := by decide +kernel
theorem dX4_handOver_8 : decode cX4_handOver 8 = .ok (.iload_n 2, 1) := by decide +kernel
theorem dX4_handOver_9 : decode cX4_handOver 9 = .ok (.iconst 3, 1) := by decide +kernel
theorem dX4_handOver_10 : decode cX4_handOver 10 = .ok (.invokestatic 54, 3) := by decide +kernel
theorem dX4_handOver_13 : decode cX4_handOver 13 = .ok (.iconst 1, 1) := by decide +kernel
theorem dX4_handOver_14 : decode cX4_handOver 14 = .ok (.invokevirtual 57, 3) := by decide +kernel
theorem dX4_handOver_17 : decode cX4_handOver 17 = .ok (.aload_n 0, 1) := by decide +kernel
theorem dX4_handOver_18 : decode cX4_handOver 18 = .ok (.aload_n 1, 1) := by decide +kernel
theorem dX4_handOver_19 : decode cX4_handOver 19 = .ok (.iload 4, 2) := by decide +kernel
theorem dX4_handOver_21 : decode cX4_handOver 21 = .ok (.invokestatic 94, 3) := by decide +kernel
theorem dX4_handOver_24 : decode cX4_handOver 24 = .ok (.ireturn, 1) := by decide +kernel
theorem dX5_init_0 : decode cX5_init 0 = .ok (.aload_n 0, 1) := by decide +kernel
theorem dX5_init_1 : decode cX5_init 1 = .ok (.invokespecial 3, 3) := by decide +kernel
theorem dX5_init_4 : decode cX5_init 4 = .ok (.aload_n 0, 1) := by decide +kernel
theorem dX5_init_5 : decode cX5_init 5 = .ok (.ldc 9, 2) := by decide +kernel
theorem dX5_init_7 : decode cX5_init 7 = .ok (.putfield 11, 3) := by decide +kernel
theorem dX5_init_10 : decode cX5_init 10 = .ok (.aload_n 0, 1) := by decide +kernel
theorem dX5_init_11 : decode cX5_init 11 = .ok (.iconst 0, 1) := by decide +kernel
theorem dX5_init_12 : decode cX5_init 12 = .ok (.putfield 17, 3) := by decide +kernel
theorem dX5_init_15 : decode cX5_init 15 = .ok (.return_, 1) := by decide +kernel
theorem dX5_patternOf_0 : decode cX5_patternOf 0 = .ok (.iload_n 0, 1) := by decide +kernel
theorem dX5_patternOf_1 : decode cX5_patternOf 1 = .ok (.lookupswitch 66 #[(99, 63), (102, 60), (103, 57), (115, 54), (116, 51)], 51) := by decide +kernel
theorem dX5_patternOf_52 : decode cX5_patternOf 52 = .ok (.ldc 21, 2) := by decide +kernel
theorem dX5_patternOf_54 : decode cX5_patternOf 54 = .ok (.areturn, 1) := by decide +kernel
theorem dX5_patternOf_55 : decode cX5_patternOf 55 = .ok (.ldc 23, 2) := by decide +kernel
theorem dX5_patternOf_57 : decode cX5_patternOf 57 = .ok (.areturn, 1) := by decide +kernel
theorem dX5_patternOf_58 : decode cX5_patternOf 58 = .ok (.ldc 25, 2) := by decide +kernel
theorem dX5_patternOf_60 : decode cX5_patternOf 60 = .ok (.areturn, 1) := by decide +kernel
theorem dX5_patternOf_61 : decode cX5_patternOf 61 = .ok (.ldc 27, 2) := by decide +kernel
theorem dX5_patternOf_63 : decode cX5_patternOf 63 = .ok (.areturn, 1) := by decide +kernel
theorem dX5_patternOf_64 : decode cX5_patternOf 64 = .ok (.ldc 29, 2) := by decide +kernel
theorem dX5_patternOf_66 : decode cX5_patternOf 66 = .ok (.areturn, 1) := by decide +kernel
theorem dX5_patternOf_67 : decode cX5_patternOf 67 = .ok (.ldc 9, 2) := by decide +kernel
theorem dX5_patternOf_69 : decode cX5_patternOf 69 = .ok (.areturn, 1) := by decide +kernel
theorem dX5_placeOfFisher_0 : decode cX5_placeOfFisher 0 = .ok (.iload_n 0, 1) := by decide +kernel
theorem dX5_placeOfFisher_1 : decode cX5_placeOfFisher 1 = .ok (.invokestatic 31, 3) := by decide +kernel
theorem dX5_placeOfFisher_4 : decode cX5_placeOfFisher 4 = .ok (.bipush 70, 2) := by decide +kernel
theorem dX5_placeOfFisher_6 : decode cX5_placeOfFisher 6 = .ok (.invokevirtual 35, 3) := by decide +kernel
theorem dX5_placeOfFisher_9 : decode cX5_placeOfFisher 9 = .ok (.ireturn, 1) := by decide +kernel
theorem dX5_readAll_0 : decode cX5_readAll 0 = .ok (.aload_n 0, 1) := by decide +kernel
theorem dX5_readAll_1 : decode cX5_readAll 1 = .ok (.ldc 9, 2) := by decide +kernel
theorem dX5_readAll_3 : decode cX5_readAll 3 = .ok (.putfield 11, 3) := by decide +kernel
theorem dX5_readAll_6 : decode cX5_readAll 6 = .ok (.aload_n 0, 1) := by decide +kernel
theorem dX5_readAll_7 : decode cX5_readAll 7 = .ok (.iconst 0, 1) := by decide +kernel
theorem dX5_readAll_8 : decode cX5_readAll 8 = .ok (.putfield 17, 3) := by decide +kernel
theorem dX5_readAll_11 : decode cX5_readAll 11 = .ok (.iconst 0, 1) := by decide +kernel
theorem dX5_readAll_12 : decode cX5_readAll 12 = .ok (.istore_n 2, 1) := by decide +kernel
theorem dX5_readAll_13 : decode cX5_readAll 13 = .ok (.iload_n 2, 1) := by decide +kernel
theorem dX5_readAll_14 : decode cX5_readAll 14 = .ok (.aload_n 1, 1) := by decide +kernel
theorem dX5_readAll_15 : decode cX5_readAll 15 = .ok (.invokevirtual 41, 3) := by decide +kernel
theorem dX5_readAll_18 : decode cX5_readAll 18 = .ok (.if_icmp .ge 23, 3) := by decide +kernel
theorem dX5_readAll_21 : decode cX5_readAll 21 = .ok (.aload_n 0, 1) := by decide +kernel
theorem dX5_readAll_22 : decode cX5_readAll 22 = .ok (.aload_n 1, 1) := by decide +kernel
theorem dX5_readAll_23 : decode cX5_readAll 23 = .ok (.iload_n 2, 1) := by decide +kernel
theorem dX5_readAll_24 : decode cX5_readAll 24 = .ok (.invokevirtual 47, 3) := by decide +kernel
theorem dX5_readAll_27 : decode cX5_readAll 27 = .ok (.invokevirtual 50, 3) := by decide +kernel
theorem dX5_readAll_30 : decode cX5_readAll 30 = .ok (.ifCond .ne 5, 3) := by decide +kernel
theorem dX5_readAll_33 : decode cX5_readAll 33 = .ok (.iload_n 2, 1) := by decide +kernel
theorem dX5_readAll_34 : decode cX5_readAll 34 = .ok (.ireturn, 1) := by decide +kernel
theorem dX5_readAll_35 : decode cX5_readAll 35 = .ok (.iinc 2 1, 3) := by decide +kernel
theorem dX5_readAll_38 : decode cX5_readAll 38 = .ok (.goto (-25), 3) := by decide +kernel
theorem dX5_readAll_41 : decode cX5_readAll 41 = .ok (.aload_n 1, 1) := by decide +kernel
theorem dX5_readAll_42 : decode cX5_readAll 42 = .ok (.invokevirtual 41, 3) := by decide +kernel
theorem dX5_readAll_45 : decode cX5_readAll 45 = .ok (.ireturn, 1) := by decide +kernel
theorem dX5_mayEnd_0 : decode cX5_mayEnd 0 = .ok (.aload_n 0, 1) := by decide +kernel
theorem dX5_mayEnd_1 : decode cX5_mayEnd 1 = .ok (.getfield 17, 3) := by decide +kernel
theorem dX5_mayEnd_4 : decode cX5_mayEnd 4 = .ok (.iconst 1, 1) := by decide +kernel
theorem dX5_mayEnd_5 : decode cX5_mayEnd 5 = .ok (.if_icmp .lt 17, 3) := by decide +kernel
theorem dX5_mayEnd_8 : decode cX5_mayEnd 8 = .ok (.aload_n 0, 1) := by decide +kernel
theorem dX5_mayEnd_9 : decode cX5_mayEnd 9 = .ok (.getfield 17, 3) := by decide +kernel
theorem dX5_mayEnd_12 : decode cX5_mayEnd 12 = .ok (.aload_n 0, 1) := by decide +kernel
theorem dX5_mayEnd_13 : decode cX5_mayEnd 13 = .ok (.getfield 11, 3) := by decide +kernel
theorem dX5_mayEnd_16 : decode cX5_mayEnd 16 = .ok (.invokevirtual 54, 3) := by decide +kernel
theorem dX5_mayEnd_19 : decode cX5_mayEnd 19 = .ok (.if_icmp .le 5, 3) := by decide +kernel
theorem dX5_mayEnd_22 : decode cX5_mayEnd 22 = .ok (.iconst 0, 1) := by decide +kernel
theorem dX5_mayEnd_23 : decode cX5_mayEnd 23 = .ok (.ireturn, 1) := by decide +kernel
theorem dX5_mayEnd_24 : decode cX5_mayEnd 24 = .ok (.aload_n 0, 1) := by decide +kernel
theorem dX5_mayEnd_25 : decode cX5_mayEnd 25 = .ok (.getfield 17, 3) := by decide +kernel
theorem dX5_mayEnd_28 : decode cX5_mayEnd 28 = .ok (.aload_n 0, 1) := by decide +kernel
theorem dX5_mayEnd_29 : decode cX5_mayEnd 29 = .ok (.getfield 11, 3) := by decide +kernel
theorem dX5_mayEnd_32 : decode cX5_mayEnd 32 = .ok (.invokevirtual 54, 3) := by decide +kernel
theorem dX5_mayEnd_35 : decode cX5_mayEnd 35 = .ok (.if_icmp .eq 21, 3) := by decide +kernel
theorem dX5_mayEnd_38 : decode cX5_mayEnd 38 = .ok (.aload_n 0, 1) := by decide +kernel
theorem dX5_mayEnd_39 : decode cX5_mayEnd 39 = .ok (.getfield 11, 3) := by decide +kernel
theorem dX5_mayEnd_42 : decode cX5_mayEnd 42 = .ok (.aload_n 0, 1) := by decide +kernel
theorem dX5_mayEnd_43 : decode cX5_mayEnd 43 = .ok (.getfield 17, 3) := by decide +kernel
theorem dX5_mayEnd_46 : decode cX5_mayEnd 46 = .ok (.iconst 1, 1) := by decide +kernel
theorem dX5_mayEnd_47 : decode cX5_mayEnd 47 = .ok (.isub, 1) := by decide +kernel
theorem dX5_mayEnd_48 : decode cX5_mayEnd 48 = .ok (.invokevirtual 57, 3) := by decide +kernel
theorem dX5_mayEnd_51 : decode cX5_mayEnd 51 = .ok (.bipush 76, 2) := by decide +kernel
theorem dX5_mayEnd_53 : decode cX5_mayEnd 53 = .ok (.if_icmp .ne 7, 3) := by decide +kernel
theorem dX5_mayEnd_56 : decode cX5_mayEnd 56 = .ok (.iconst 1, 1) := by decide +kernel
theorem dX5_mayEnd_57 : decode cX5_mayEnd 57 = .ok (.goto 4, 3) := by decide +kernel
theorem dX5_mayEnd_60 : decode cX5_mayEnd 60 = .ok (.iconst 0, 1) := by decide +kernel
theorem dX5_mayEnd_61 : decode cX5_mayEnd 61 = .ok (.ireturn, 1) := by decide +kernel
theorem dX5_takes_0 : decode cX5_takes 0 = .ok (.iload_n 1, 1) := by decide +kernel
theorem dX5_takes_1 : decode cX5_takes 1 = .ok (.bipush 59, 2) := by decide +kernel
theorem dX5_takes_3 : decode cX5_takes 3 = .ok (.if_icmp .ne 17, 3) := by decide +kernel
theorem dX5_takes_6 : decode cX5_takes 6 = .ok (.aload_n 0, 1) := by decide +kernel
theorem dX5_takes_7 : decode cX5_takes 7 = .ok (.invokevirtual 61, 3) := by decide +kernel
theorem dX5_takes_10 : decode cX5_takes 10 = .ok (.ifCond .eq 10, 3) := by decide +kernel
theorem dX5_takes_13 : decode cX5_takes 13 = .ok (.aload_n 0, 1) := by decide +kernel
theorem dX5_takes_14 : decode cX5_takes 14 = .ok (.iconst 0, 1) := by decide +kernel
theorem dX5_takes_15 : decode cX5_takes 15 = .ok (.putfield 17, 3) := by decide +kernel
theorem dX5_takes_18 : decode cX5_takes 18 = .ok (.iconst 1, 1) := by decide +kernel
theorem dX5_takes_19 : decode cX5_takes 19 = .ok (.ireturn, 1) := by decide +kernel
theorem dX5_takes_20 : decode cX5_takes 20 = .ok (.aload_n 0, 1) := by decide +kernel
theorem dX5_takes_21 : decode cX5_takes 21 = .ok (.getfield 17, 3) := by decide +kernel
theorem dX5_takes_24 : decode cX5_takes 24 = .ok (.ifCond .ne 11, 3) := by decide +kernel
theorem dX5_takes_27 : decode cX5_takes 27 = .ok (.aload_n 0, 1) := by decide +kernel
theorem dX5_takes_28 : decode cX5_takes 28 = .ok (.iload_n 1, 1) := by decide +kernel
theorem dX5_takes_29 : decode cX5_takes 29 = .ok (.invokestatic 31, 3) := by decide +kernel
theorem dX5_takes_32 : decode cX5_takes 32 = .ok (.putfield 11, 3) := by decide +kernel
theorem dX5_takes_35 : decode cX5_takes 35 = .ok (.aload_n 0, 1) := by decide +kernel
theorem dX5_takes_36 : decode cX5_takes 36 = .ok (.getfield 17, 3) := by decide +kernel
theorem dX5_takes_39 : decode cX5_takes 39 = .ok (.ifCond .lt 35, 3) := by decide +kernel
theorem dX5_takes_42 : decode cX5_takes 42 = .ok (.aload_n 0, 1) := by decide +kernel
theorem dX5_takes_43 : decode cX5_takes 43 = .ok (.getfield 17, 3) := by decide +kernel
theorem dX5_takes_46 : decode cX5_takes 46 = .ok (.aload_n 0, 1) := by decide +kernel
theorem dX5_takes_47 : decode cX5_takes 47 = .ok (.getfield 11, 3) := by decide +kernel
theorem dX5_takes_50 : decode cX5_takes 50 = .ok (.invokevirtual 54, 3) := by decide +kernel
theorem dX5_takes_53 : decode cX5_takes 53 = .ok (.if_icmp .ge 21, 3) := by decide +kernel
theorem dX5_takes_56 : decode cX5_takes 56 = .ok (.aload_n 0, 1) := by decide +kernel
theorem dX5_takes_57 : decode cX5_takes 57 = .ok (.getfield 11, 3) := by decide +kernel
theorem dX5_takes_60 : decode cX5_takes 60 = .ok (.aload_n 0, 1) := by decide +kernel
theorem dX5_takes_61 : decode cX5_takes 61 = .ok (.getfield 17, 3) := by decide +kernel
theorem dX5_takes_64 : decode cX5_takes 64 = .ok (.invokevirtual 57, 3) := by decide +kernel
theorem dX5_takes_67 : decode cX5_takes 67 = .ok (.iload_n 1, 1) := by decide +kernel
theorem dX5_takes_68 : decode cX5_takes 68 = .ok (.invokestatic 65, 3) := by decide +kernel
theorem dX5_takes_71 : decode cX5_takes 71 = .ok (.ifCond .ne 5, 3) := by decide +kernel
theorem dX5_takes_74 : decode cX5_takes 74 = .ok (.iconst 0, 1) := by decide +kernel
theorem dX5_takes_75 : decode cX5_takes 75 = .ok (.ireturn, 1) := by decide +kernel
theorem dX5_takes_76 : decode cX5_takes 76 = .ok (.aload_n 0, 1) := by decide +kernel
theorem dX5_takes_77 : decode cX5_takes 77 = .ok (.dup, 1) := by decide +kernel
theorem dX5_takes_78 : decode cX5_takes 78 = .ok (.getfield 17, 3) := by decide +kernel
theorem dX5_takes_81 : decode cX5_takes 81 = .ok (.iconst 1, 1) := by decide +kernel
theorem dX5_takes_82 : decode cX5_takes 82 = .ok (.iadd, 1) := by decide +kernel
theorem dX5_takes_83 : decode cX5_takes 83 = .ok (.putfield 17, 3) := by decide +kernel
theorem dX5_takes_86 : decode cX5_takes 86 = .ok (.iconst 1, 1) := by decide +kernel
theorem dX5_takes_87 : decode cX5_takes 87 = .ok (.ireturn, 1) := by decide +kernel
theorem dX5_fits_0 : decode cX5_fits 0 = .ok (.iload_n 0, 1) := by decide +kernel
theorem dX5_fits_1 : decode cX5_fits 1 = .ok (.lookupswitch 76 #[(70, 35), (76, 71), (78, 53)], 35) := by decide +kernel
theorem dX5_fits_36 : decode cX5_fits 36 = .ok (.iload_n 1, 1) := by decide +kernel
theorem dX5_fits_37 : decode cX5_fits 37 = .ok (.bipush 48, 2) := by decide +kernel
theorem dX5_fits_39 : decode cX5_fits 39 = .ok (.if_icmp .lt 13, 3) := by decide +kernel
theorem dX5_fits_42 : decode cX5_fits 42 = .ok (.iload_n 1, 1) := by decide +kernel
theorem dX5_fits_43 : decode cX5_fits 43 = .ok (.bipush 53, 2) := by decide +kernel
theorem dX5_fits_45 : decode cX5_fits 45 = .ok (.if_icmp .ge 7, 3) := by decide +kernel
theorem dX5_fits_48 : decode cX5_fits 48 = .ok (.iconst 1, 1) := by decide +kernel
theorem dX5_fits_49 : decode cX5_fits 49 = .ok (.goto 4, 3) := by decide +kernel
theorem dX5_fits_52 : decode cX5_fits 52 = .ok (.iconst 0, 1) := by decide +kernel
theorem dX5_fits_53 : decode cX5_fits 53 = .ok (.ireturn, 1) := by decide +kernel
theorem dX5_fits_54 : decode cX5_fits 54 = .ok (.iload_n 1, 1) := by decide +kernel
theorem dX5_fits_55 : decode cX5_fits 55 = .ok (.bipush 48, 2) := by decide +kernel
theorem dX5_fits_57 : decode cX5_fits 57 = .ok (.if_icmp .lt 13, 3) := by decide +kernel
theorem dX5_fits_60 : decode cX5_fits 60 = .ok (.iload_n 1, 1) := by decide +kernel
theorem dX5_fits_61 : decode cX5_fits 61 = .ok (.bipush 54, 2) := by decide +kernel
theorem dX5_fits_63 : decode cX5_fits 63 = .ok (.if_icmp .ge 7, 3) := by decide +kernel
theorem dX5_fits_66 : decode cX5_fits 66 = .ok (.iconst 1, 1) := by decide +kernel
theorem dX5_fits_67 : decode cX5_fits 67 = .ok (.goto 4, 3) := by decide +kernel
theorem dX5_fits_70 : decode cX5_fits 70 = .ok (.iconst 0, 1) := by decide +kernel
theorem dX5_fits_71 : decode cX5_fits 71 = .ok (.ireturn, 1) := by decide +kernel
theorem dX5_fits_72 : decode cX5_fits 72 = .ok (.iload_n 1, 1) := by decide +kernel
theorem dX5_fits_73 : decode cX5_fits 73 = .ok (.invokestatic 69, 3) := by decide +kernel
theorem dX5_fits_76 : decode cX5_fits 76 = .ok (.ireturn, 1) := by decide +kernel
theorem dX5_fits_77 : decode cX5_fits 77 = .ok (.iload_n 1, 1) := by decide +kernel
theorem dX5_fits_78 : decode cX5_fits 78 = .ok (.iload_n 0, 1) := by decide +kernel
theorem dX5_fits_79 : decode cX5_fits 79 = .ok (.if_icmp .ne 7, 3) := by decide +kernel
theorem dX5_fits_82 : decode cX5_fits 82 = .ok (.iconst 1, 1) := by decide +kernel
theorem dX5_fits_83 : decode cX5_fits 83 = .ok (.goto 4, 3) := by decide +kernel
theorem dX5_fits_86 : decode cX5_fits 86 = .ok (.iconst 0, 1) := by decide +kernel
theorem dX5_fits_87 : decode cX5_fits 87 = .ok (.ireturn, 1) := by decide +kernel
theorem dX6_loosenedBehind_0 : decode cX6_loosenedBehind 0 = .ok (.iload_n 1, 1) := by decide +kernel
theorem dX6_loosenedBehind_1 : decode cX6_loosenedBehind 1 = .ok (.iload_n 2, 1) := by decide +kernel
theorem dX6_loosenedBehind_2 : decode cX6_loosenedBehind 2 = .ok (.iload_n 3, 1) := by decide +kernel
theorem dX6_loosenedBehind_3 : decode cX6_loosenedBehind 3 = .ok (.invokestatic 9, 3) := by decide +kernel
theorem dX6_loosenedBehind_6 : decode cX6_loosenedBehind 6 = .ok (.istore 5, 2) := by decide +kernel
theorem dX6_loosenedBehind_8 : decode cX6_loosenedBehind 8 = .ok (.aload_n 0, 1) := by decide +kernel
theorem dX6_loosenedBehind_9 : decode cX6_loosenedBehind 9 = .ok (.iload 5, 2) := by decide +kernel
theorem dX6_loosenedBehind_11 : decode cX6_loosenedBehind 11 = .ok (.iconst 1, 1) := by decide +kernel
theorem dX6_loosenedBehind_12 : decode cX6_loosenedBehind 12 = .ok (.iadd, 1) := by decide +kernel
theorem dX6_loosenedBehind_13 : decode cX6_loosenedBehind 13 = .ok (.invokevirtual 15, 3) := by decide +kernel
theorem dX6_loosenedBehind_16 : decode cX6_loosenedBehind 16 = .ok (.istore 6, 2) := by decide +kernel
theorem dX6_loosenedBehind_18 : decode cX6_loosenedBehind 18 = .ok (.aload_n 0, 1) := by decide +kernel
theorem dX6_loosenedBehind_19 : decode cX6_loosenedBehind 19 = .ok (.iconst 1, 1) := by decide +kernel
theorem dX6_loosenedBehind_20 : decode cX6_loosenedBehind 20 = .ok (.invokevirtual 15, 3) := by decide +kernel
theorem dX6_loosenedBehind_23 : decode cX6_loosenedBehind 23 = .ok (.istore 7, 2) := by decide +kernel
theorem dX6_loosenedBehind_25 : decode cX6_loosenedBehind 25 = .ok (.iload 7, 2) := by decide +kernel
theorem dX6_loosenedBehind_27 : decode cX6_loosenedBehind 27 = .ok (.iconst 1, 1) := by decide +kernel
theorem dX6_loosenedBehind_28 : decode cX6_loosenedBehind 28 = .ok (.if_icmp .lt 17, 3) := by decide +kernel
theorem dX6_loosenedBehind_31 : decode cX6_loosenedBehind 31 = .ok (.aload_n 0, 1) := by decide +kernel
theorem dX6_loosenedBehind_32 : decode cX6_loosenedBehind 32 = .ok (.iload 5, 2) := by decide +kernel
theorem dX6_loosenedBehind_34 : decode cX6_loosenedBehind 34 = .ok (.iconst 0, 1) := by decide +kernel
theorem dX6_loosenedBehind_35 : decode cX6_loosenedBehind 35 = .ok (.iadd, 1) := by decide +kernel
theorem dX6_loosenedBehind_36 : decode cX6_loosenedBehind 36 = .ok (.invokevirtual 15, 3) := by decide +kernel
theorem dX6_loosenedBehind_39 : decode cX6_loosenedBehind 39 = .ok (.invokestatic 19, 3) := by decide +kernel
theorem dX6_loosenedBehind_42 : decode cX6_loosenedBehind 42 = .ok (.ifCond .ne 6, 3) := by decide +kernel
theorem dX6_loosenedBehind_45 : decode cX6_loosenedBehind 45 = .ok (.iload 6, 2) := by decide +kernel
theorem dX6_loosenedBehind_47 : decode cX6_loosenedBehind 47 = .ok (.ireturn, 1) := by decide +kernel
theorem dX6_loosenedBehind_48 : decode cX6_loosenedBehind 48 = .ok (.iload_n 3, 1) := by decide +kernel
theorem dX6_loosenedBehind_49 : decode cX6_loosenedBehind 49 = .ok (.iconst 1, 1) := by decide +kernel
theorem dX6_loosenedBehind_50 : decode cX6_loosenedBehind 50 = .ok (.iadd, 1) := by decide +kernel
theorem dX6_loosenedBehind_51 : decode cX6_loosenedBehind 51 = .ok (.aload_n 0, 1) := by decide +kernel
theorem dX6_loosenedBehind_52 : decode cX6_loosenedBehind 52 = .ok (.iconst 0, 1) := by decide +kernel
theorem dX6_loosenedBehind_53 : decode cX6_loosenedBehind 53 = .ok (.invokevirtual 15, 3) := by decide +kernel
theorem dX6_loosenedBehind_56 : decode cX6_loosenedBehind 56 = .ok (.iadd, 1) := by decide +kernel
theorem dX6_loosenedBehind_57 : decode cX6_loosenedBehind 57 = .ok (.istore 8, 2) := by decide +kernel
theorem dX6_loosenedBehind_59 : decode cX6_loosenedBehind 59 = .ok (.iload 6, 2) := by decide +kernel
theorem dX6_loosenedBehind_61 : decode cX6_loosenedBehind 61 = .ok (.iload 8, 2) := by decide +kernel
theorem dX6_loosenedBehind_63 : decode cX6_loosenedBehind 63 = .ok (.iload 4, 2) := by decide +kernel
theorem dX6_loosenedBehind_65 : decode cX6_loosenedBehind 65 = .ok (.iadd, 1) := by decide +kernel
theorem dX6_loosenedBehind_66 : decode cX6_loosenedBehind 66 = .ok (.iload 7, 2) := by decide +kernel
theorem dX6_loosenedBehind_68 : decode cX6_loosenedBehind 68 = .ok (.idiv, 1) := by decide +kernel
theorem dX6_loosenedBehind_69 : decode cX6_loosenedBehind 69 = .ok (.iadd, 1) := by decide +kernel
theorem dX6_loosenedBehind_70 : decode cX6_loosenedBehind 70 = .ok (.iload 8, 2) := by decide +kernel
theorem dX6_loosenedBehind_72 : decode cX6_loosenedBehind 72 = .ok (.iload 7, 2) := by decide +kernel
theorem dX6_loosenedBehind_74 : decode cX6_loosenedBehind 74 = .ok (.idiv, 1) := by decide +kernel
theorem dX6_loosenedBehind_75 : decode cX6_loosenedBehind 75 = .ok (.isub, 1) := by decide +kernel
theorem dX6_loosenedBehind_76 : decode cX6_loosenedBehind 76 = .ok (.ireturn, 1) := by decide +kernel
theorem dX6_unreadableBehind_0 : decode cX6_unreadableBehind 0 = .ok (.iconst 0, 1) := by decide +kernel
theorem dX6_unreadableBehind_1 : decode cX6_unreadableBehind 1 = .ok (.istore 4, 2) := by decide +kernel
theorem dX6_unreadableBehind_3 : decode cX6_unreadableBehind 3 = .ok (.aload_n 0, 1) := by decide +kernel
theorem dX6_unreadableBehind_4 : decode cX6_unreadableBehind 4 = .ok (.iload_n 1, 1) := by decide +kernel
theorem dX6_unreadableBehind_5 : decode cX6_unreadableBehind 5 = .ok (.iload_n 2, 1) := by decide +kernel
theorem dX6_unreadableBehind_6 : decode cX6_unreadableBehind 6 = .ok (.invokevirtual 25, 3) := by decide +kernel
theorem dX6_unreadableBehind_9 : decode cX6_unreadableBehind 9 = .ok (.istore 5, 2) := by decide +kernel
theorem dX6_unreadableBehind_11 : decode cX6_unreadableBehind 11 = .ok (.iconst 0, 1) := by decide +kernel
theorem dX6_unreadableBehind_12 : decode cX6_unreadableBehind 12 = .ok (.istore 6, 2) := by decide +kernel
theorem dX6_unreadableBehind_14 : decode cX6_unreadableBehind 14 = .ok (.iload 6, 2) := by decide +kernel
theorem dX6_unreadableBehind_16 : decode cX6_unreadableBehind 16 = .ok (.iload 5, 2) := by decide +kernel
theorem dX6_unreadableBehind_18 : decode cX6_unreadableBehind 18 = .ok (.if_icmp .ge 32, 3) := by decide +kernel
theorem dX6_unreadableBehind_21 : decode cX6_unreadableBehind 21 = .ok (.iload 4, 2) := by decide +kernel
theorem dX6_unreadableBehind_23 : decode cX6_unreadableBehind 23 = .ok (.aload_n 0, 1) := by decide +kernel
theorem dX6_unreadableBehind_24 : decode cX6_unreadableBehind 24 = .ok (.iload_n 1, 1) := by decide +kernel
theorem dX6_unreadableBehind_25 : decode cX6_unreadableBehind 25 = .ok (.iload_n 2, 1) := by decide +kernel
theorem dX6_unreadableBehind_26 : decode cX6_unreadableBehind 26 = .ok (.iload 6, 2) := by decide +kernel
theorem dX6_unreadableBehind_28 : decode cX6_unreadableBehind 28 = .ok (.iload_n 3, 1) := by decide +kernel
theorem dX6_unreadableBehind_29 : decode cX6_unreadableBehind 29 = .ok (.invokestatic 29, 3) := by decide +kernel
theorem dX6_unreadableBehind_32 : decode cX6_unreadableBehind 32 = .ok (.iconst 1, 1) := by decide +kernel
theorem dX6_unreadableBehind_33 : decode cX6_unreadableBehind 33 = .ok (.if_icmp .le 7, 3) := by decide +kernel
theorem dX6_unreadableBehind_36 : decode cX6_unreadableBehind 36 = .ok (.iconst 1, 1) := by decide +kernel
theorem dX6_unreadableBehind_37 : decode cX6_unreadableBehind 37 = .ok (.goto 4, 3) := by decide +kernel
theorem dX6_unreadableBehind_40 : decode cX6_unreadableBehind 40 = .ok (.iconst 0, 1) := by decide +kernel
theorem dX6_unreadableBehind_41 : decode cX6_unreadableBehind 41 = .ok (.iadd, 1) := by decide +kernel
theorem dX6_unreadableBehind_42 : decode cX6_unreadableBehind 42 = .ok (.istore 4, 2) := by decide +kernel
theorem dX6_unreadableBehind_44 : decode cX6_unreadableBehind 44 = .ok (.iinc 6 1, 3) := by decide +kernel
theorem dX6_unreadableBehind_47 : decode cX6_unreadableBehind 47 = .ok (.goto (-33), 3) := by decide +kernel
theorem dX6_unreadableBehind_50 : decode cX6_unreadableBehind 50 = .ok (.iload 4, 2) := by decide +kernel
theorem dX6_unreadableBehind_52 : decode cX6_unreadableBehind 52 = .ok (.ireturn, 1) := by decide +kernel
theorem dX6_stormsToLoss_0 : decode cX6_stormsToLoss 0 = .ok (.aload_n 0, 1) := by decide +kernel
theorem dX6_stormsToLoss_1 : decode cX6_stormsToLoss 1 = .ok (.iconst 2, 1) := by decide +kernel
theorem dX6_stormsToLoss_2 : decode cX6_stormsToLoss 2 = .ok (.invokevirtual 15, 3) := by decide +kernel
theorem dX6_stormsToLoss_5 : decode cX6_stormsToLoss 5 = .ok (.istore_n 3, 1) := by decide +kernel
theorem dX6_stormsToLoss_6 : decode cX6_stormsToLoss 6 = .ok (.iconst 1, 1) := by decide +kernel
theorem dX6_stormsToLoss_7 : decode cX6_stormsToLoss 7 = .ok (.istore 4, 2) := by decide +kernel
theorem dX6_stormsToLoss_9 : decode cX6_stormsToLoss 9 = .ok (.iload 4, 2) := by decide +kernel
theorem dX6_stormsToLoss_11 : decode cX6_stormsToLoss 11 = .ok (.bipush 60, 2) := by decide +kernel
theorem dX6_stormsToLoss_13 : decode cX6_stormsToLoss 13 = .ok (.if_icmp .gt 24, 3) := by decide +kernel
theorem dX6_stormsToLoss_16 : decode cX6_stormsToLoss 16 = .ok (.aload_n 0, 1) := by decide +kernel
theorem dX6_stormsToLoss_17 : decode cX6_stormsToLoss 17 = .ok (.iload_n 1, 1) := by decide +kernel
theorem dX6_stormsToLoss_18 : decode cX6_stormsToLoss 18 = .ok (.iload_n 2, 1) := by decide +kernel
theorem dX6_stormsToLoss_19 : decode cX6_stormsToLoss 19 = .ok (.iload 4, 2) := by decide +kernel
theorem dX6_stormsToLoss_21 : decode cX6_stormsToLoss 21 = .ok (.invokestatic 35, 3) := by decide +kernel
theorem dX6_stormsToLoss_24 : decode cX6_stormsToLoss 24 = .ok (.iload_n 3, 1) := by decide +kernel
theorem dX6_stormsToLoss_25 : decode cX6_stormsToLoss 25 = .ok (.if_icmp .le 6, 3) := by decide +kernel
theorem dX6_stormsToLoss_28 : decode cX6_stormsToLoss 28 = .ok (.iload 4, 2) := by decide +kernel
theorem dX6_stormsToLoss_30 : decode cX6_stormsToLoss 30 = .ok (.ireturn, 1) := by decide +kernel
theorem dX6_stormsToLoss_31 : decode cX6_stormsToLoss 31 = .ok (.iinc 4 1, 3) := by decide +kernel
theorem dX6_stormsToLoss_34 : decode cX6_stormsToLoss 34 = .ok (.goto (-25), 3) := by decide +kernel
theorem dX6_stormsToLoss_37 : decode cX6_stormsToLoss 37 = .ok (.iconst (-1), 1) := by decide +kernel
theorem dX6_stormsToLoss_38 : decode cX6_stormsToLoss 38 = .ok (.ireturn, 1) := by decide +kernel
theorem dX6_ofNextStorm_0 : decode cX6_ofNextStorm 0 = .ok (.iconst 0, 1) := by decide +kernel
theorem dX6_ofNextStorm_1 : decode cX6_ofNextStorm 1 = .ok (.istore_n 3, 1) := by decide +kernel
theorem dX6_ofNextStorm_2 : decode cX6_ofNextStorm 2 = .ok (.iconst 0, 1) := by decide +kernel
theorem dX6_ofNextStorm_3 : decode cX6_ofNextStorm 3 = .ok (.istore 4, 2) := by decide +kernel
theorem dX6_ofNextStorm_5 : decode cX6_ofNextStorm 5 = .ok (.aload_n 0, 1) := by decide +kernel
theorem dX6_ofNextStorm_6 : decode cX6_ofNextStorm 6 = .ok (.iconst 2, 1) := by decide +kernel
theorem dX6_ofNextStorm_7 : decode cX6_ofNextStorm 7 = .ok (.invokevirtual 15, 3) := by decide +kernel
theorem dX6_ofNextStorm_10 : decode cX6_ofNextStorm 10 = .ok (.istore 5, 2) := by decide +kernel
theorem dX6_ofNextStorm_12 : decode cX6_ofNextStorm 12 = .ok (.aload_n 0, 1) := by decide +kernel
theorem dX6_ofNextStorm_13 : decode cX6_ofNextStorm 13 = .ok (.iload_n 1, 1) := by decide +kernel
theorem dX6_ofNextStorm_14 : decode cX6_ofNextStorm 14 = .ok (.invokevirtual 39, 3) := by decide +kernel
theorem dX6_ofNextStorm_17 : decode cX6_ofNextStorm 17 = .ok (.istore 6, 2) := by decide +kernel
theorem dX6_ofNextStorm_19 : decode cX6_ofNextStorm 19 = .ok (.iconst 0, 1) := by decide +kernel
theorem dX6_ofNextStorm_20 : decode cX6_ofNextStorm 20 = .ok (.istore 7, 2) := by decide +kernel
theorem dX6_ofNextStorm_22 : decode cX6_ofNextStorm 22 = .ok (.iload 7, 2) := by decide +kernel
theorem dX6_ofNextStorm_24 : decode cX6_ofNextStorm 24 = .ok (.iload 6, 2) := by decide +kernel
theorem dX6_ofNextStorm_26 : decode cX6_ofNextStorm 26 = .ok (.if_icmp .ge 42, 3) := by decide +kernel
theorem dX6_ofNextStorm_29 : decode cX6_ofNextStorm 29 = .ok (.iload_n 3, 1) := by decide +kernel
theorem dX6_ofNextStorm_30 : decode cX6_ofNextStorm 30 = .ok (.aload_n 0, 1) := by decide +kernel
theorem dX6_ofNextStorm_31 : decode cX6_ofNextStorm 31 = .ok (.iload_n 1, 1) := by decide +kernel
theorem dX6_ofNextStorm_32 : decode cX6_ofNextStorm 32 = .ok (.iload 7, 2) := by decide +kernel
theorem dX6_ofNextStorm_34 : decode cX6_ofNextStorm 34 = .ok (.iconst 1, 1) := by decide +kernel
theorem dX6_ofNextStorm_35 : decode cX6_ofNextStorm 35 = .ok (.invokestatic 35, 3) := by decide +kernel
theorem dX6_ofNextStorm_38 : decode cX6_ofNextStorm 38 = .ok (.iload 5, 2) := by decide +kernel
theorem dX6_ofNextStorm_40 : decode cX6_ofNextStorm 40 = .ok (.if_icmp .le 7, 3) := by decide +kernel
theorem dX6_ofNextStorm_43 : decode cX6_ofNextStorm 43 = .ok (.iconst 1, 1) := by decide +kernel
theorem dX6_ofNextStorm_44 : decode cX6_ofNextStorm 44 = .ok (.goto 4, 3) := by decide +kernel
theorem dX6_ofNextStorm_47 : decode cX6_ofNextStorm 47 = .ok (.iconst 0, 1) := by decide +kernel
theorem dX6_ofNextStorm_48 : decode cX6_ofNextStorm 48 = .ok (.iadd, 1) := by decide +kernel
theorem dX6_ofNextStorm_49 : decode cX6_ofNextStorm 49 = .ok (.istore_n 3, 1) := by decide +kernel
theorem dX6_ofNextStorm_50 : decode cX6_ofNextStorm 50 = .ok (.iload 4, 2) := by decide +kernel
theorem dX6_ofNextStorm_52 : decode cX6_ofNextStorm 52 = .ok (.aload_n 0, 1) := by decide +kernel
theorem dX6_ofNextStorm_53 : decode cX6_ofNextStorm 53 = .ok (.iload_n 1, 1) := by decide +kernel
theorem dX6_ofNextStorm_54 : decode cX6_ofNextStorm 54 = .ok (.iload 7, 2) := by decide +kernel
theorem dX6_ofNextStorm_56 : decode cX6_ofNextStorm 56 = .ok (.invokestatic 42, 3) := by decide +kernel
theorem dX6_ofNextStorm_59 : decode cX6_ofNextStorm 59 = .ok (.iadd, 1) := by decide +kernel
theorem dX6_ofNextStorm_60 : decode cX6_ofNextStorm 60 = .ok (.istore 4, 2) := by decide +kernel
theorem dX6_ofNextStorm_62 : decode cX6_ofNextStorm 62 = .ok (.iinc 7 1, 3) := by decide +kernel
theorem dX6_ofNextStorm_65 : decode cX6_ofNextStorm 65 = .ok (.goto (-43), 3) := by decide +kernel
theorem dX6_ofNextStorm_68 : decode cX6_ofNextStorm 68 = .ok (.iload_n 2, 1) := by decide +kernel
theorem dX6_ofNextStorm_69 : decode cX6_ofNextStorm 69 = .ok (.ifCond .ne 7, 3) := by decide +kernel
theorem dX6_ofNextStorm_72 : decode cX6_ofNextStorm 72 = .ok (.iload_n 3, 1) := by decide +kernel
theorem dX6_ofNextStorm_73 : decode cX6_ofNextStorm 73 = .ok (.goto 5, 3) := by decide +kernel
theorem dX6_ofNextStorm_76 : decode cX6_ofNextStorm 76 = .ok (.iload 4, 2) := by decide +kernel
theorem dX6_ofNextStorm_78 : decode cX6_ofNextStorm 78 = .ok (.ireturn, 1) := by decide +kernel
theorem dX6_loosenedByNext_0 : decode cX6_loosenedByNext 0 = .ok (.iconst 0, 1) := by decide +kernel
theorem dX6_loosenedByNext_1 : decode cX6_loosenedByNext 1 = .ok (.istore_n 3, 1) := by decide +kernel
theorem dX6_loosenedByNext_2 : decode cX6_loosenedByNext 2 = .ok (.aload_n 0, 1) := by decide +kernel
theorem dX6_loosenedByNext_3 : decode cX6_loosenedByNext 3 = .ok (.iload_n 1, 1) := by decide +kernel
theorem dX6_loosenedByNext_4 : decode cX6_loosenedByNext 4 = .ok (.iload_n 2, 1) := by decide +kernel
theorem dX6_loosenedByNext_5 : decode cX6_loosenedByNext 5 = .ok (.invokevirtual 25, 3) := by decide +kernel
theorem dX6_loosenedByNext_8 : decode cX6_loosenedByNext 8 = .ok (.istore 4, 2) := by decide +kernel
theorem dX6_loosenedByNext_10 : decode cX6_loosenedByNext 10 = .ok (.iconst 0, 1) := by decide +kernel
theorem dX6_loosenedByNext_11 : decode cX6_loosenedByNext 11 = .ok (.istore 5, 2) := by decide +kernel
theorem dX6_loosenedByNext_13 : decode cX6_loosenedByNext 13 = .ok (.iload 5, 2) := by decide +kernel
theorem dX6_loosenedByNext_15 : decode cX6_loosenedByNext 15 = .ok (.iload 4, 2) := by decide +kernel
theorem dX6_loosenedByNext_17 : decode cX6_loosenedByNext 17 = .ok (.if_icmp .ge 34, 3) := by decide +kernel
theorem dX6_loosenedByNext_20 : decode cX6_loosenedByNext 20 = .ok (.aload_n 0, 1) := by decide +kernel
theorem dX6_loosenedByNext_21 : decode cX6_loosenedByNext 21 = .ok (.iload_n 1, 1) := by decide +kernel
theorem dX6_loosenedByNext_22 : decode cX6_loosenedByNext 22 = .ok (.iload_n 2, 1) := by decide +kernel
theorem dX6_loosenedByNext_23 : decode cX6_loosenedByNext 23 = .ok (.iload 5, 2) := by decide +kernel
theorem dX6_loosenedByNext_25 : decode cX6_loosenedByNext 25 = .ok (.invokevirtual 46, 3) := by decide +kernel
theorem dX6_loosenedByNext_28 : decode cX6_loosenedByNext 28 = .ok (.istore 6, 2) := by decide +kernel
theorem dX6_loosenedByNext_30 : decode cX6_loosenedByNext 30 = .ok (.iload_n 3, 1) := by decide +kernel
theorem dX6_loosenedByNext_31 : decode cX6_loosenedByNext 31 = .ok (.aload_n 0, 1) := by decide +kernel
theorem dX6_loosenedByNext_32 : decode cX6_loosenedByNext 32 = .ok (.iload_n 1, 1) := by decide +kernel
theorem dX6_loosenedByNext_33 : decode cX6_loosenedByNext 33 = .ok (.iload_n 2, 1) := by decide +kernel
theorem dX6_loosenedByNext_34 : decode cX6_loosenedByNext 34 = .ok (.iload 5, 2) := by decide +kernel
theorem dX6_loosenedByNext_36 : decode cX6_loosenedByNext 36 = .ok (.iconst 1, 1) := by decide +kernel
theorem dX6_loosenedByNext_37 : decode cX6_loosenedByNext 37 = .ok (.invokestatic 29, 3) := by decide +kernel
theorem dX6_loosenedByNext_40 : decode cX6_loosenedByNext 40 = .ok (.iload 6, 2) := by decide +kernel
theorem dX6_loosenedByNext_42 : decode cX6_loosenedByNext 42 = .ok (.isub, 1) := by decide +kernel
theorem dX6_loosenedByNext_43 : decode cX6_loosenedByNext 43 = .ok (.iadd, 1) := by decide +kernel
theorem dX6_loosenedByNext_44 : decode cX6_loosenedByNext 44 = .ok (.istore_n 3, 1) := by decide +kernel
theorem dX6_loosenedByNext_45 : decode cX6_loosenedByNext 45 = .ok (.iinc 5 1, 3) := by decide +kernel
theorem dX6_loosenedByNext_48 : decode cX6_loosenedByNext 48 = .ok (.goto (-35), 3) := by decide +kernel
theorem dX6_loosenedByNext_51 : decode cX6_loosenedByNext 51 = .ok (.iload_n 3, 1) := by decide +kernel
theorem dX6_loosenedByNext_52 : decode cX6_loosenedByNext 52 = .ok (.ireturn, 1) := by decide +kernel
theorem dX6_comeOver_0 : decode cX6_comeOver 0 = .ok (.aload_n 0, 1) := by decide +kernel
theorem dX6_comeOver_1 : decode cX6_comeOver 1 = .ok (.iload_n 1, 1) := by decide +kernel
theorem dX6_comeOver_2 : decode cX6_comeOver 2 = .ok (.invokevirtual 39, 3) := by decide +kernel
theorem dX6_comeOver_5 : decode cX6_comeOver 5 = .ok (.istore_n 2, 1) := by decide +kernel
theorem dX6_comeOver_6 : decode cX6_comeOver 6 = .ok (.iconst 0, 1) := by decide +kernel
theorem dX6_comeOver_7 : decode cX6_comeOver 7 = .ok (.istore_n 3, 1) := by decide +kernel
theorem dX6_comeOver_8 : decode cX6_comeOver 8 = .ok (.iload_n 3, 1) := by decide +kernel
theorem dX6_comeOver_9 : decode cX6_comeOver 9 = .ok (.iload_n 2, 1) := by decide +kernel
theorem dX6_comeOver_10 : decode cX6_comeOver 10 = .ok (.if_icmp .ge 15, 3) := by decide +kernel
theorem dX6_comeOver_13 : decode cX6_comeOver 13 = .ok (.aload_n 0, 1) := by decide +kernel
theorem dX6_comeOver_14 : decode cX6_comeOver 14 = .ok (.iload_n 1, 1) := by decide +kernel
theorem dX6_comeOver_15 : decode cX6_comeOver 15 = .ok (.iload_n 3, 1) := by decide +kernel
theorem dX6_comeOver_16 : decode cX6_comeOver 16 = .ok (.invokestatic 49, 3) := by decide +kernel
theorem dX6_comeOver_19 : decode cX6_comeOver 19 = .ok (.iinc 3 1, 3) := by decide +kernel
theorem dX6_comeOver_22 : decode cX6_comeOver 22 = .ok (.goto (-14), 3) := by decide +kernel
theorem dX6_comeOver_25 : decode cX6_comeOver 25 = .ok (.aload_n 0, 1) := by decide +kernel
theorem dX6_comeOver_26 : decode cX6_comeOver 26 = .ok (.iconst 0, 1) := by decide +kernel
theorem dX6_comeOver_27 : decode cX6_comeOver 27 = .ok (.iconst 1, 1) := by decide +kernel
theorem dX6_comeOver_28 : decode cX6_comeOver 28 = .ok (.invokevirtual 53, 3) := by decide +kernel
theorem dX6_comeOver_31 : decode cX6_comeOver 31 = .ok (.aload_n 0, 1) := by decide +kernel
theorem dX6_comeOver_32 : decode cX6_comeOver 32 = .ok (.iconst 2, 1) := by decide +kernel
theorem dX6_comeOver_33 : decode cX6_comeOver 33 = .ok (.invokevirtual 15, 3) := by decide +kernel
theorem dX6_comeOver_36 : decode cX6_comeOver 36 = .ok (.istore_n 3, 1) := by decide +kernel
theorem dX6_comeOver_37 : decode cX6_comeOver 37 = .ok (.iconst 0, 1) := by decide +kernel
theorem dX6_comeOver_38 : decode cX6_comeOver 38 = .ok (.istore 4, 2) := by decide +kernel
theorem dX6_comeOver_40 : decode cX6_comeOver 40 = .ok (.iconst 0, 1) := by decide +kernel
theorem dX6_comeOver_41 : decode cX6_comeOver 41 = .ok (.istore 5, 2) := by decide +kernel
theorem dX6_comeOver_43 : decode cX6_comeOver 43 = .ok (.iload 5, 2) := by decide +kernel
theorem dX6_comeOver_45 : decode cX6_comeOver 45 = .ok (.iload_n 2, 1) := by decide +kernel
theorem dX6_comeOver_46 : decode cX6_comeOver 46 = .ok (.if_icmp .ge 38, 3) := by decide +kernel
theorem dX6_comeOver_49 : decode cX6_comeOver 49 = .ok (.iload 5, 2) := by decide +kernel
theorem dX6_comeOver_51 : decode cX6_comeOver 51 = .ok (.iload 4, 2) := by decide +kernel
theorem dX6_comeOver_53 : decode cX6_comeOver 53 = .ok (.isub, 1) := by decide +kernel
theorem dX6_comeOver_54 : decode cX6_comeOver 54 = .ok (.istore 6, 2) := by decide +kernel
theorem dX6_comeOver_56 : decode cX6_comeOver 56 = .ok (.aload_n 0, 1) := by decide +kernel
theorem dX6_comeOver_57 : decode cX6_comeOver 57 = .ok (.iload_n 1, 1) := by decide +kernel
theorem dX6_comeOver_58 : decode cX6_comeOver 58 = .ok (.iload 6, 2) := by decide +kernel
theorem dX6_comeOver_60 : decode cX6_comeOver 60 = .ok (.iconst 0, 1) := by decide +kernel
theorem dX6_comeOver_61 : decode cX6_comeOver 61 = .ok (.invokestatic 35, 3) := by decide +kernel
theorem dX6_comeOver_64 : decode cX6_comeOver 64 = .ok (.iload_n 3, 1) := by decide +kernel
theorem dX6_comeOver_65 : decode cX6_comeOver 65 = .ok (.if_icmp .le 13, 3) := by decide +kernel
theorem dX6_comeOver_68 : decode cX6_comeOver 68 = .ok (.aload_n 0, 1) := by decide +kernel
theorem dX6_comeOver_69 : decode cX6_comeOver 69 = .ok (.iload_n 1, 1) := by decide +kernel
theorem dX6_comeOver_70 : decode cX6_comeOver 70 = .ok (.iload 6, 2) := by decide +kernel
theorem dX6_comeOver_72 : decode cX6_comeOver 72 = .ok (.invokestatic 57, 3) := by decide +kernel
theorem dX6_comeOver_75 : decode cX6_comeOver 75 = .ok (.iinc 4 1, 3) := by decide +kernel
theorem dX6_comeOver_78 : decode cX6_comeOver 78 = .ok (.iinc 5 1, 3) := by decide +kernel
theorem dX6_comeOver_81 : decode cX6_comeOver 81 = .ok (.goto (-38), 3) := by decide +kernel
theorem dX6_comeOver_84 : decode cX6_comeOver 84 = .ok (.iload 4, 2) := by decide +kernel
theorem dX6_comeOver_86 : decode cX6_comeOver 86 = .ok (.ireturn, 1) := by decide +kernel
theorem dX6_loosen_0 : decode cX6_loosen 0 = .ok (.aload_n 0, 1) := by decide +kernel
theorem dX6_loosen_1 : decode cX6_loosen 1 = .ok (.iload_n 1, 1) := by decide +kernel
theorem dX6_loosen_2 : decode cX6_loosen 2 = .ok (.iload_n 2, 1) := by decide +kernel
theorem dX6_loosen_3 : decode cX6_loosen 3 = .ok (.invokevirtual 25, 3) := by decide +kernel
theorem dX6_loosen_6 : decode cX6_loosen 6 = .ok (.istore_n 3, 1) := by decide +kernel
theorem dX6_loosen_7 : decode cX6_loosen 7 = .ok (.iconst 0, 1) := by decide +kernel
theorem dX6_loosen_8 : decode cX6_loosen 8 = .ok (.istore 4, 2) := by decide +kernel
theorem dX6_loosen_10 : decode cX6_loosen 10 = .ok (.iload 4, 2) := by decide +kernel
theorem dX6_loosen_12 : decode cX6_loosen 12 = .ok (.iload_n 3, 1) := by decide +kernel
theorem dX6_loosen_13 : decode cX6_loosen 13 = .ok (.if_icmp .ge 35, 3) := by decide +kernel
theorem dX6_loosen_16 : decode cX6_loosen 16 = .ok (.aload_n 0, 1) := by decide +kernel
theorem dX6_loosen_17 : decode cX6_loosen 17 = .ok (.iload_n 1, 1) := by decide +kernel
theorem dX6_loosen_18 : decode cX6_loosen 18 = .ok (.iload_n 2, 1) := by decide +kernel
theorem dX6_loosen_19 : decode cX6_loosen 19 = .ok (.iload 4, 2) := by decide +kernel
theorem dX6_loosen_21 : decode cX6_loosen 21 = .ok (.iconst 1, 1) := by decide +kernel
theorem dX6_loosen_22 : decode cX6_loosen 22 = .ok (.invokestatic 29, 3) := by decide +kernel
theorem dX6_loosen_25 : decode cX6_loosen 25 = .ok (.istore 5, 2) := by decide +kernel
theorem dX6_loosen_27 : decode cX6_loosen 27 = .ok (.aload_n 0, 1) := by decide +kernel
theorem dX6_loosen_28 : decode cX6_loosen 28 = .ok (.iload_n 1, 1) := by decide +kernel
theorem dX6_loosen_29 : decode cX6_loosen 29 = .ok (.iload_n 2, 1) := by decide +kernel
theorem dX6_loosen_30 : decode cX6_loosen 30 = .ok (.iload 4, 2) := by decide +kernel
theorem dX6_loosen_32 : decode cX6_loosen 32 = .ok (.invokestatic 9, 3) := by decide +kernel
theorem dX6_loosen_35 : decode cX6_loosen 35 = .ok (.iconst 1, 1) := by decide +kernel
theorem dX6_loosen_36 : decode cX6_loosen 36 = .ok (.iadd, 1) := by decide +kernel
theorem dX6_loosen_37 : decode cX6_loosen 37 = .ok (.iload 5, 2) := by decide +kernel
theorem dX6_loosen_39 : decode cX6_loosen 39 = .ok (.invokevirtual 60, 3) := by decide +kernel
theorem dX6_loosen_42 : decode cX6_loosen 42 = .ok (.iinc 4 1, 3) := by decide +kernel
theorem dX6_loosen_45 : decode cX6_loosen 45 = .ok (.goto (-35), 3) := by decide +kernel
theorem dX6_loosen_48 : decode cX6_loosen 48 = .ok (.return_, 1) := by decide +kernel
theorem dX6_lose_0 : decode cX6_lose 0 = .ok (.aload_n 0, 1) := by decide +kernel
theorem dX6_lose_1 : decode cX6_lose 1 = .ok (.iload_n 1, 1) := by decide +kernel
theorem dX6_lose_2 : decode cX6_lose 2 = .ok (.iload_n 2, 1) := by decide +kernel
theorem dX6_lose_3 : decode cX6_lose 3 = .ok (.invokestatic 63, 3) := by decide +kernel
theorem dX6_lose_6 : decode cX6_lose 6 = .ok (.aload_n 0, 1) := by decide +kernel
theorem dX6_lose_7 : decode cX6_lose 7 = .ok (.iload_n 1, 1) := by decide +kernel
theorem dX6_lose_8 : decode cX6_lose 8 = .ok (.iload_n 2, 1) := by decide +kernel
theorem dX6_lose_9 : decode cX6_lose 9 = .ok (.invokestatic 66, 3) := by decide +kernel
theorem dX6_lose_12 : decode cX6_lose 12 = .ok (.pop, 1) := by decide +kernel
theorem dX6_lose_13 : decode cX6_lose 13 = .ok (.aload_n 0, 1) := by decide +kernel
theorem dX6_lose_14 : decode cX6_lose 14 = .ok (.iload_n 1, 1) := by decide +kernel
theorem dX6_lose_15 : decode cX6_lose 15 = .ok (.iconst 2, 1) := by decide +kernel
theorem dX6_lose_16 : decode cX6_lose 16 = .ok (.invokestatic 71, 3) := by decide +kernel
theorem dX6_lose_19 : decode cX6_lose 19 = .ok (.iconst 1, 1) := by decide +kernel
theorem dX6_lose_20 : decode cX6_lose 20 = .ok (.invokevirtual 53, 3) := by decide +kernel
theorem dX6_lose_23 : decode cX6_lose 23 = .ok (.return_, 1) := by decide +kernel
theorem dX6_enter_0 : decode cX6_enter 0 = .ok (.aload_n 0, 1) := by decide +kernel
theorem dX6_enter_1 : decode cX6_enter 1 = .ok (.bipush 7, 2) := by decide +kernel
theorem dX6_enter_3 : decode cX6_enter 3 = .ok (.invokevirtual 15, 3) := by decide +kernel
theorem dX6_enter_6 : decode cX6_enter 6 = .ok (.bipush 12, 2) := by decide +kernel
theorem dX6_enter_8 : decode cX6_enter 8 = .ok (.if_icmp .lt 29, 3) := by decide +kernel
theorem dX6_enter_11 : decode cX6_enter 11 = .ok (.bipush 12, 2) := by decide +kernel
theorem dX6_enter_13 : decode cX6_enter 13 = .ok (.iconst 0, 1) := by decide +kernel
theorem dX6_enter_14 : decode cX6_enter 14 = .ok (.invokestatic 74, 3) := by decide +kernel
theorem dX6_enter_17 : decode cX6_enter 17 = .ok (.istore_n 3, 1) := by decide +kernel
theorem dX6_enter_18 : decode cX6_enter 18 = .ok (.aload_n 0, 1) := by decide +kernel
theorem dX6_enter_19 : decode cX6_enter 19 = .ok (.iconst 0, 1) := by decide +kernel
theorem dX6_enter_20 : decode cX6_enter 20 = .ok (.iconst 0, 1) := by decide +kernel
theorem dX6_enter_21 : decode cX6_enter 21 = .ok (.invokestatic 74, 3) := by decide +kernel
theorem dX6_enter_24 : decode cX6_enter 24 = .ok (.iload_n 3, 1) := by decide +kernel
theorem dX6_enter_25 : decode cX6_enter 25 = .ok (.bipush 11, 2) := by decide +kernel
theorem dX6_enter_27 : decode cX6_enter 27 = .ok (.invokevirtual 77, 3) := by decide +kernel
theorem dX6_enter_30 : decode cX6_enter 30 = .ok (.aload_n 0, 1) := by decide +kernel
theorem dX6_enter_31 : decode cX6_enter 31 = .ok (.bipush 7, 2) := by decide +kernel
theorem dX6_enter_33 : decode cX6_enter 33 = .ok (.iconst (-1), 1) := by decide +kernel
theorem dX6_enter_34 : decode cX6_enter 34 = .ok (.invokevirtual 53, 3) := by decide +kernel
theorem dX6_enter_37 : decode cX6_enter 37 = .ok (.aload_n 0, 1) := by decide +kernel
theorem dX6_enter_38 : decode cX6_enter 38 = .ok (.bipush 7, 2) := by decide +kernel
theorem dX6_enter_40 : decode cX6_enter 40 = .ok (.invokevirtual 15, 3) := by decide +kernel
theorem dX6_enter_43 : decode cX6_enter 43 = .ok (.iconst 0, 1) := by decide +kernel
theorem dX6_enter_44 : decode cX6_enter 44 = .ok (.invokestatic 74, 3) := by decide +kernel
theorem dX6_enter_47 : decode cX6_enter 47 = .ok (.istore_n 3, 1) := by decide +kernel
theorem dX6_enter_48 : decode cX6_enter 48 = .ok (.aload_n 0, 1) := by decide +kernel
theorem dX6_enter_49 : decode cX6_enter 49 = .ok (.iload_n 1, 1) := by decide +kernel
theorem dX6_enter_50 : decode cX6_enter 50 = .ok (.iload_n 2, 1) := by decide +kernel
theorem dX6_enter_51 : decode cX6_enter 51 = .ok (.invokevirtual 25, 3) := by decide +kernel
theorem dX6_enter_54 : decode cX6_enter 54 = .ok (.istore 4, 2) := by decide +kernel
theorem dX6_enter_56 : decode cX6_enter 56 = .ok (.aload_n 0, 1) := by decide +kernel
theorem dX6_enter_57 : decode cX6_enter 57 = .ok (.iload_n 3, 1) := by decide +kernel
theorem dX6_enter_58 : decode cX6_enter 58 = .ok (.iconst 0, 1) := by decide +kernel
theorem dX6_enter_59 : decode cX6_enter 59 = .ok (.iadd, 1) := by decide +kernel
theorem dX6_enter_60 : decode cX6_enter 60 = .ok (.iload 4, 2) := by decide +kernel
theorem dX6_enter_62 : decode cX6_enter 62 = .ok (.invokevirtual 60, 3) := by decide +kernel
theorem dX6_enter_65 : decode cX6_enter 65 = .ok (.aload_n 0, 1) := by decide +kernel
theorem dX6_enter_66 : decode cX6_enter 66 = .ok (.iload_n 3, 1) := by decide +kernel
theorem dX6_enter_67 : decode cX6_enter 67 = .ok (.iconst 1, 1) := by decide +kernel
theorem dX6_enter_68 : decode cX6_enter 68 = .ok (.iadd, 1) := by decide +kernel
theorem dX6_enter_69 : decode cX6_enter 69 = .ok (.iload_n 1, 1) := by decide +kernel
theorem dX6_enter_70 : decode cX6_enter 70 = .ok (.invokevirtual 60, 3) := by decide +kernel
theorem dX6_enter_73 : decode cX6_enter 73 = .ok (.aload_n 0, 1) := by decide +kernel
theorem dX6_enter_74 : decode cX6_enter 74 = .ok (.iload_n 3, 1) := by decide +kernel
theorem dX6_enter_75 : decode cX6_enter 75 = .ok (.iconst 2, 1) := by decide +kernel
theorem dX6_enter_76 : decode cX6_enter 76 = .ok (.iadd, 1) := by decide +kernel
theorem dX6_enter_77 : decode cX6_enter 77 = .ok (.aload_n 0, 1) := by decide +kernel
theorem dX6_enter_78 : decode cX6_enter 78 = .ok (.iconst 0, 1) := by decide +kernel
theorem dX6_enter_79 : decode cX6_enter 79 = .ok (.invokevirtual 15, 3) := by decide +kernel
theorem dX6_enter_82 : decode cX6_enter 82 = .ok (.invokevirtual 60, 3) := by decide +kernel
theorem dX6_enter_85 : decode cX6_enter 85 = .ok (.iconst 0, 1) := by decide +kernel
theorem dX6_enter_86 : decode cX6_enter 86 = .ok (.istore 5, 2) := by decide +kernel
theorem dX6_enter_88 : decode cX6_enter 88 = .ok (.iload 5, 2) := by decide +kernel
theorem dX6_enter_90 : decode cX6_enter 90 = .ok (.iload 4, 2) := by decide +kernel
theorem dX6_enter_92 : decode cX6_enter 92 = .ok (.if_icmp .ge 36, 3) := by decide +kernel
theorem dX6_enter_95 : decode cX6_enter 95 = .ok (.aload_n 0, 1) := by decide +kernel
theorem dX6_enter_96 : decode cX6_enter 96 = .ok (.iload_n 1, 1) := by decide +kernel
theorem dX6_enter_97 : decode cX6_enter 97 = .ok (.iload_n 2, 1) := by decide +kernel
theorem dX6_enter_98 : decode cX6_enter 98 = .ok (.iload 5, 2) := by decide +kernel
theorem dX6_enter_100 : decode cX6_enter 100 = .ok (.invokestatic 9, 3) := by decide +kernel
theorem dX6_enter_103 : decode cX6_enter 103 = .ok (.iconst 2, 1) := by decide +kernel
theorem dX6_enter_104 : decode cX6_enter 104 = .ok (.iadd, 1) := by decide +kernel
theorem dX6_enter_105 : decode cX6_enter 105 = .ok (.invokevirtual 15, 3) := by decide +kernel
theorem dX6_enter_108 : decode cX6_enter 108 = .ok (.istore 6, 2) := by decide +kernel
theorem dX6_enter_110 : decode cX6_enter 110 = .ok (.aload_n 0, 1) := by decide +kernel
theorem dX6_enter_111 : decode cX6_enter 111 = .ok (.iload_n 3, 1) := by decide +kernel
theorem dX6_enter_112 : decode cX6_enter 112 = .ok (.iconst 3, 1) := by decide +kernel
theorem dX6_enter_113 : decode cX6_enter 113 = .ok (.iadd, 1) := by decide +kernel
theorem dX6_enter_114 : decode cX6_enter 114 = .ok (.iload 5, 2) := by decide +kernel
theorem dX6_enter_116 : decode cX6_enter 116 = .ok (.iadd, 1) := by decide +kernel
theorem dX6_enter_117 : decode cX6_enter 117 = .ok (.iload 6, 2) := by decide +kernel
theorem dX6_enter_119 : decode cX6_enter 119 = .ok (.invokevirtual 60, 3) := by decide +kernel
theorem dX6_enter_122 : decode cX6_enter 122 = .ok (.iinc 5 1, 3) := by decide +kernel
theorem dX6_enter_125 : decode cX6_enter 125 = .ok (.goto (-37), 3) := by decide +kernel
theorem dX6_enter_128 : decode cX6_enter 128 = .ok (.aload_n 0, 1) := by decide +kernel
theorem dX6_enter_129 : decode cX6_enter 129 = .ok (.bipush 7, 2) := by decide +kernel
theorem dX6_enter_131 : decode cX6_enter 131 = .ok (.iconst 1, 1) := by decide +kernel
theorem dX6_enter_132 : decode cX6_enter 132 = .ok (.invokevirtual 53, 3) := by decide +kernel
theorem dX6_enter_135 : decode cX6_enter 135 = .ok (.return_, 1) := by decide +kernel
theorem dX6_ofEntry_0 : decode cX6_ofEntry 0 = .ok (.iload_n 1, 1) := by decide +kernel
theorem dX6_ofEntry_1 : decode cX6_ofEntry 1 = .ok (.ifCond .lt 13, 3) := by decide +kernel
theorem dX6_ofEntry_4 : decode cX6_ofEntry 4 = .ok (.iload_n 1, 1) := by decide +kernel
theorem dX6_ofEntry_5 : decode cX6_ofEntry 5 = .ok (.aload_n 0, 1) := by decide +kernel
theorem dX6_ofEntry_6 : decode cX6_ofEntry 6 = .ok (.bipush 7, 2) := by decide +kernel
theorem dX6_ofEntry_8 : decode cX6_ofEntry 8 = .ok (.invokevirtual 15, 3) := by decide +kernel
theorem dX6_ofEntry_11 : decode cX6_ofEntry 11 = .ok (.if_icmp .lt 5, 3) := by decide +kernel
theorem dX6_ofEntry_14 : decode cX6_ofEntry 14 = .ok (.iconst (-1), 1) := by decide +kernel
theorem dX6_ofEntry_15 : decode cX6_ofEntry 15 = .ok (.ireturn, 1) := by decide +kernel
theorem dX6_ofEntry_16 : decode cX6_ofEntry 16 = .ok (.iload_n 2, 1) := by decide +kernel
theorem dX6_ofEntry_17 : decode cX6_ofEntry 17 = .ok (.tableswitch 57 0 2 #[27, 37, 47], 27) := by decide +kernel
theorem dX6_ofEntry_44 : decode cX6_ofEntry 44 = .ok (.aload_n 0, 1) := by decide +kernel
theorem dX6_ofEntry_45 : decode cX6_ofEntry 45 = .ok (.iload_n 1, 1) := by decide +kernel
theorem dX6_ofEntry_46 : decode cX6_ofEntry 46 = .ok (.iconst 0, 1) := by decide +kernel
theorem dX6_ofEntry_47 : decode cX6_ofEntry 47 = .ok (.invokestatic 74, 3) := by decide +kernel
theorem dX6_ofEntry_50 : decode cX6_ofEntry 50 = .ok (.invokevirtual 15, 3) := by decide +kernel
theorem dX6_ofEntry_53 : decode cX6_ofEntry 53 = .ok (.ireturn, 1) := by decide +kernel
theorem dX6_ofEntry_54 : decode cX6_ofEntry 54 = .ok (.aload_n 0, 1) := by decide +kernel
theorem dX6_ofEntry_55 : decode cX6_ofEntry 55 = .ok (.iload_n 1, 1) := by decide +kernel
theorem dX6_ofEntry_56 : decode cX6_ofEntry 56 = .ok (.iconst 1, 1) := by decide +kernel
theorem dX6_ofEntry_57 : decode cX6_ofEntry 57 = .ok (.invokestatic 74, 3) := by decide +kernel
theorem dX6_ofEntry_60 : decode cX6_ofEntry 60 = .ok (.invokevirtual 15, 3) := by decide +kernel
theorem dX6_ofEntry_63 : decode cX6_ofEntry 63 = .ok (.ireturn, 1) := by decide +kernel
theorem dX6_ofEntry_64 : decode cX6_ofEntry 64 = .ok (.aload_n 0, 1) := by decide +kernel
theorem dX6_ofEntry_65 : decode cX6_ofEntry 65 = .ok (.iload_n 1, 1) := by decide +kernel
theorem dX6_ofEntry_66 : decode cX6_ofEntry 66 = .ok (.iconst 2, 1) := by decide +kernel
theorem dX6_ofEntry_67 : decode cX6_ofEntry 67 = .ok (.invokestatic 74, 3) := by decide +kernel
theorem dX6_ofEntry_70 : decode cX6_ofEntry 70 = .ok (.invokevirtual 15, 3) := by decide +kernel
theorem dX6_ofEntry_73 : decode cX6_ofEntry 73 = .ok (.ireturn, 1) := by decide +kernel
theorem dX6_ofEntry_74 : decode cX6_ofEntry 74 = .ok (.aload_n 0, 1) := by decide +kernel
theorem dX6_ofEntry_75 : decode cX6_ofEntry 75 = .ok (.iload_n 1, 1) := by decide +kernel
theorem dX6_ofEntry_76 : decode cX6_ofEntry 76 = .ok (.iconst 3, 1) := by decide +kernel
theorem dX6_ofEntry_77 : decode cX6_ofEntry 77 = .ok (.invokestatic 74, 3) := by decide +kernel
theorem dX6_ofEntry_80 : decode cX6_ofEntry 80 = .ok (.invokevirtual 15, 3) := by decide +kernel
theorem dX6_ofEntry_83 : decode cX6_ofEntry 83 = .ok (.ireturn, 1) := by decide +kernel
theorem dX6_latestWith_0 : decode cX6_latestWith 0 = .ok (.aload_n 0, 1) := by decide +kernel
theorem dX6_latestWith_1 : decode cX6_latestWith 1 = .ok (.bipush 7, 2) := by decide +kernel
theorem dX6_latestWith_3 : decode cX6_latestWith 3 = .ok (.invokevirtual 15, 3) := by decide +kernel
theorem dX6_latestWith_6 : decode cX6_latestWith 6 = .ok (.iconst 1, 1) := by decide +kernel
theorem dX6_latestWith_7 : decode cX6_latestWith 7 = .ok (.isub, 1) := by decide +kernel
theorem dX6_latestWith_8 : decode cX6_latestWith 8 = .ok (.istore_n 2, 1) := by decide +kernel
theorem dX6_latestWith_9 : decode cX6_latestWith 9 = .ok (.iload_n 2, 1) := by decide +kernel
theorem dX6_latestWith_10 : decode cX6_latestWith 10 = .ok (.ifCond .lt 20, 3) := by decide +kernel
theorem dX6_latestWith_13 : decode cX6_latestWith 13 = .ok (.aload_n 0, 1) := by decide +kernel
theorem dX6_latestWith_14 : decode cX6_latestWith 14 = .ok (.iload_n 2, 1) := by decide +kernel
theorem dX6_latestWith_15 : decode cX6_latestWith 15 = .ok (.aload_n 1, 1) := by decide +kernel
theorem dX6_latestWith_16 : decode cX6_latestWith 16 = .ok (.invokestatic 81, 3) := by decide +kernel
theorem dX6_latestWith_19 : decode cX6_latestWith 19 = .ok (.ifCond .eq 5, 3) := by decide +kernel
theorem dX6_latestWith_22 : decode cX6_latestWith 22 = .ok (.iload_n 2, 1) := by decide +kernel
theorem dX6_latestWith_23 : decode cX6_latestWith 23 = .ok (.ireturn, 1) := by decide +kernel
theorem dX6_latestWith_24 : decode cX6_latestWith 24 = .ok (.iinc 2 (-1), 3) := by decide +kernel
theorem dX6_latestWith_27 : decode cX6_latestWith 27 = .ok (.goto (-18), 3) := by decide +kernel
theorem dX6_latestWith_30 : decode cX6_latestWith 30 = .ok (.iconst (-1), 1) := by decide +kernel
theorem dX6_latestWith_31 : decode cX6_latestWith 31 = .ok (.ireturn, 1) := by decide +kernel
theorem dX6_isSpelled_0 : decode cX6_isSpelled 0 = .ok (.aload_n 0, 1) := by decide +kernel
theorem dX6_isSpelled_1 : decode cX6_isSpelled 1 = .ok (.iload_n 1, 1) := by decide +kernel
theorem dX6_isSpelled_2 : decode cX6_isSpelled 2 = .ok (.iconst 0, 1) := by decide +kernel
theorem dX6_isSpelled_3 : decode cX6_isSpelled 3 = .ok (.invokestatic 74, 3) := by decide +kernel
theorem dX6_isSpelled_6 : decode cX6_isSpelled 6 = .ok (.invokevirtual 15, 3) := by decide +kernel
theorem dX6_isSpelled_9 : decode cX6_isSpelled 9 = .ok (.aload_n 2, 1) := by decide +kernel
theorem dX6_isSpelled_10 : decode cX6_isSpelled 10 = .ok (.invokevirtual 85, 3) := by decide +kernel
theorem dX6_isSpelled_13 : decode cX6_isSpelled 13 = .ok (.if_icmp .eq 5, 3) := by decide +kernel
theorem dX6_isSpelled_16 : decode cX6_isSpelled 16 = .ok (.iconst 0, 1) := by decide +kernel
theorem dX6_isSpelled_17 : decode cX6_isSpelled 17 = .ok (.ireturn, 1) := by decide +kernel
theorem dX6_isSpelled_18 : decode cX6_isSpelled 18 = .ok (.iconst 0, 1) := by decide +kernel
theorem dX6_isSpelled_19 : decode cX6_isSpelled 19 = .ok (.istore_n 3, 1) := by decide +kernel
theorem dX6_isSpelled_20 : decode cX6_isSpelled 20 = .ok (.iload_n 3, 1) := by decide +kernel
theorem dX6_isSpelled_21 : decode cX6_isSpelled 21 = .ok (.aload_n 2, 1) := by decide +kernel
theorem dX6_isSpelled_22 : decode cX6_isSpelled 22 = .ok (.invokevirtual 85, 3) := by decide +kernel
theorem dX6_isSpelled_25 : decode cX6_isSpelled 25 = .ok (.if_icmp .ge 30, 3) := by decide +kernel
theorem dX6_isSpelled_28 : decode cX6_isSpelled 28 = .ok (.aload_n 0, 1) := by decide +kernel
theorem dX6_isSpelled_29 : decode cX6_isSpelled 29 = .ok (.iload_n 1, 1) := by decide +kernel
theorem dX6_isSpelled_30 : decode cX6_isSpelled 30 = .ok (.iconst 3, 1) := by decide +kernel
theorem dX6_isSpelled_31 : decode cX6_isSpelled 31 = .ok (.iload_n 3, 1) := by decide +kernel
theorem dX6_isSpelled_32 : decode cX6_isSpelled 32 = .ok (.iadd, 1) := by decide +kernel
theorem dX6_isSpelled_33 : decode cX6_isSpelled 33 = .ok (.invokestatic 74, 3) := by decide +kernel
theorem dX6_isSpelled_36 : decode cX6_isSpelled 36 = .ok (.invokevirtual 15, 3) := by decide +kernel
theorem dX6_isSpelled_39 : decode cX6_isSpelled 39 = .ok (.aload_n 2, 1) := by decide +kernel
theorem dX6_isSpelled_40 : decode cX6_isSpelled 40 = .ok (.iload_n 3, 1) := by decide +kernel
theorem dX6_isSpelled_41 : decode cX6_isSpelled 41 = .ok (.invokevirtual 91, 3) := by decide +kernel
theorem dX6_isSpelled_44 : decode cX6_isSpelled 44 = .ok (.if_icmp .eq 5, 3) := by decide +kernel
theorem dX6_isSpelled_47 : decode cX6_isSpelled 47 = .ok (.iconst 0, 1) := by decide +kernel
theorem dX6_isSpelled_48 : decode cX6_isSpelled 48 = .ok (.ireturn, 1) := by decide +kernel
theorem dX6_isSpelled_49 : decode cX6_isSpelled 49 = .ok (.iinc 3 1, 3) := by decide +kernel
theorem dX6_isSpelled_52 : decode cX6_isSpelled 52 = .ok (.goto (-32), 3) := by decide +kernel
theorem dX6_isSpelled_55 : decode cX6_isSpelled 55 = .ok (.iconst 1, 1) := by decide +kernel
theorem dX6_isSpelled_56 : decode cX6_isSpelled 56 = .ok (.ireturn, 1) := by decide +kernel
theorem dX7_init_0 : decode cX7_init 0 = .ok (.aload_n 0, 1) := by decide +kernel
theorem dX7_init_1 : decode cX7_init 1 = .ok (.invokespecial 5, 3) := by decide +kernel
theorem dX7_init_4 : decode cX7_init 4 = .ok (.aload_n 0, 1) := by decide +kernel
theorem dX7_init_5 : decode cX7_init 5 = .ok (.sipush 910, 3) := by decide +kernel
theorem dX7_init_8 : decode cX7_init 8 = .ok (.newarray .int, 2) := by decide +kernel
theorem dX7_init_10 : decode cX7_init 10 = .ok (.putfield 11, 3) := by decide +kernel
theorem dX7_init_13 : decode cX7_init 13 = .ok (.aload_n 0, 1) := by decide +kernel
theorem dX7_init_14 : decode cX7_init 14 = .ok (.iconst 1, 1) := by decide +kernel
theorem dX7_init_15 : decode cX7_init 15 = .ok (.iconst 3, 1) := by decide +kernel
theorem dX7_init_16 : decode cX7_init 16 = .ok (.invokevirtual 15, 3) := by decide +kernel
theorem dX7_init_19 : decode cX7_init 19 = .ok (.aload_n 0, 1) := by decide +kernel
theorem dX7_init_20 : decode cX7_init 20 = .ok (.iconst 2, 1) := by decide +kernel
theorem dX7_init_21 : decode cX7_init 21 = .ok (.iconst 1, 1) := by decide +kernel
theorem dX7_init_22 : decode cX7_init 22 = .ok (.invokevirtual 15, 3) := by decide +kernel
theorem dX7_init_25 : decode cX7_init 25 = .ok (.iconst 0, 1) := by decide +kernel
theorem dX7_init_26 : decode cX7_init 26 = .ok (.istore_n 1, 1) := by decide +kernel
theorem dX7_init_27 : decode cX7_init 27 = .ok (.iload_n 1, 1) := by decide +kernel
theorem dX7_init_28 : decode cX7_init 28 = .ok (.iconst 5, 1) := by decide +kernel
theorem dX7_init_29 : decode cX7_init 29 = .ok (.if_icmp .ge 20, 3) := by decide +kernel
theorem dX7_init_32 : decode cX7_init 32 = .ok (.aload_n 0, 1) := by decide +kernel
theorem dX7_init_33 : decode cX7_init 33 = .ok (.iload_n 1, 1) := by decide +kernel
theorem dX7_init_34 : decode cX7_init 34 = .ok (.iconst 0, 1) := by decide +kernel
theorem dX7_init_35 : decode cX7_init 35 = .ok (.invokestatic 19, 3) := by decide +kernel
theorem dX7_init_38 : decode cX7_init 38 = .ok (.bipush 60, 2) := by decide +kernel
theorem dX7_init_40 : decode cX7_init 40 = .ok (.invokevirtual 15, 3) := by decide +kernel
theorem dX7_init_43 : decode cX7_init 43 = .ok (.iinc 1 1, 3) := by decide +kernel
theorem dX7_init_46 : decode cX7_init 46 = .ok (.goto (-19), 3) := by decide +kernel
theorem dX7_init_49 : decode cX7_init 49 = .ok (.return_, 1) := by decide +kernel
theorem dX7_fisherCell_0 : decode cX7_fisherCell 0 = .ok (.bipush 8, 2) := by decide +kernel
theorem dX7_fisherCell_2 : decode cX7_fisherCell 2 = .ok (.iload_n 0, 1) := by decide +kernel
theorem dX7_fisherCell_3 : decode cX7_fisherCell 3 = .ok (.sipush 154, 3) := by decide +kernel
theorem dX7_fisherCell_6 : decode cX7_fisherCell 6 = .ok (.imul, 1) := by decide +kernel
theorem dX7_fisherCell_7 : decode cX7_fisherCell 7 = .ok (.iadd, 1) := by decide +kernel
theorem dX7_fisherCell_8 : decode cX7_fisherCell 8 = .ok (.iload_n 1, 1) := by decide +kernel
theorem dX7_fisherCell_9 : decode cX7_fisherCell 9 = .ok (.iadd, 1) := by decide +kernel
theorem dX7_fisherCell_10 : decode cX7_fisherCell 10 = .ok (.ireturn, 1) := by decide +kernel
theorem dX7_nameCell_0 : decode cX7_nameCell 0 = .ok (.bipush 8, 2) := by decide +kernel
theorem dX7_nameCell_2 : decode cX7_nameCell 2 = .ok (.iload_n 0, 1) := by decide +kernel
theorem dX7_nameCell_3 : decode cX7_nameCell 3 = .ok (.sipush 154, 3) := by decide +kernel
theorem dX7_nameCell_6 : decode cX7_nameCell 6 = .ok (.imul, 1) := by decide +kernel
theorem dX7_nameCell_7 : decode cX7_nameCell 7 = .ok (.iadd, 1) := by decide +kernel
theorem dX7_nameCell_8 : decode cX7_nameCell 8 = .ok (.iconst 4, 1) := by decide +kernel
theorem dX7_nameCell_9 : decode cX7_nameCell 9 = .ok (.iadd, 1) := by decide +kernel
theorem dX7_nameCell_10 : decode cX7_nameCell 10 = .ok (.iload_n 1, 1) := by decide +kernel
theorem dX7_nameCell_11 : decode cX7_nameCell 11 = .ok (.bipush 25, 2) := by decide +kernel
theorem dX7_nameCell_13 : decode cX7_nameCell 13 = .ok (.imul, 1) := by decide +kernel
theorem dX7_nameCell_14 : decode cX7_nameCell 14 = .ok (.iadd, 1) := by decide +kernel
theorem dX7_nameCell_15 : decode cX7_nameCell 15 = .ok (.ireturn, 1) := by decide +kernel
theorem dX7_knotCell_0 : decode cX7_knotCell 0 = .ok (.bipush 8, 2) := by decide +kernel
theorem dX7_knotCell_2 : decode cX7_knotCell 2 = .ok (.iload_n 0, 1) := by decide +kernel
theorem dX7_knotCell_3 : decode cX7_knotCell 3 = .ok (.sipush 154, 3) := by decide +kernel
theorem dX7_knotCell_6 : decode cX7_knotCell 6 = .ok (.imul, 1) := by decide +kernel
theorem dX7_knotCell_7 : decode cX7_knotCell 7 = .ok (.iadd, 1) := by decide +kernel
theorem dX7_knotCell_8 : decode cX7_knotCell 8 = .ok (.istore_n 3, 1) := by decide +kernel
theorem dX7_knotCell_9 : decode cX7_knotCell 9 = .ok (.iload_n 3, 1) := by decide +kernel
theorem dX7_knotCell_10 : decode cX7_knotCell 10 = .ok (.iconst 4, 1) := by decide +kernel
theorem dX7_knotCell_11 : decode cX7_knotCell 11 = .ok (.iadd, 1) := by decide +kernel
theorem dX7_knotCell_12 : decode cX7_knotCell 12 = .ok (.iload_n 1, 1) := by decide +kernel
theorem dX7_knotCell_13 : decode cX7_knotCell 13 = .ok (.bipush 25, 2) := by decide +kernel
theorem dX7_knotCell_15 : decode cX7_knotCell 15 = .ok (.imul, 1) := by decide +kernel
theorem dX7_knotCell_16 : decode cX7_knotCell 16 = .ok (.iadd, 1) := by decide +kernel
theorem dX7_knotCell_17 : decode cX7_knotCell 17 = .ok (.iconst 1, 1) := by decide +kernel
theorem dX7_knotCell_18 : decode cX7_knotCell 18 = .ok (.iadd, 1) := by decide +kernel
theorem dX7_knotCell_19 : decode cX7_knotCell 19 = .ok (.iload_n 2, 1) := by decide +kernel
theorem dX7_knotCell_20 : decode cX7_knotCell 20 = .ok (.iconst 3, 1) := by decide +kernel
theorem dX7_knotCell_21 : decode cX7_knotCell 21 = .ok (.imul, 1) := by decide +kernel
theorem dX7_knotCell_22 : decode cX7_knotCell 22 = .ok (.iadd, 1) := by decide +kernel
theorem dX7_knotCell_23 : decode cX7_knotCell 23 = .ok (.ireturn, 1) := by decide +kernel
theorem dX7_entryCell_0 : decode cX7_entryCell 0 = .ok (.sipush 778, 3) := by decide +kernel
theorem dX7_entryCell_3 : decode cX7_entryCell 3 = .ok (.iload_n 0, 1) := by decide +kernel
theorem dX7_entryCell_4 : decode cX7_entryCell 4 = .ok (.bipush 11, 2) := by decide +kernel
theorem dX7_entryCell_6 : decode cX7_entryCell 6 = .ok (.imul, 1) := by decide +kernel
theorem dX7_entryCell_7 : decode cX7_entryCell 7 = .ok (.iadd, 1) := by decide +kernel
theorem dX7_entryCell_8 : decode cX7_entryCell 8 = .ok (.iload_n 1, 1) := by decide +kernel
theorem dX7_entryCell_9 : decode cX7_entryCell 9 = .ok (.iadd, 1) := by decide +kernel
theorem dX7_entryCell_10 : decode cX7_entryCell 10 = .ok (.ireturn, 1) := by decide +kernel
theorem dX7_at_0 : decode cX7_at 0 = .ok (.iload_n 1, 1) := by decide +kernel
theorem dX7_at_1 : decode cX7_at 1 = .ok (.ifCond .lt 21, 3) := by decide +kernel
theorem dX7_at_4 : decode cX7_at 4 = .ok (.iload_n 1, 1) := by decide +kernel
theorem dX7_at_5 : decode cX7_at 5 = .ok (.aload_n 0, 1) := by decide +kernel
theorem dX7_at_6 : decode cX7_at 6 = .ok (.getfield 11, 3) := by decide +kernel
theorem dX7_at_9 : decode cX7_at 9 = .ok (.arraylength, 1) := by decide +kernel
theorem dX7_at_10 : decode cX7_at 10 = .ok (.if_icmp .ge 12, 3) := by decide +kernel
theorem dX7_at_13 : decode cX7_at 13 = .ok (.aload_n 0, 1) := by decide +kernel
theorem dX7_at_14 : decode cX7_at 14 = .ok (.getfield 11, 3) := by decide +kernel
theorem dX7_at_17 : decode cX7_at 17 = .ok (.iload_n 1, 1) := by decide +kernel
theorem dX7_at_18 : decode cX7_at 18 = .ok (.iaload, 1) := by decide +kernel
theorem dX7_at_19 : decode cX7_at 19 = .ok (.goto 4, 3) := by decide +kernel
theorem dX7_at_22 : decode cX7_at 22 = .ok (.iconst 0, 1) := by decide +kernel
theorem dX7_at_23 : decode cX7_at 23 = .ok (.ireturn, 1) := by decide +kernel
theorem dX7_put_0 : decode cX7_put 0 = .ok (.iload_n 1, 1) := by decide +kernel
theorem dX7_put_1 : decode cX7_put 1 = .ok (.ifCond .lt 19, 3) := by decide +kernel
theorem dX7_put_4 : decode cX7_put 4 = .ok (.iload_n 1, 1) := by decide +kernel
theorem dX7_put_5 : decode cX7_put 5 = .ok (.aload_n 0, 1) := by decide +kernel
theorem dX7_put_6 : decode cX7_put 6 = .ok (.getfield 11, 3) := by decide +kernel
theorem dX7_put_9 : decode cX7_put 9 = .ok (.arraylength, 1) := by decide +kernel
theorem dX7_put_10 : decode cX7_put 10 = .ok (.if_icmp .ge 10, 3) := by decide +kernel
theorem dX7_put_13 : decode cX7_put 13 = .ok (.aload_n 0, 1) := by decide +kernel
theorem dX7_put_14 : decode cX7_put 14 = .ok (.getfield 11, 3) := by decide +kernel
theorem dX7_put_17 : decode cX7_put 17 = .ok (.iload_n 1, 1) := by decide +kernel
theorem dX7_put_18 : decode cX7_put 18 = .ok (.iload_n 2, 1) := by decide +kernel
theorem dX7_put_19 : decode cX7_put 19 = .ok (.iastore, 1) := by decide +kernel
theorem dX7_put_20 : decode cX7_put 20 = .ok (.return_, 1) := by decide +kernel
theorem dX7_add_0 : decode cX7_add 0 = .ok (.aload_n 0, 1) := by decide +kernel
theorem dX7_add_1 : decode cX7_add 1 = .ok (.iload_n 1, 1) := by decide +kernel
theorem dX7_add_2 : decode cX7_add 2 = .ok (.aload_n 0, 1) := by decide +kernel
theorem dX7_add_3 : decode cX7_add 3 = .ok (.iload_n 1, 1) := by decide +kernel
theorem dX7_add_4 : decode cX7_add 4 = .ok (.invokevirtual 23, 3) := by decide +kernel
theorem dX7_add_7 : decode cX7_add 7 = .ok (.iload_n 2, 1) := by decide +kernel
theorem dX7_add_8 : decode cX7_add 8 = .ok (.iadd, 1) := by decide +kernel
theorem dX7_add_9 : decode cX7_add 9 = .ok (.invokevirtual 15, 3) := by decide +kernel
theorem dX7_add_12 : decode cX7_add 12 = .ok (.return_, 1) := by decide +kernel
theorem dX7_closeUp_0 : decode cX7_closeUp 0 = .ok (.iload_n 1, 1) := by decide +kernel
theorem dX7_closeUp_1 : decode cX7_closeUp 1 = .ok (.istore 4, 2) := by decide +kernel
theorem dX7_closeUp_3 : decode cX7_closeUp 3 = .ok (.iload 4, 2) := by decide +kernel
theorem dX7_closeUp_5 : decode cX7_closeUp 5 = .ok (.iload_n 2, 1) := by decide +kernel
theorem dX7_closeUp_6 : decode cX7_closeUp 6 = .ok (.iload_n 3, 1) := by decide +kernel
theorem dX7_closeUp_7 : decode cX7_closeUp 7 = .ok (.isub, 1) := by decide +kernel
theorem dX7_closeUp_8 : decode cX7_closeUp 8 = .ok (.if_icmp .ge 23, 3) := by decide +kernel
theorem dX7_closeUp_11 : decode cX7_closeUp 11 = .ok (.aload_n 0, 1) := by decide +kernel
theorem dX7_closeUp_12 : decode cX7_closeUp 12 = .ok (.iload 4, 2) := by decide +kernel
theorem dX7_closeUp_14 : decode cX7_closeUp 14 = .ok (.aload_n 0, 1) := by decide +kernel
theorem dX7_closeUp_15 : decode cX7_closeUp 15 = .ok (.iload 4, 2) := by decide +kernel
theorem dX7_closeUp_17 : decode cX7_closeUp 17 = .ok (.iload_n 3, 1) := by decide +kernel
theorem dX7_closeUp_18 : decode cX7_closeUp 18 = .ok (.iadd, 1) := by decide +kernel
theorem dX7_closeUp_19 : decode cX7_closeUp 19 = .ok (.invokevirtual 23, 3) := by decide +kernel
theorem dX7_closeUp_22 : decode cX7_closeUp 22 = .ok (.invokevirtual 15, 3) := by decide +kernel
theorem dX7_closeUp_25 : decode cX7_closeUp 25 = .ok (.iinc 4 1, 3) := by decide +kernel
theorem dX7_closeUp_28 : decode cX7_closeUp 28 = .ok (.goto (-25), 3) := by decide +kernel
theorem dX7_closeUp_31 : decode cX7_closeUp 31 = .ok (.return_, 1) := by decide +kernel
theorem dX7_copyTo_0 : decode cX7_copyTo 0 = .ok (.iload_n 2, 1) := by decide +kernel
theorem dX7_copyTo_1 : decode cX7_copyTo 1 = .ok (.ifCond .lt 26, 3) := by decide +kernel
theorem dX7_copyTo_4 : decode cX7_copyTo 4 = .ok (.iload_n 2, 1) := by decide +kernel
theorem dX7_copyTo_5 : decode cX7_copyTo 5 = .ok (.aload_n 1, 1) := by decide +kernel
theorem dX7_copyTo_6 : decode cX7_copyTo 6 = .ok (.arraylength, 1) := by decide +kernel
theorem dX7_copyTo_7 : decode cX7_copyTo 7 = .ok (.sipush 910, 3) := by decide +kernel
theorem dX7_copyTo_10 : decode cX7_copyTo 10 = .ok (.isub, 1) := by decide +kernel
theorem dX7_copyTo_11 : decode cX7_copyTo 11 = .ok (.if_icmp .gt 16, 3) := by decide +kernel
theorem dX7_copyTo_14 : decode cX7_copyTo 14 = .ok (.aload_n 0, 1) := by decide +kernel
theorem dX7_copyTo_15 : decode cX7_copyTo 15 = .ok (.getfield 11, 3) := by decide +kernel
theorem dX7_copyTo_18 : decode cX7_copyTo 18 = .ok (.iconst 0, 1) := by decide +kernel
theorem dX7_copyTo_19 : decode cX7_copyTo 19 = .ok (.aload_n 1, 1) := by decide +kernel
theorem dX7_copyTo_20 : decode cX7_copyTo 20 = .ok (.iload_n 2, 1) := by decide +kernel
theorem dX7_copyTo_21 : decode cX7_copyTo 21 = .ok (.sipush 910, 3) := by decide +kernel
theorem dX7_copyTo_24 : decode cX7_copyTo 24 = .ok (.invokestatic 27, 3) := by decide +kernel
theorem dX7_copyTo_27 : decode cX7_copyTo 27 = .ok (.return_, 1) := by decide +kernel
theorem dX7_copyFrom_0 : decode cX7_copyFrom 0 = .ok (.iload_n 2, 1) := by decide +kernel
theorem dX7_copyFrom_1 : decode cX7_copyFrom 1 = .ok (.ifCond .lt 26, 3) := by decide +kernel
theorem dX7_copyFrom_4 : decode cX7_copyFrom 4 = .ok (.iload_n 2, 1) := by decide +kernel
theorem dX7_copyFrom_5 : decode cX7_copyFrom 5 = .ok (.aload_n 1, 1) := by decide +kernel
theorem dX7_copyFrom_6 : decode cX7_copyFrom 6 = .ok (.arraylength, 1) := by decide +kernel
theorem dX7_copyFrom_7 : decode cX7_copyFrom 7 = .ok (.sipush 910, 3) := by decide +kernel
theorem dX7_copyFrom_10 : decode cX7_copyFrom 10 = .ok (.isub, 1) := by decide +kernel
theorem dX7_copyFrom_11 : decode cX7_copyFrom 11 = .ok (.if_icmp .gt 16, 3) := by decide +kernel
theorem dX7_copyFrom_14 : decode cX7_copyFrom 14 = .ok (.aload_n 1, 1) := by decide +kernel
theorem dX7_copyFrom_15 : decode cX7_copyFrom 15 = .ok (.iload_n 2, 1) := by decide +kernel
theorem dX7_copyFrom_16 : decode cX7_copyFrom 16 = .ok (.aload_n 0, 1) := by decide +kernel
theorem dX7_copyFrom_17 : decode cX7_copyFrom 17 = .ok (.getfield 11, 3) := by decide +kernel
theorem dX7_copyFrom_20 : decode cX7_copyFrom 20 = .ok (.iconst 0, 1) := by decide +kernel
theorem dX7_copyFrom_21 : decode cX7_copyFrom 21 = .ok (.sipush 910, 3) := by decide +kernel
theorem dX7_copyFrom_24 : decode cX7_copyFrom 24 = .ok (.invokestatic 27, 3) := by decide +kernel
theorem dX7_copyFrom_27 : decode cX7_copyFrom 27 = .ok (.return_, 1) := by decide +kernel
theorem dX7_names_0 : decode cX7_names 0 = .ok (.aload_n 0, 1) := by decide +kernel
theorem dX7_names_1 : decode cX7_names 1 = .ok (.iload_n 1, 1) := by decide +kernel
theorem dX7_names_2 : decode cX7_names 2 = .ok (.iconst 1, 1) := by decide +kernel
theorem dX7_names_3 : decode cX7_names 3 = .ok (.invokestatic 19, 3) := by decide +kernel
theorem dX7_names_6 : decode cX7_names 6 = .ok (.invokevirtual 23, 3) := by decide +kernel
theorem dX7_names_9 : decode cX7_names 9 = .ok (.ireturn, 1) := by decide +kernel
theorem dX7_hasName_0 : decode cX7_hasName 0 = .ok (.iload_n 2, 1) := by decide +kernel
theorem dX7_hasName_1 : decode cX7_hasName 1 = .ok (.ifCond .lt 16, 3) := by decide +kernel
theorem dX7_hasName_4 : decode cX7_hasName 4 = .ok (.iload_n 2, 1) := by decide +kernel
theorem dX7_hasName_5 : decode cX7_hasName 5 = .ok (.aload_n 0, 1) := by decide +kernel
theorem dX7_hasName_6 : decode cX7_hasName 6 = .ok (.iload_n 1, 1) := by decide +kernel
theorem dX7_hasName_7 : decode cX7_hasName 7 = .ok (.invokevirtual 33, 3) := by decide +kernel
theorem dX7_hasName_10 : decode cX7_hasName 10 = .ok (.if_icmp .ge 7, 3) := by decide +kernel
theorem dX7_hasName_13 : decode cX7_hasName 13 = .ok (.iconst 1, 1) := by decide +kernel
theorem dX7_hasName_14 : decode cX7_hasName 14 = .ok (.goto 4, 3) := by decide +kernel
theorem dX7_hasName_17 : decode cX7_hasName 17 = .ok (.iconst 0, 1) := by decide +kernel
theorem dX7_hasName_18 : decode cX7_hasName 18 = .ok (.ireturn, 1) := by decide +kernel
theorem dX7_knots_0 : decode cX7_knots 0 = .ok (.aload_n 0, 1) := by decide +kernel
theorem dX7_knots_1 : decode cX7_knots 1 = .ok (.iload_n 1, 1) := by decide +kernel
theorem dX7_knots_2 : decode cX7_knots 2 = .ok (.iload_n 2, 1) := by decide +kernel
theorem dX7_knots_3 : decode cX7_knots 3 = .ok (.invokestatic 36, 3) := by decide +kernel
theorem dX7_knots_6 : decode cX7_knots 6 = .ok (.iconst 0, 1) := by decide +kernel
theorem dX7_knots_7 : decode cX7_knots 7 = .ok (.iadd, 1) := by decide +kernel
theorem dX7_knots_8 : decode cX7_knots 8 = .ok (.invokevirtual 23, 3) := by decide +kernel
theorem dX7_knots_11 : decode cX7_knots 11 = .ok (.ireturn, 1) := by decide +kernel
theorem dX7_loosened_0 : decode cX7_loosened 0 = .ok (.aload_n 0, 1) := by decide +kernel
theorem dX7_loosened_1 : decode cX7_loosened 1 = .ok (.iload_n 1, 1) := by decide +kernel
theorem dX7_loosened_2 : decode cX7_loosened 2 = .ok (.iload_n 2, 1) := by decide +kernel
theorem dX7_loosened_3 : decode cX7_loosened 3 = .ok (.iload_n 3, 1) := by decide +kernel
theorem dX7_loosened_4 : decode cX7_loosened 4 = .ok (.invokestatic 39, 3) := by decide +kernel
theorem dX7_loosened_7 : decode cX7_loosened 7 = .ok (.iconst 1, 1) := by decide +kernel
theorem dX7_loosened_8 : decode cX7_loosened 8 = .ok (.iadd, 1) := by decide +kernel
theorem dX7_loosened_9 : decode cX7_loosened 9 = .ok (.invokevirtual 23, 3) := by decide +kernel
theorem dX7_loosened_12 : decode cX7_loosened 12 = .ok (.ireturn, 1) := by decide +kernel
theorem dX7_readsAs_0 : decode cX7_readsAs 0 = .ok (.iload_n 1, 1) := by decide +kernel
theorem dX7_readsAs_1 : decode cX7_readsAs 1 = .ok (.iload_n 2, 1) := by decide +kernel
theorem dX7_readsAs_2 : decode cX7_readsAs 2 = .ok (.iload_n 3, 1) := by decide +kernel
theorem dX7_readsAs_3 : decode cX7_readsAs 3 = .ok (.invokestatic 39, 3) := by decide +kernel
theorem dX7_readsAs_6 : decode cX7_readsAs 6 = .ok (.istore 4, 2) := by decide +kernel
theorem dX7_readsAs_8 : decode cX7_readsAs 8 = .ok (.aload_n 0, 1) := by decide +kernel
theorem dX7_readsAs_9 : decode cX7_readsAs 9 = .ok (.iload 4, 2) := by decide +kernel
theorem dX7_readsAs_11 : decode cX7_readsAs 11 = .ok (.iconst 0, 1) := by decide +kernel
theorem dX7_readsAs_12 : decode cX7_readsAs 12 = .ok (.iadd, 1) := by decide +kernel
theorem dX7_readsAs_13 : decode cX7_readsAs 13 = .ok (.invokevirtual 23, 3) := by decide +kernel
theorem dX7_readsAs_16 : decode cX7_readsAs 16 = .ok (.aload_n 0, 1) := by decide +kernel
theorem dX7_readsAs_17 : decode cX7_readsAs 17 = .ok (.iload 4, 2) := by decide +kernel
theorem dX7_readsAs_19 : decode cX7_readsAs 19 = .ok (.iconst 1, 1) := by decide +kernel
theorem dX7_readsAs_20 : decode cX7_readsAs 20 = .ok (.iadd, 1) := by decide +kernel
theorem dX7_readsAs_21 : decode cX7_readsAs 21 = .ok (.invokevirtual 23, 3) := by decide +kernel
theorem dX7_readsAs_24 : decode cX7_readsAs 24 = .ok (.invokestatic 43, 3) := by decide +kernel
theorem dX7_readsAs_27 : decode cX7_readsAs 27 = .ok (.ireturn, 1) := by decide +kernel
theorem dX7_cordOf_0 : decode cX7_cordOf 0 = .ok (.iconst 2, 1) := by decide +kernel
theorem dX7_cordOf_1 : decode cX7_cordOf 1 = .ok (.istore_n 3, 1) := by decide +kernel
theorem dX7_cordOf_2 : decode cX7_cordOf 2 = .ok (.aload_n 0, 1) := by decide +kernel
theorem dX7_cordOf_3 : decode cX7_cordOf 3 = .ok (.iload_n 1, 1) := by decide +kernel
theorem dX7_cordOf_4 : decode cX7_cordOf 4 = .ok (.iload_n 2, 1) := by decide +kernel
theorem dX7_cordOf_5 : decode cX7_cordOf 5 = .ok (.invokestatic 36, 3) := by decide +kernel
theorem dX7_cordOf_8 : decode cX7_cordOf 8 = .ok (.iconst 0, 1) := by decide +kernel
theorem dX7_cordOf_9 : decode cX7_cordOf 9 = .ok (.iadd, 1) := by decide +kernel
theorem dX7_cordOf_10 : decode cX7_cordOf 10 = .ok (.invokevirtual 23, 3) := by decide +kernel
theorem dX7_cordOf_13 : decode cX7_cordOf 13 = .ok (.istore 4, 2) := by decide +kernel
theorem dX7_cordOf_15 : decode cX7_cordOf 15 = .ok (.iconst 0, 1) := by decide +kernel
theorem dX7_cordOf_16 : decode cX7_cordOf 16 = .ok (.istore 5, 2) := by decide +kernel
theorem dX7_cordOf_18 : decode cX7_cordOf 18 = .ok (.iload 5, 2) := by decide +kernel
theorem dX7_cordOf_20 : decode cX7_cordOf 20 = .ok (.iload 4, 2) := by decide +kernel
theorem dX7_cordOf_22 : decode cX7_cordOf 22 = .ok (.if_icmp .ge 34, 3) := by decide +kernel
theorem dX7_cordOf_25 : decode cX7_cordOf 25 = .ok (.aload_n 0, 1) := by decide +kernel
theorem dX7_cordOf_26 : decode cX7_cordOf 26 = .ok (.iload_n 1, 1) := by decide +kernel
theorem dX7_cordOf_27 : decode cX7_cordOf 27 = .ok (.iload_n 2, 1) := by decide +kernel
theorem dX7_cordOf_28 : decode cX7_cordOf 28 = .ok (.iload 5, 2) := by decide +kernel
theorem dX7_cordOf_30 : decode cX7_cordOf 30 = .ok (.invokestatic 39, 3) := by decide +kernel
theorem dX7_cordOf_33 : decode cX7_cordOf 33 = .ok (.iconst 0, 1) := by decide +kernel
theorem dX7_cordOf_34 : decode cX7_cordOf 34 = .ok (.iadd, 1) := by decide +kernel
theorem dX7_cordOf_35 : decode cX7_cordOf 35 = .ok (.invokevirtual 23, 3) := by decide +kernel
theorem dX7_cordOf_38 : decode cX7_cordOf 38 = .ok (.istore 6, 2) := by decide +kernel
theorem dX7_cordOf_40 : decode cX7_cordOf 40 = .ok (.iload_n 3, 1) := by decide +kernel
theorem dX7_cordOf_41 : decode cX7_cordOf 41 = .ok (.iload 6, 2) := by decide +kernel
theorem dX7_cordOf_43 : decode cX7_cordOf 43 = .ok (.invokestatic 48, 3) := by decide +kernel
theorem dX7_cordOf_46 : decode cX7_cordOf 46 = .ok (.iconst 1, 1) := by decide +kernel
theorem dX7_cordOf_47 : decode cX7_cordOf 47 = .ok (.iadd, 1) := by decide +kernel
theorem dX7_cordOf_48 : decode cX7_cordOf 48 = .ok (.iadd, 1) := by decide +kernel
theorem dX7_cordOf_49 : decode cX7_cordOf 49 = .ok (.istore_n 3, 1) := by decide +kernel
theorem dX7_cordOf_50 : decode cX7_cordOf 50 = .ok (.iinc 5 1, 3) := by decide +kernel
theorem dX7_cordOf_53 : decode cX7_cordOf 53 = .ok (.goto (-35), 3) := by decide +kernel
theorem dX7_cordOf_56 : decode cX7_cordOf 56 = .ok (.iload_n 3, 1) := by decide +kernel
theorem dX7_cordOf_57 : decode cX7_cordOf 57 = .ok (.ireturn, 1) := by decide +kernel
theorem dX7_left_0 : decode cX7_left 0 = .ok (.aload_n 0, 1) := by decide +kernel
theorem dX7_left_1 : decode cX7_left 1 = .ok (.iload_n 1, 1) := by decide +kernel
theorem dX7_left_2 : decode cX7_left 2 = .ok (.iconst 0, 1) := by decide +kernel
theorem dX7_left_3 : decode cX7_left 3 = .ok (.invokestatic 19, 3) := by decide +kernel
theorem dX7_left_6 : decode cX7_left 6 = .ok (.invokevirtual 23, 3) := by decide +kernel
theorem dX7_left_9 : decode cX7_left 9 = .ok (.istore_n 2, 1) := by decide +kernel
theorem dX7_left_10 : decode cX7_left 10 = .ok (.aload_n 0, 1) := by decide +kernel
theorem dX7_left_11 : decode cX7_left 11 = .ok (.iload_n 1, 1) := by decide +kernel
theorem dX7_left_12 : decode cX7_left 12 = .ok (.invokevirtual 33, 3) := by decide +kernel
theorem dX7_left_15 : decode cX7_left 15 = .ok (.istore_n 3, 1) := by decide +kernel
theorem dX7_left_16 : decode cX7_left 16 = .ok (.iconst 0, 1) := by decide +kernel
theorem dX7_left_17 : decode cX7_left 17 = .ok (.istore 4, 2) := by decide +kernel
theorem dX7_left_19 : decode cX7_left 19 = .ok (.iload 4, 2) := by decide +kernel
theorem dX7_left_21 : decode cX7_left 21 = .ok (.iload_n 3, 1) := by decide +kernel
theorem dX7_left_22 : decode cX7_left 22 = .ok (.if_icmp .ge 19, 3) := by decide +kernel
theorem dX7_left_25 : decode cX7_left 25 = .ok (.iload_n 2, 1) := by decide +kernel
theorem dX7_left_26 : decode cX7_left 26 = .ok (.aload_n 0, 1) := by decide +kernel
theorem dX7_left_27 : decode cX7_left 27 = .ok (.iload_n 1, 1) := by decide +kernel
theorem dX7_left_28 : decode cX7_left 28 = .ok (.iload 4, 2) := by decide +kernel
theorem dX7_left_30 : decode cX7_left 30 = .ok (.invokevirtual 51, 3) := by decide +kernel
theorem dX7_left_33 : decode cX7_left 33 = .ok (.isub, 1) := by decide +kernel
theorem dX7_left_34 : decode cX7_left 34 = .ok (.istore_n 2, 1) := by decide +kernel
theorem dX7_left_35 : decode cX7_left 35 = .ok (.iinc 4 1, 3) := by decide +kernel
theorem dX7_left_38 : decode cX7_left 38 = .ok (.goto (-19), 3) := by decide +kernel
theorem dX7_left_41 : decode cX7_left 41 = .ok (.iload_n 2, 1) := by decide +kernel
theorem dX7_left_42 : decode cX7_left 42 = .ok (.ireturn, 1) := by decide +kernel
theorem dX8_knotsThatAre_0 : decode cX8_knotsThatAre 0 = .ok (.iconst 0, 1) := by decide +kernel
theorem dX8_knotsThatAre_1 : decode cX8_knotsThatAre 1 = .ok (.istore_n 3, 1) := by decide +kernel
theorem dX8_knotsThatAre_2 : decode cX8_knotsThatAre 2 = .ok (.iconst 0, 1) := by decide +kernel
theorem dX8_knotsThatAre_3 : decode cX8_knotsThatAre 3 = .ok (.istore 4, 2) := by decide +kernel
theorem dX8_knotsThatAre_5 : decode cX8_knotsThatAre 5 = .ok (.iload 4, 2) := by decide +kernel
theorem dX8_knotsThatAre_7 : decode cX8_knotsThatAre 7 = .ok (.iconst 5, 1) := by decide +kernel
theorem dX8_knotsThatAre_8 : decode cX8_knotsThatAre 8 = .ok (.if_icmp .ge 46, 3) := by decide +kernel
theorem dX8_knotsThatAre_11 : decode cX8_knotsThatAre 11 = .ok (.aload_n 0, 1) := by decide +kernel
theorem dX8_knotsThatAre_12 : decode cX8_knotsThatAre 12 = .ok (.iload 4, 2) := by decide +kernel
theorem dX8_knotsThatAre_14 : decode cX8_knotsThatAre 14 = .ok (.invokevirtual 9, 3) := by decide +kernel
theorem dX8_knotsThatAre_17 : decode cX8_knotsThatAre 17 = .ok (.istore 5, 2) := by decide +kernel
theorem dX8_knotsThatAre_19 : decode cX8_knotsThatAre 19 = .ok (.iconst 0, 1) := by decide +kernel
theorem dX8_knotsThatAre_20 : decode cX8_knotsThatAre 20 = .ok (.istore 6, 2) := by decide +kernel
theorem dX8_knotsThatAre_22 : decode cX8_knotsThatAre 22 = .ok (.iload 6, 2) := by decide +kernel
theorem dX8_knotsThatAre_24 : decode cX8_knotsThatAre 24 = .ok (.iload 5, 2) := by decide +kernel
theorem dX8_knotsThatAre_26 : decode cX8_knotsThatAre 26 = .ok (.if_icmp .ge 22, 3) := by decide +kernel
theorem dX8_knotsThatAre_29 : decode cX8_knotsThatAre 29 = .ok (.iload_n 3, 1) := by decide +kernel
theorem dX8_knotsThatAre_30 : decode cX8_knotsThatAre 30 = .ok (.aload_n 0, 1) := by decide +kernel
theorem dX8_knotsThatAre_31 : decode cX8_knotsThatAre 31 = .ok (.iload 4, 2) := by decide +kernel
theorem dX8_knotsThatAre_33 : decode cX8_knotsThatAre 33 = .ok (.iload 6, 2) := by decide +kernel
theorem dX8_knotsThatAre_35 : decode cX8_knotsThatAre 35 = .ok (.iload_n 1, 1) := by decide +kernel
theorem dX8_knotsThatAre_36 : decode cX8_knotsThatAre 36 = .ok (.iload_n 2, 1) := by decide +kernel
theorem dX8_knotsThatAre_37 : decode cX8_knotsThatAre 37 = .ok (.invokestatic 15, 3) := by decide +kernel
theorem dX8_knotsThatAre_40 : decode cX8_knotsThatAre 40 = .ok (.iadd, 1) := by decide +kernel
theorem dX8_knotsThatAre_41 : decode cX8_knotsThatAre 41 = .ok (.istore_n 3, 1) := by decide +kernel
theorem dX8_knotsThatAre_42 : decode cX8_knotsThatAre 42 = .ok (.iinc 6 1, 3) := by decide +kernel
theorem dX8_knotsThatAre_45 : decode cX8_knotsThatAre 45 = .ok (.goto (-23), 3) := by decide +kernel
theorem dX8_knotsThatAre_48 : decode cX8_knotsThatAre 48 = .ok (.iinc 4 1, 3) := by decide +kernel
theorem dX8_knotsThatAre_51 : decode cX8_knotsThatAre 51 = .ok (.goto (-46), 3) := by decide +kernel
theorem dX8_knotsThatAre_54 : decode cX8_knotsThatAre 54 = .ok (.iload_n 3, 1) := by decide +kernel
theorem dX8_knotsThatAre_55 : decode cX8_knotsThatAre 55 = .ok (.ireturn, 1) := by decide +kernel
theorem dX8_knotsOfName_0 : decode cX8_knotsOfName 0 = .ok (.iconst 0, 1) := by decide +kernel
theorem dX8_knotsOfName_1 : decode cX8_knotsOfName 1 = .ok (.istore 5, 2) := by decide +kernel
theorem dX8_knotsOfName_3 : decode cX8_knotsOfName 3 = .ok (.aload_n 0, 1) := by decide +kernel
theorem dX8_knotsOfName_4 : decode cX8_knotsOfName 4 = .ok (.iload_n 1, 1) := by decide +kernel
theorem dX8_knotsOfName_5 : decode cX8_knotsOfName 5 = .ok (.iload_n 2, 1) := by decide +kernel
theorem dX8_knotsOfName_6 : decode cX8_knotsOfName 6 = .ok (.invokevirtual 21, 3) := by decide +kernel
theorem dX8_knotsOfName_9 : decode cX8_knotsOfName 9 = .ok (.istore 6, 2) := by decide +kernel
theorem dX8_knotsOfName_11 : decode cX8_knotsOfName 11 = .ok (.iconst 0, 1) := by decide +kernel
theorem dX8_knotsOfName_12 : decode cX8_knotsOfName 12 = .ok (.istore 7, 2) := by decide +kernel
theorem dX8_knotsOfName_14 : decode cX8_knotsOfName 14 = .ok (.iload 7, 2) := by decide +kernel
theorem dX8_knotsOfName_16 : decode cX8_knotsOfName 16 = .ok (.iload 6, 2) := by decide +kernel
theorem dX8_knotsOfName_18 : decode cX8_knotsOfName 18 = .ok (.if_icmp .ge 36, 3) := by decide +kernel
theorem dX8_knotsOfName_21 : decode cX8_knotsOfName 21 = .ok (.iload 5, 2) := by decide +kernel
theorem dX8_knotsOfName_23 : decode cX8_knotsOfName 23 = .ok (.aload_n 0, 1) := by decide +kernel
theorem dX8_knotsOfName_24 : decode cX8_knotsOfName 24 = .ok (.iload_n 1, 1) := by decide +kernel
theorem dX8_knotsOfName_25 : decode cX8_knotsOfName 25 = .ok (.iload_n 2, 1) := by decide +kernel
theorem dX8_knotsOfName_26 : decode cX8_knotsOfName 26 = .ok (.iload 7, 2) := by decide +kernel
theorem dX8_knotsOfName_28 : decode cX8_knotsOfName 28 = .ok (.invokestatic 25, 3) := by decide +kernel
theorem dX8_knotsOfName_31 : decode cX8_knotsOfName 31 = .ok (.iload_n 3, 1) := by decide +kernel
theorem dX8_knotsOfName_32 : decode cX8_knotsOfName 32 = .ok (.iload 4, 2) := by decide +kernel
theorem dX8_knotsOfName_34 : decode cX8_knotsOfName 34 = .ok (.invokestatic 29, 3) := by decide +kernel
theorem dX8_knotsOfName_37 : decode cX8_knotsOfName 37 = .ok (.ifCond .eq 7, 3) := by decide +kernel
theorem dX8_knotsOfName_40 : decode cX8_knotsOfName 40 = .ok (.iconst 1, 1) := by decide +kernel
theorem dX8_knotsOfName_41 : decode cX8_knotsOfName 41 = .ok (.goto 4, 3) := by decide +kernel
theorem dX8_knotsOfName_44 : decode cX8_knotsOfName 44 = .ok (.iconst 0, 1) := by decide +kernel
theorem dX8_knotsOfName_45 : decode cX8_knotsOfName 45 = .ok (.iadd, 1) := by decide +kernel
theorem dX8_knotsOfName_46 : decode cX8_knotsOfName 46 = .ok (.istore 5, 2) := by decide +kernel
theorem dX8_knotsOfName_48 : decode cX8_knotsOfName 48 = .ok (.iinc 7 1, 3) := by decide +kernel
theorem dX8_knotsOfName_51 : decode cX8_knotsOfName 51 = .ok (.goto (-37), 3) := by decide +kernel
theorem dX8_knotsOfName_54 : decode cX8_knotsOfName 54 = .ok (.iload 5, 2) := by decide +kernel
theorem dX8_knotsOfName_56 : decode cX8_knotsOfName 56 = .ok (.ireturn, 1) := by decide +kernel
theorem dX8_isOfKind_0 : decode cX8_isOfKind 0 = .ok (.aload_n 0, 1) := by decide +kernel
theorem dX8_isOfKind_1 : decode cX8_isOfKind 1 = .ok (.iload_n 1, 1) := by decide +kernel
theorem dX8_isOfKind_2 : decode cX8_isOfKind 2 = .ok (.iconst 0, 1) := by decide +kernel
theorem dX8_isOfKind_3 : decode cX8_isOfKind 3 = .ok (.iadd, 1) := by decide +kernel
theorem dX8_isOfKind_4 : decode cX8_isOfKind 4 = .ok (.invokevirtual 33, 3) := by decide +kernel
theorem dX8_isOfKind_7 : decode cX8_isOfKind 7 = .ok (.istore 4, 2) := by decide +kernel
theorem dX8_isOfKind_9 : decode cX8_isOfKind 9 = .ok (.aload_n 0, 1) := by decide +kernel
theorem dX8_isOfKind_10 : decode cX8_isOfKind 10 = .ok (.iload_n 1, 1) := by decide +kernel
theorem dX8_isOfKind_11 : decode cX8_isOfKind 11 = .ok (.iconst 1, 1) := by decide +kernel
theorem dX8_isOfKind_12 : decode cX8_isOfKind 12 = .ok (.iadd, 1) := by decide +kernel
theorem dX8_isOfKind_13 : decode cX8_isOfKind 13 = .ok (.invokevirtual 33, 3) := by decide +kernel
theorem dX8_isOfKind_16 : decode cX8_isOfKind 16 = .ok (.istore 5, 2) := by decide +kernel
theorem dX8_isOfKind_18 : decode cX8_isOfKind 18 = .ok (.iload_n 2, 1) := by decide +kernel
theorem dX8_isOfKind_19 : decode cX8_isOfKind 19 = .ok (.tableswitch 65 1 3 #[25, 36, 48], 25) := by decide +kernel
theorem dX8_isOfKind_44 : decode cX8_isOfKind 44 = .ok (.iload 5, 2) := by decide +kernel
theorem dX8_isOfKind_46 : decode cX8_isOfKind 46 = .ok (.ifCond .le 7, 3) := by decide +kernel
theorem dX8_isOfKind_49 : decode cX8_isOfKind 49 = .ok (.iconst 1, 1) := by decide +kernel
theorem dX8_isOfKind_50 : decode cX8_isOfKind 50 = .ok (.goto 4, 3) := by decide +kernel
theorem dX8_isOfKind_53 : decode cX8_isOfKind 53 = .ok (.iconst 0, 1) := by decide +kernel
theorem dX8_isOfKind_54 : decode cX8_isOfKind 54 = .ok (.ireturn, 1) := by decide +kernel
theorem dX8_isOfKind_55 : decode cX8_isOfKind 55 = .ok (.iload 4, 2) := by decide +kernel
theorem dX8_isOfKind_57 : decode cX8_isOfKind 57 = .ok (.iload_n 3, 1) := by decide +kernel
theorem dX8_isOfKind_58 : decode cX8_isOfKind 58 = .ok (.if_icmp .ne 7, 3) := by decide +kernel
theorem dX8_isOfKind_61 : decode cX8_isOfKind 61 = .ok (.iconst 1, 1) := by decide +kernel
theorem dX8_isOfKind_62 : decode cX8_isOfKind 62 = .ok (.goto 4, 3) := by decide +kernel
theorem dX8_isOfKind_65 : decode cX8_isOfKind 65 = .ok (.iconst 0, 1) := by decide +kernel
theorem dX8_isOfKind_66 : decode cX8_isOfKind 66 = .ok (.ireturn, 1) := by decide +kernel
theorem dX8_isOfKind_67 : decode cX8_isOfKind 67 = .ok (.iload 4, 2) := by decide +kernel
theorem dX8_isOfKind_69 : decode cX8_isOfKind 69 = .ok (.iload 5, 2) := by decide +kernel
theorem dX8_isOfKind_71 : decode cX8_isOfKind 71 = .ok (.invokestatic 36, 3) := by decide +kernel
theorem dX8_isOfKind_74 : decode cX8_isOfKind 74 = .ok (.iload_n 3, 1) := by decide +kernel
theorem dX8_isOfKind_75 : decode cX8_isOfKind 75 = .ok (.if_icmp .ne 7, 3) := by decide +kernel
theorem dX8_isOfKind_78 : decode cX8_isOfKind 78 = .ok (.iconst 1, 1) := by decide +kernel
theorem dX8_isOfKind_79 : decode cX8_isOfKind 79 = .ok (.goto 4, 3) := by decide +kernel
theorem dX8_isOfKind_82 : decode cX8_isOfKind 82 = .ok (.iconst 0, 1) := by decide +kernel
theorem dX8_isOfKind_83 : decode cX8_isOfKind 83 = .ok (.ireturn, 1) := by decide +kernel
theorem dX8_isOfKind_84 : decode cX8_isOfKind 84 = .ok (.iconst 1, 1) := by decide +kernel
theorem dX8_isOfKind_85 : decode cX8_isOfKind 85 = .ok (.ireturn, 1) := by decide +kernel
theorem dX8_ofLetter_0 : decode cX8_ofLetter 0 = .ok (.iload_n 2, 1) := by decide +kernel
theorem dX8_ofLetter_1 : decode cX8_ofLetter 1 = .ok (.tableswitch 70 0 4 #[35, 40, 45, 50, 63], 35) := by decide +kernel
theorem dX8_ofLetter_36 : decode cX8_ofLetter 36 = .ok (.iload_n 1, 1) := by decide +kernel
theorem dX8_ofLetter_37 : decode cX8_ofLetter 37 = .ok (.invokestatic 41, 3) := by decide +kernel
theorem dX8_ofLetter_40 : decode cX8_ofLetter 40 = .ok (.ireturn, 1) := by decide +kernel
theorem dX8_ofLetter_41 : decode cX8_ofLetter 41 = .ok (.iload_n 1, 1) := by decide +kernel
theorem dX8_ofLetter_42 : decode cX8_ofLetter 42 = .ok (.invokestatic 44, 3) := by decide +kernel
theorem dX8_ofLetter_45 : decode cX8_ofLetter 45 = .ok (.ireturn, 1) := by decide +kernel
theorem dX8_ofLetter_46 : decode cX8_ofLetter 46 = .ok (.iload_n 1, 1) := by decide +kernel
theorem dX8_ofLetter_47 : decode cX8_ofLetter 47 = .ok (.invokestatic 47, 3) := by decide +kernel
theorem dX8_ofLetter_50 : decode cX8_ofLetter 50 = .ok (.ireturn, 1) := by decide +kernel
theorem dX8_ofLetter_51 : decode cX8_ofLetter 51 = .ok (.iload_n 1, 1) := by decide +kernel
theorem dX8_ofLetter_52 : decode cX8_ofLetter 52 = .ok (.invokestatic 50, 3) := by decide +kernel
theorem dX8_ofLetter_55 : decode cX8_ofLetter 55 = .ok (.ifCond .eq 7, 3) := by decide +kernel
theorem dX8_ofLetter_58 : decode cX8_ofLetter 58 = .ok (.iconst 1, 1) := by decide +kernel
theorem dX8_ofLetter_59 : decode cX8_ofLetter 59 = .ok (.goto 4, 3) := by decide +kernel
theorem dX8_ofLetter_62 : decode cX8_ofLetter 62 = .ok (.iconst 0, 1) := by decide +kernel
theorem dX8_ofLetter_63 : decode cX8_ofLetter 63 = .ok (.ireturn, 1) := by decide +kernel
theorem dX8_ofLetter_64 : decode cX8_ofLetter 64 = .ok (.aload_n 0, 1) := by decide +kernel
theorem dX8_ofLetter_65 : decode cX8_ofLetter 65 = .ok (.iconst 2, 1) := by decide +kernel
theorem dX8_ofLetter_66 : decode cX8_ofLetter 66 = .ok (.iload_n 1, 1) := by decide +kernel
theorem dX8_ofLetter_67 : decode cX8_ofLetter 67 = .ok (.invokestatic 54, 3) := by decide +kernel
theorem dX8_ofLetter_70 : decode cX8_ofLetter 70 = .ok (.ireturn, 1) := by decide +kernel
theorem dX8_ofLetter_71 : decode cX8_ofLetter 71 = .ok (.aload_n 0, 1) := by decide +kernel
theorem dX8_ofLetter_72 : decode cX8_ofLetter 72 = .ok (.iconst 3, 1) := by decide +kernel
theorem dX8_ofLetter_73 : decode cX8_ofLetter 73 = .ok (.iload_n 1, 1) := by decide +kernel
theorem dX8_ofLetter_74 : decode cX8_ofLetter 74 = .ok (.invokestatic 54, 3) := by decide +kernel
theorem dX8_ofLetter_77 : decode cX8_ofLetter 77 = .ok (.ireturn, 1) := by decide +kernel
theorem dX8_ofKnot_0 : decode cX8_ofKnot 0 = .ok (.iload_n 3, 1) := by decide +kernel
theorem dX8_ofKnot_1 : decode cX8_ofKnot 1 = .ok (.ifCond .lt 13, 3) := by decide +kernel
theorem dX8_ofKnot_4 : decode cX8_ofKnot 4 = .ok (.iload_n 3, 1) := by decide +kernel
theorem dX8_ofKnot_5 : decode cX8_ofKnot 5 = .ok (.aload_n 0, 1) := by decide +kernel
theorem dX8_ofKnot_6 : decode cX8_ofKnot 6 = .ok (.iload_n 1, 1) := by decide +kernel
theorem dX8_ofKnot_7 : decode cX8_ofKnot 7 = .ok (.iload_n 2, 1) := by decide +kernel
theorem dX8_ofKnot_8 : decode cX8_ofKnot 8 = .ok (.invokevirtual 21, 3) := by decide +kernel
theorem dX8_ofKnot_11 : decode cX8_ofKnot 11 = .ok (.if_icmp .lt 5, 3) := by decide +kernel
theorem dX8_ofKnot_14 : decode cX8_ofKnot 14 = .ok (.iconst (-1), 1) := by decide +kernel
theorem dX8_ofKnot_15 : decode cX8_ofKnot 15 = .ok (.ireturn, 1) := by decide +kernel
theorem dX8_ofKnot_16 : decode cX8_ofKnot 16 = .ok (.iload 4, 2) := by decide +kernel
theorem dX8_ofKnot_18 : decode cX8_ofKnot 18 = .ok (.lookupswitch 47 #[(0, 26), (1, 39)], 26) := by decide +kernel
theorem dX8_ofKnot_44 : decode cX8_ofKnot 44 = .ok (.aload_n 0, 1) := by decide +kernel
theorem dX8_ofKnot_45 : decode cX8_ofKnot 45 = .ok (.iload_n 1, 1) := by decide +kernel
theorem dX8_ofKnot_46 : decode cX8_ofKnot 46 = .ok (.iload_n 2, 1) := by decide +kernel
theorem dX8_ofKnot_47 : decode cX8_ofKnot 47 = .ok (.iload_n 3, 1) := by decide +kernel
theorem dX8_ofKnot_48 : decode cX8_ofKnot 48 = .ok (.invokestatic 25, 3) := by decide +kernel
theorem dX8_ofKnot_51 : decode cX8_ofKnot 51 = .ok (.iconst 0, 1) := by decide +kernel
theorem dX8_ofKnot_52 : decode cX8_ofKnot 52 = .ok (.iadd, 1) := by decide +kernel
theorem dX8_ofKnot_53 : decode cX8_ofKnot 53 = .ok (.invokevirtual 33, 3) := by decide +kernel
theorem dX8_ofKnot_56 : decode cX8_ofKnot 56 = .ok (.ireturn, 1) := by decide +kernel
theorem dX8_ofKnot_57 : decode cX8_ofKnot 57 = .ok (.aload_n 0, 1) := by decide +kernel
theorem dX8_ofKnot_58 : decode cX8_ofKnot 58 = .ok (.iload_n 1, 1) := by decide +kernel
theorem dX8_ofKnot_59 : decode cX8_ofKnot 59 = .ok (.iload_n 2, 1) := by decide +kernel
theorem dX8_ofKnot_60 : decode cX8_ofKnot 60 = .ok (.iload_n 3, 1) := by decide +kernel
theorem dX8_ofKnot_61 : decode cX8_ofKnot 61 = .ok (.invokevirtual 58, 3) := by decide +kernel
theorem dX8_ofKnot_64 : decode cX8_ofKnot 64 = .ok (.ireturn, 1) := by decide +kernel
theorem dX8_ofKnot_65 : decode cX8_ofKnot 65 = .ok (.aload_n 0, 1) := by decide +kernel
theorem dX8_ofKnot_66 : decode cX8_ofKnot 66 = .ok (.iload_n 1, 1) := by decide +kernel
theorem dX8_ofKnot_67 : decode cX8_ofKnot 67 = .ok (.iload_n 2, 1) := by decide +kernel
theorem dX8_ofKnot_68 : decode cX8_ofKnot 68 = .ok (.iload_n 3, 1) := by decide +kernel
theorem dX8_ofKnot_69 : decode cX8_ofKnot 69 = .ok (.invokevirtual 61, 3) := by decide +kernel
theorem dX8_ofKnot_72 : decode cX8_ofKnot 72 = .ok (.ireturn, 1) := by decide +kernel
theorem dX8_ofName_0 : decode cX8_ofName 0 = .ok (.iload_n 3, 1) := by decide +kernel
theorem dX8_ofName_1 : decode cX8_ofName 1 = .ok (.tableswitch 62 0 3 #[31, 38, 45, 54], 31) := by decide +kernel
theorem dX8_ofName_32 : decode cX8_ofName 32 = .ok (.aload_n 0, 1) := by decide +kernel
theorem dX8_ofName_33 : decode cX8_ofName 33 = .ok (.iload_n 1, 1) := by decide +kernel
theorem dX8_ofName_34 : decode cX8_ofName 34 = .ok (.iload_n 2, 1) := by decide +kernel
theorem dX8_ofName_35 : decode cX8_ofName 35 = .ok (.invokevirtual 21, 3) := by decide +kernel
theorem dX8_ofName_38 : decode cX8_ofName 38 = .ok (.ireturn, 1) := by decide +kernel
theorem dX8_ofName_39 : decode cX8_ofName 39 = .ok (.aload_n 0, 1) := by decide +kernel
theorem dX8_ofName_40 : decode cX8_ofName 40 = .ok (.iload_n 1, 1) := by decide +kernel
theorem dX8_ofName_41 : decode cX8_ofName 41 = .ok (.iload_n 2, 1) := by decide +kernel
theorem dX8_ofName_42 : decode cX8_ofName 42 = .ok (.invokevirtual 64, 3) := by decide +kernel
theorem dX8_ofName_45 : decode cX8_ofName 45 = .ok (.ireturn, 1) := by decide +kernel
theorem dX8_ofName_46 : decode cX8_ofName 46 = .ok (.aload_n 0, 1) := by decide +kernel
theorem dX8_ofName_47 : decode cX8_ofName 47 = .ok (.iload_n 1, 1) := by decide +kernel
theorem dX8_ofName_48 : decode cX8_ofName 48 = .ok (.iload_n 2, 1) := by decide +kernel
theorem dX8_ofName_49 : decode cX8_ofName 49 = .ok (.iconst 1, 1) := by decide +kernel
theorem dX8_ofName_50 : decode cX8_ofName 50 = .ok (.iconst (-1), 1) := by decide +kernel
theorem dX8_ofName_51 : decode cX8_ofName 51 = .ok (.invokestatic 15, 3) := by decide +kernel
theorem dX8_ofName_54 : decode cX8_ofName 54 = .ok (.ireturn, 1) := by decide +kernel
theorem dX8_ofName_55 : decode cX8_ofName 55 = .ok (.aload_n 0, 1) := by decide +kernel
theorem dX8_ofName_56 : decode cX8_ofName 56 = .ok (.iload_n 1, 1) := by decide +kernel
theorem dX8_ofName_57 : decode cX8_ofName 57 = .ok (.iload_n 2, 1) := by decide +kernel
theorem dX8_ofName_58 : decode cX8_ofName 58 = .ok (.iconst 0, 1) := by decide +kernel
theorem dX8_ofName_59 : decode cX8_ofName 59 = .ok (.invokestatic 67, 3) := by decide +kernel
theorem dX8_ofName_62 : decode cX8_ofName 62 = .ok (.ireturn, 1) := by decide +kernel
theorem dX8_ofName_63 : decode cX8_ofName 63 = .ok (.aload_n 0, 1) := by decide +kernel
theorem dX8_ofName_64 : decode cX8_ofName 64 = .ok (.iload_n 1, 1) := by decide +kernel
theorem dX8_ofName_65 : decode cX8_ofName 65 = .ok (.iload_n 2, 1) := by decide +kernel
theorem dX8_ofName_66 : decode cX8_ofName 66 = .ok (.invokestatic 73, 3) := by decide +kernel
theorem dX8_ofName_69 : decode cX8_ofName 69 = .ok (.ireturn, 1) := by decide +kernel
theorem dX8_ofFisher_0 : decode cX8_ofFisher 0 = .ok (.iload_n 2, 1) := by decide +kernel
theorem dX8_ofFisher_1 : decode cX8_ofFisher 1 = .ok (.tableswitch 63 0 3 #[31, 41, 47, 53], 31) := by decide +kernel
theorem dX8_ofFisher_32 : decode cX8_ofFisher 32 = .ok (.aload_n 0, 1) := by decide +kernel
theorem dX8_ofFisher_33 : decode cX8_ofFisher 33 = .ok (.iload_n 1, 1) := by decide +kernel
theorem dX8_ofFisher_34 : decode cX8_ofFisher 34 = .ok (.iconst 0, 1) := by decide +kernel
theorem dX8_ofFisher_35 : decode cX8_ofFisher 35 = .ok (.invokestatic 76, 3) := by decide +kernel
theorem dX8_ofFisher_38 : decode cX8_ofFisher 38 = .ok (.invokevirtual 33, 3) := by decide +kernel
theorem dX8_ofFisher_41 : decode cX8_ofFisher 41 = .ok (.ireturn, 1) := by decide +kernel
theorem dX8_ofFisher_42 : decode cX8_ofFisher 42 = .ok (.aload_n 0, 1) := by decide +kernel
theorem dX8_ofFisher_43 : decode cX8_ofFisher 43 = .ok (.iload_n 1, 1) := by decide +kernel
theorem dX8_ofFisher_44 : decode cX8_ofFisher 44 = .ok (.invokevirtual 9, 3) := by decide +kernel
theorem dX8_ofFisher_47 : decode cX8_ofFisher 47 = .ok (.ireturn, 1) := by decide +kernel
theorem dX8_ofFisher_48 : decode cX8_ofFisher 48 = .ok (.aload_n 0, 1) := by decide +kernel
theorem dX8_ofFisher_49 : decode cX8_ofFisher 49 = .ok (.iload_n 1, 1) := by decide +kernel
theorem dX8_ofFisher_50 : decode cX8_ofFisher 50 = .ok (.invokevirtual 79, 3) := by decide +kernel
theorem dX8_ofFisher_53 : decode cX8_ofFisher 53 = .ok (.ireturn, 1) := by decide +kernel
theorem dX8_ofFisher_54 : decode cX8_ofFisher 54 = .ok (.aload_n 0, 1) := by decide +kernel
theorem dX8_ofFisher_55 : decode cX8_ofFisher 55 = .ok (.iload_n 1, 1) := by decide +kernel
theorem dX8_ofFisher_56 : decode cX8_ofFisher 56 = .ok (.iconst 2, 1) := by decide +kernel
theorem dX8_ofFisher_57 : decode cX8_ofFisher 57 = .ok (.invokestatic 76, 3) := by decide +kernel
theorem dX8_ofFisher_60 : decode cX8_ofFisher 60 = .ok (.invokevirtual 33, 3) := by decide +kernel
theorem dX8_ofFisher_63 : decode cX8_ofFisher 63 = .ok (.ireturn, 1) := by decide +kernel
theorem dX8_ofFisher_64 : decode cX8_ofFisher 64 = .ok (.aload_n 0, 1) := by decide +kernel
theorem dX8_ofFisher_65 : decode cX8_ofFisher 65 = .ok (.iload_n 1, 1) := by decide +kernel
theorem dX8_ofFisher_66 : decode cX8_ofFisher 66 = .ok (.iconst 3, 1) := by decide +kernel
theorem dX8_ofFisher_67 : decode cX8_ofFisher 67 = .ok (.invokestatic 76, 3) := by decide +kernel
theorem dX8_ofFisher_70 : decode cX8_ofFisher 70 = .ok (.invokevirtual 33, 3) := by decide +kernel
theorem dX8_ofFisher_73 : decode cX8_ofFisher 73 = .ok (.ireturn, 1) := by decide +kernel
theorem dX8_ofAll_0 : decode cX8_ofAll 0 = .ok (.iload_n 1, 1) := by decide +kernel
theorem dX8_ofAll_1 : decode cX8_ofAll 1 = .ok (.tableswitch 133 0 11 #[63, 68, 74, 79, 84, 90, 97, 104, 110, 116, 122, 127], 63) := by decide +kernel
theorem dX8_ofAll_64 : decode cX8_ofAll 64 = .ok (.aload_n 0, 1) := by decide +kernel
theorem dX8_ofAll_65 : decode cX8_ofAll 65 = .ok (.invokestatic 82, 3) := by decide +kernel
theorem dX8_ofAll_68 : decode cX8_ofAll 68 = .ok (.ireturn, 1) := by decide +kernel
theorem dX8_ofAll_69 : decode cX8_ofAll 69 = .ok (.aload_n 0, 1) := by decide +kernel
theorem dX8_ofAll_70 : decode cX8_ofAll 70 = .ok (.iconst 0, 1) := by decide +kernel
theorem dX8_ofAll_71 : decode cX8_ofAll 71 = .ok (.invokevirtual 33, 3) := by decide +kernel
theorem dX8_ofAll_74 : decode cX8_ofAll 74 = .ok (.ireturn, 1) := by decide +kernel
theorem dX8_ofAll_75 : decode cX8_ofAll 75 = .ok (.aload_n 0, 1) := by decide +kernel
theorem dX8_ofAll_76 : decode cX8_ofAll 76 = .ok (.invokestatic 85, 3) := by decide +kernel
theorem dX8_ofAll_79 : decode cX8_ofAll 79 = .ok (.ireturn, 1) := by decide +kernel
theorem dX8_ofAll_80 : decode cX8_ofAll 80 = .ok (.aload_n 0, 1) := by decide +kernel
theorem dX8_ofAll_81 : decode cX8_ofAll 81 = .ok (.invokestatic 88, 3) := by decide +kernel
theorem dX8_ofAll_84 : decode cX8_ofAll 84 = .ok (.ireturn, 1) := by decide +kernel
theorem dX8_ofAll_85 : decode cX8_ofAll 85 = .ok (.aload_n 0, 1) := by decide +kernel
theorem dX8_ofAll_86 : decode cX8_ofAll 86 = .ok (.iconst 4, 1) := by decide +kernel
theorem dX8_ofAll_87 : decode cX8_ofAll 87 = .ok (.invokevirtual 33, 3) := by decide +kernel
theorem dX8_ofAll_90 : decode cX8_ofAll 90 = .ok (.ireturn, 1) := by decide +kernel
theorem dX8_ofAll_91 : decode cX8_ofAll 91 = .ok (.aload_n 0, 1) := by decide +kernel
theorem dX8_ofAll_92 : decode cX8_ofAll 92 = .ok (.iconst 1, 1) := by decide +kernel
theorem dX8_ofAll_93 : decode cX8_ofAll 93 = .ok (.iconst (-1), 1) := by decide +kernel
theorem dX8_ofAll_94 : decode cX8_ofAll 94 = .ok (.invokestatic 54, 3) := by decide +kernel
theorem dX8_ofAll_97 : decode cX8_ofAll 97 = .ok (.ireturn, 1) := by decide +kernel
theorem dX8_ofAll_98 : decode cX8_ofAll 98 = .ok (.aload_n 0, 1) := by decide +kernel
theorem dX8_ofAll_99 : decode cX8_ofAll 99 = .ok (.bipush 7, 2) := by decide +kernel
theorem dX8_ofAll_101 : decode cX8_ofAll 101 = .ok (.invokevirtual 33, 3) := by decide +kernel
theorem dX8_ofAll_104 : decode cX8_ofAll 104 = .ok (.ireturn, 1) := by decide +kernel
theorem dX8_ofAll_105 : decode cX8_ofAll 105 = .ok (.aload_n 0, 1) := by decide +kernel
theorem dX8_ofAll_106 : decode cX8_ofAll 106 = .ok (.iconst 2, 1) := by decide +kernel
theorem dX8_ofAll_107 : decode cX8_ofAll 107 = .ok (.invokestatic 91, 3) := by decide +kernel
theorem dX8_ofAll_110 : decode cX8_ofAll 110 = .ok (.ireturn, 1) := by decide +kernel
theorem dX8_ofAll_111 : decode cX8_ofAll 111 = .ok (.aload_n 0, 1) := by decide +kernel
theorem dX8_ofAll_112 : decode cX8_ofAll 112 = .ok (.iconst 3, 1) := by decide +kernel
theorem dX8_ofAll_113 : decode cX8_ofAll 113 = .ok (.invokestatic 91, 3) := by decide +kernel
theorem dX8_ofAll_116 : decode cX8_ofAll 116 = .ok (.ireturn, 1) := by decide +kernel
theorem dX8_ofAll_117 : decode cX8_ofAll 117 = .ok (.aload_n 0, 1) := by decide +kernel
theorem dX8_ofAll_118 : decode cX8_ofAll 118 = .ok (.iconst 3, 1) := by decide +kernel
theorem dX8_ofAll_119 : decode cX8_ofAll 119 = .ok (.invokevirtual 33, 3) := by decide +kernel
theorem dX8_ofAll_122 : decode cX8_ofAll 122 = .ok (.ireturn, 1) := by decide +kernel
theorem dX8_ofAll_123 : decode cX8_ofAll 123 = .ok (.aload_n 0, 1) := by decide +kernel
theorem dX8_ofAll_124 : decode cX8_ofAll 124 = .ok (.invokestatic 95, 3) := by decide +kernel
theorem dX8_ofAll_127 : decode cX8_ofAll 127 = .ok (.ireturn, 1) := by decide +kernel
theorem dX8_ofAll_128 : decode cX8_ofAll 128 = .ok (.aload_n 0, 1) := by decide +kernel
theorem dX8_ofAll_129 : decode cX8_ofAll 129 = .ok (.iconst 1, 1) := by decide +kernel
theorem dX8_ofAll_130 : decode cX8_ofAll 130 = .ok (.invokevirtual 33, 3) := by decide +kernel
theorem dX8_ofAll_133 : decode cX8_ofAll 133 = .ok (.ireturn, 1) := by decide +kernel
theorem dX8_ofAll_134 : decode cX8_ofAll 134 = .ok (.aload_n 0, 1) := by decide +kernel
theorem dX8_ofAll_135 : decode cX8_ofAll 135 = .ok (.iconst 2, 1) := by decide +kernel
theorem dX8_ofAll_136 : decode cX8_ofAll 136 = .ok (.invokevirtual 33, 3) := by decide +kernel
theorem dX8_ofAll_139 : decode cX8_ofAll 139 = .ok (.ireturn, 1) := by decide +kernel
theorem dX8_names_0 : decode cX8_names 0 = .ok (.aload_n 0, 1) := by decide +kernel
theorem dX8_names_1 : decode cX8_names 1 = .ok (.iconst 1, 1) := by decide +kernel
theorem dX8_names_2 : decode cX8_names 2 = .ok (.invokestatic 91, 3) := by decide +kernel
theorem dX8_names_5 : decode cX8_names 5 = .ok (.ireturn, 1) := by decide +kernel
theorem dX8_ofFishers_0 : decode cX8_ofFishers 0 = .ok (.iconst 0, 1) := by decide +kernel
theorem dX8_ofFishers_1 : decode cX8_ofFishers 1 = .ok (.istore_n 2, 1) := by decide +kernel
theorem dX8_ofFishers_2 : decode cX8_ofFishers 2 = .ok (.iconst 0, 1) := by decide +kernel
theorem dX8_ofFishers_3 : decode cX8_ofFishers 3 = .ok (.istore_n 3, 1) := by decide +kernel
theorem dX8_ofFishers_4 : decode cX8_ofFishers 4 = .ok (.iload_n 3, 1) := by decide +kernel
theorem dX8_ofFishers_5 : decode cX8_ofFishers 5 = .ok (.iconst 5, 1) := by decide +kernel
theorem dX8_ofFishers_6 : decode cX8_ofFishers 6 = .ok (.if_icmp .ge 21, 3) := by decide +kernel
theorem dX8_ofFishers_9 : decode cX8_ofFishers 9 = .ok (.iload_n 2, 1) := by decide +kernel
theorem dX8_ofFishers_10 : decode cX8_ofFishers 10 = .ok (.aload_n 0, 1) := by decide +kernel
theorem dX8_ofFishers_11 : decode cX8_ofFishers 11 = .ok (.iload_n 3, 1) := by decide +kernel
theorem dX8_ofFishers_12 : decode cX8_ofFishers 12 = .ok (.iload_n 1, 1) := by decide +kernel
theorem dX8_ofFishers_13 : decode cX8_ofFishers 13 = .ok (.invokestatic 76, 3) := by decide +kernel
theorem dX8_ofFishers_16 : decode cX8_ofFishers 16 = .ok (.invokevirtual 33, 3) := by decide +kernel
theorem dX8_ofFishers_19 : decode cX8_ofFishers 19 = .ok (.iadd, 1) := by decide +kernel
theorem dX8_ofFishers_20 : decode cX8_ofFishers 20 = .ok (.istore_n 2, 1) := by decide +kernel
theorem dX8_ofFishers_21 : decode cX8_ofFishers 21 = .ok (.iinc 3 1, 3) := by decide +kernel
theorem dX8_ofFishers_24 : decode cX8_ofFishers 24 = .ok (.goto (-20), 3) := by decide +kernel
theorem dX8_ofFishers_27 : decode cX8_ofFishers 27 = .ok (.iload_n 2, 1) := by decide +kernel
theorem dX8_ofFishers_28 : decode cX8_ofFishers 28 = .ok (.ireturn, 1) := by decide +kernel
theorem dX8_cordByNames_0 : decode cX8_cordByNames 0 = .ok (.iconst 0, 1) := by decide +kernel
theorem dX8_cordByNames_1 : decode cX8_cordByNames 1 = .ok (.istore_n 1, 1) := by decide +kernel
theorem dX8_cordByNames_2 : decode cX8_cordByNames 2 = .ok (.iconst 0, 1) := by decide +kernel
theorem dX8_cordByNames_3 : decode cX8_cordByNames 3 = .ok (.istore_n 2, 1) := by decide +kernel
theorem dX8_cordByNames_4 : decode cX8_cordByNames 4 = .ok (.iload_n 2, 1) := by decide +kernel
theorem dX8_cordByNames_5 : decode cX8_cordByNames 5 = .ok (.iconst 5, 1) := by decide +kernel
theorem dX8_cordByNames_6 : decode cX8_cordByNames 6 = .ok (.if_icmp .ge 40, 3) := by decide +kernel
theorem dX8_cordByNames_9 : decode cX8_cordByNames 9 = .ok (.aload_n 0, 1) := by decide +kernel
theorem dX8_cordByNames_10 : decode cX8_cordByNames 10 = .ok (.iload_n 2, 1) := by decide +kernel
theorem dX8_cordByNames_11 : decode cX8_cordByNames 11 = .ok (.invokevirtual 9, 3) := by decide +kernel
theorem dX8_cordByNames_14 : decode cX8_cordByNames 14 = .ok (.istore_n 3, 1) := by decide +kernel
theorem dX8_cordByNames_15 : decode cX8_cordByNames 15 = .ok (.iconst 0, 1) := by decide +kernel
theorem dX8_cordByNames_16 : decode cX8_cordByNames 16 = .ok (.istore 4, 2) := by decide +kernel
theorem dX8_cordByNames_18 : decode cX8_cordByNames 18 = .ok (.iload 4, 2) := by decide +kernel
theorem dX8_cordByNames_20 : decode cX8_cordByNames 20 = .ok (.iload_n 3, 1) := by decide +kernel
theorem dX8_cordByNames_21 : decode cX8_cordByNames 21 = .ok (.if_icmp .ge 19, 3) := by decide +kernel
theorem dX8_cordByNames_24 : decode cX8_cordByNames 24 = .ok (.iload_n 1, 1) := by decide +kernel
theorem dX8_cordByNames_25 : decode cX8_cordByNames 25 = .ok (.aload_n 0, 1) := by decide +kernel
theorem dX8_cordByNames_26 : decode cX8_cordByNames 26 = .ok (.iload_n 2, 1) := by decide +kernel
theorem dX8_cordByNames_27 : decode cX8_cordByNames 27 = .ok (.iload 4, 2) := by decide +kernel
theorem dX8_cordByNames_29 : decode cX8_cordByNames 29 = .ok (.invokevirtual 64, 3) := by decide +kernel
theorem dX8_cordByNames_32 : decode cX8_cordByNames 32 = .ok (.iadd, 1) := by decide +kernel
theorem dX8_cordByNames_33 : decode cX8_cordByNames 33 = .ok (.istore_n 1, 1) := by decide +kernel
theorem dX8_cordByNames_34 : decode cX8_cordByNames 34 = .ok (.iinc 4 1, 3) := by decide +kernel
theorem dX8_cordByNames_37 : decode cX8_cordByNames 37 = .ok (.goto (-19), 3) := by decide +kernel
theorem dX8_cordByNames_40 : decode cX8_cordByNames 40 = .ok (.iinc 2 1, 3) := by decide +kernel
theorem dX8_cordByNames_43 : decode cX8_cordByNames 43 = .ok (.goto (-39), 3) := by decide +kernel
theorem dX8_cordByNames_46 : decode cX8_cordByNames 46 = .ok (.iload_n 1, 1) := by decide +kernel
theorem dX8_cordByNames_47 : decode cX8_cordByNames 47 = .ok (.ireturn, 1) := by decide +kernel
theorem dX8_cordByLetters_0 : decode cX8_cordByLetters 0 = .ok (.iconst 2, 1) := by decide +kernel
theorem dX8_cordByLetters_1 : decode cX8_cordByLetters 1 = .ok (.aload_n 0, 1) := by decide +kernel
theorem dX8_cordByLetters_2 : decode cX8_cordByLetters 2 = .ok (.invokestatic 82, 3) := by decide +kernel
theorem dX8_cordByLetters_5 : decode cX8_cordByLetters 5 = .ok (.imul, 1) := by decide +kernel
theorem dX8_cordByLetters_6 : decode cX8_cordByLetters 6 = .ok (.istore_n 1, 1) := by decide +kernel
theorem dX8_cordByLetters_7 : decode cX8_cordByLetters 7 = .ok (.iconst 0, 1) := by decide +kernel
theorem dX8_cordByLetters_8 : decode cX8_cordByLetters 8 = .ok (.istore_n 2, 1) := by decide +kernel
theorem dX8_cordByLetters_9 : decode cX8_cordByLetters 9 = .ok (.iload_n 2, 1) := by decide +kernel
theorem dX8_cordByLetters_10 : decode cX8_cordByLetters 10 = .ok (.bipush 16, 2) := by decide +kernel
theorem dX8_cordByLetters_12 : decode cX8_cordByLetters 12 = .ok (.if_icmp .ge 27, 3) := by decide +kernel
theorem dX8_cordByLetters_15 : decode cX8_cordByLetters 15 = .ok (.iload_n 2, 1) := by decide +kernel
theorem dX8_cordByLetters_16 : decode cX8_cordByLetters 16 = .ok (.invokestatic 47, 3) := by decide +kernel
theorem dX8_cordByLetters_19 : decode cX8_cordByLetters 19 = .ok (.iconst 1, 1) := by decide +kernel
theorem dX8_cordByLetters_20 : decode cX8_cordByLetters 20 = .ok (.iadd, 1) := by decide +kernel
theorem dX8_cordByLetters_21 : decode cX8_cordByLetters 21 = .ok (.istore_n 3, 1) := by decide +kernel
theorem dX8_cordByLetters_22 : decode cX8_cordByLetters 22 = .ok (.iload_n 1, 1) := by decide +kernel
theorem dX8_cordByLetters_23 : decode cX8_cordByLetters 23 = .ok (.aload_n 0, 1) := by decide +kernel
theorem dX8_cordByLetters_24 : decode cX8_cordByLetters 24 = .ok (.iconst 2, 1) := by decide +kernel
theorem dX8_cordByLetters_25 : decode cX8_cordByLetters 25 = .ok (.iload_n 2, 1) := by decide +kernel
theorem dX8_cordByLetters_26 : decode cX8_cordByLetters 26 = .ok (.invokestatic 54, 3) := by decide +kernel
theorem dX8_cordByLetters_29 : decode cX8_cordByLetters 29 = .ok (.iload_n 3, 1) := by decide +kernel
theorem dX8_cordByLetters_30 : decode cX8_cordByLetters 30 = .ok (.imul, 1) := by decide +kernel
theorem dX8_cordByLetters_31 : decode cX8_cordByLetters 31 = .ok (.iadd, 1) := by decide +kernel
theorem dX8_cordByLetters_32 : decode cX8_cordByLetters 32 = .ok (.istore_n 1, 1) := by decide +kernel
theorem dX8_cordByLetters_33 : decode cX8_cordByLetters 33 = .ok (.iinc 2 1, 3) := by decide +kernel
theorem dX8_cordByLetters_36 : decode cX8_cordByLetters 36 = .ok (.goto (-27), 3) := by decide +kernel
theorem dX8_cordByLetters_39 : decode cX8_cordByLetters 39 = .ok (.iload_n 1, 1) := by decide +kernel
theorem dX8_cordByLetters_40 : decode cX8_cordByLetters 40 = .ok (.ireturn, 1) := by decide +kernel
theorem dX8_fishersWithSharedNames_0 : decode cX8_fishersWithSharedNames 0 = .ok (.iconst 0, 1) := by decide +kernel
theorem dX8_fishersWithSharedNames_1 : decode cX8_fishersWithSharedNames 1 = .ok (.istore_n 1, 1) := by decide +kernel
theorem dX8_fishersWithSharedNames_2 : decode cX8_fishersWithSharedNames 2 = .ok (.iconst 0, 1) := by decide +kernel
theorem dX8_fishersWithSharedNames_3 : decode cX8_fishersWithSharedNames 3 = .ok (.istore_n 2, 1) := by decide +kernel
theorem dX8_fishersWithSharedNames_4 : decode cX8_fishersWithSharedNames 4 = .ok (.iload_n 2, 1) := by decide +kernel
theorem dX8_fishersWithSharedNames_5 : decode cX8_fishersWithSharedNames 5 = .ok (.iconst 5, 1) := by decide +kernel
theorem dX8_fishersWithSharedNames_6 : decode cX8_fishersWithSharedNames 6 = .ok (.if_icmp .ge 43, 3) := by decide +kernel
theorem dX8_fishersWithSharedNames_9 : decode cX8_fishersWithSharedNames 9 = .ok (.iload_n 2, 1) := by decide +kernel
theorem dX8_fishersWithSharedNames_10 : decode cX8_fishersWithSharedNames 10 = .ok (.iconst 1, 1) := by decide +kernel
theorem dX8_fishersWithSharedNames_11 : decode cX8_fishersWithSharedNames 11 = .ok (.iadd, 1) := by decide +kernel
theorem dX8_fishersWithSharedNames_12 : decode cX8_fishersWithSharedNames 12 = .ok (.istore_n 3, 1) := by decide +kernel
theorem dX8_fishersWithSharedNames_13 : decode cX8_fishersWithSharedNames 13 = .ok (.iload_n 3, 1) := by decide +kernel
theorem dX8_fishersWithSharedNames_14 : decode cX8_fishersWithSharedNames 14 = .ok (.iconst 5, 1) := by decide +kernel
theorem dX8_fishersWithSharedNames_15 : decode cX8_fishersWithSharedNames 15 = .ok (.if_icmp .ge 28, 3) := by decide +kernel
theorem dX8_fishersWithSharedNames_18 : decode cX8_fishersWithSharedNames 18 = .ok (.aload_n 0, 1) := by decide +kernel
theorem dX8_fishersWithSharedNames_19 : decode cX8_fishersWithSharedNames 19 = .ok (.iload_n 2, 1) := by decide +kernel
theorem dX8_fishersWithSharedNames_20 : decode cX8_fishersWithSharedNames 20 = .ok (.iload_n 3, 1) := by decide +kernel
theorem dX8_fishersWithSharedNames_21 : decode cX8_fishersWithSharedNames 21 = .ok (.invokestatic 98, 3) := by decide +kernel
theorem dX8_fishersWithSharedNames_24 : decode cX8_fishersWithSharedNames 24 = .ok (.ifCond .eq 13, 3) := by decide +kernel
theorem dX8_fishersWithSharedNames_27 : decode cX8_fishersWithSharedNames 27 = .ok (.iload_n 1, 1) := by decide +kernel
theorem dX8_fishersWithSharedNames_28 : decode cX8_fishersWithSharedNames 28 = .ok (.iconst 1, 1) := by decide +kernel
theorem dX8_fishersWithSharedNames_29 : decode cX8_fishersWithSharedNames 29 = .ok (.iload_n 2, 1) := by decide +kernel
theorem dX8_fishersWithSharedNames_30 : decode cX8_fishersWithSharedNames 30 = .ok (.ishl, 1) := by decide +kernel
theorem dX8_fishersWithSharedNames_31 : decode cX8_fishersWithSharedNames 31 = .ok (.iconst 1, 1) := by decide +kernel
theorem dX8_fishersWithSharedNames_32 : decode cX8_fishersWithSharedNames 32 = .ok (.iload_n 3, 1) := by decide +kernel
theorem dX8_fishersWithSharedNames_33 : decode cX8_fishersWithSharedNames 33 = .ok (.ishl, 1) := by decide +kernel
theorem dX8_fishersWithSharedNames_34 : decode cX8_fishersWithSharedNames 34 = .ok (.ior, 1) := by decide +kernel
theorem dX8_fishersWithSharedNames_35 : decode cX8_fishersWithSharedNames 35 = .ok (.ior, 1) := by decide +kernel
theorem dX8_fishersWithSharedNames_36 : decode cX8_fishersWithSharedNames 36 = .ok (.istore_n 1, 1) := by decide +kernel
theorem dX8_fishersWithSharedNames_37 : decode cX8_fishersWithSharedNames 37 = .ok (.iinc 3 1, 3) := by decide +kernel
theorem dX8_fishersWithSharedNames_40 : decode cX8_fishersWithSharedNames 40 = .ok (.goto (-27), 3) := by decide +kernel
theorem dX8_fishersWithSharedNames_43 : decode cX8_fishersWithSharedNames 43 = .ok (.iinc 2 1, 3) := by decide +kernel
theorem dX8_fishersWithSharedNames_46 : decode cX8_fishersWithSharedNames 46 = .ok (.goto (-42), 3) := by decide +kernel
theorem dX8_fishersWithSharedNames_49 : decode cX8_fishersWithSharedNames 49 = .ok (.iload_n 1, 1) := by decide +kernel
theorem dX8_fishersWithSharedNames_50 : decode cX8_fishersWithSharedNames 50 = .ok (.ireturn, 1) := by decide +kernel
theorem dX8_share_0 : decode cX8_share 0 = .ok (.aload_n 0, 1) := by decide +kernel
theorem dX8_share_1 : decode cX8_share 1 = .ok (.iload_n 1, 1) := by decide +kernel
theorem dX8_share_2 : decode cX8_share 2 = .ok (.invokevirtual 9, 3) := by decide +kernel
theorem dX8_share_5 : decode cX8_share 5 = .ok (.istore_n 3, 1) := by decide +kernel
theorem dX8_share_6 : decode cX8_share 6 = .ok (.aload_n 0, 1) := by decide +kernel
theorem dX8_share_7 : decode cX8_share 7 = .ok (.iload_n 2, 1) := by decide +kernel
theorem dX8_share_8 : decode cX8_share 8 = .ok (.invokevirtual 9, 3) := by decide +kernel
theorem dX8_share_11 : decode cX8_share 11 = .ok (.istore 4, 2) := by decide +kernel
theorem dX8_share_13 : decode cX8_share 13 = .ok (.iconst 0, 1) := by decide +kernel
theorem dX8_share_14 : decode cX8_share 14 = .ok (.istore 5, 2) := by decide +kernel
theorem dX8_share_16 : decode cX8_share 16 = .ok (.iload 5, 2) := by decide +kernel
theorem dX8_share_18 : decode cX8_share 18 = .ok (.iload_n 3, 1) := by decide +kernel
theorem dX8_share_19 : decode cX8_share 19 = .ok (.if_icmp .ge 40, 3) := by decide +kernel
theorem dX8_share_22 : decode cX8_share 22 = .ok (.iconst 0, 1) := by decide +kernel
theorem dX8_share_23 : decode cX8_share 23 = .ok (.istore 6, 2) := by decide +kernel
theorem dX8_share_25 : decode cX8_share 25 = .ok (.iload 6, 2) := by decide +kernel
theorem dX8_share_27 : decode cX8_share 27 = .ok (.iload 4, 2) := by decide +kernel
theorem dX8_share_29 : decode cX8_share 29 = .ok (.if_icmp .ge 24, 3) := by decide +kernel
theorem dX8_share_32 : decode cX8_share 32 = .ok (.aload_n 0, 1) := by decide +kernel
theorem dX8_share_33 : decode cX8_share 33 = .ok (.iload_n 1, 1) := by decide +kernel
theorem dX8_share_34 : decode cX8_share 34 = .ok (.iload 5, 2) := by decide +kernel
theorem dX8_share_36 : decode cX8_share 36 = .ok (.iload_n 2, 1) := by decide +kernel
theorem dX8_share_37 : decode cX8_share 37 = .ok (.iload 6, 2) := by decide +kernel
theorem dX8_share_39 : decode cX8_share 39 = .ok (.invokestatic 102, 3) := by decide +kernel
theorem dX8_share_42 : decode cX8_share 42 = .ok (.ifCond .eq 5, 3) := by decide +kernel
theorem dX8_share_45 : decode cX8_share 45 = .ok (.iconst 1, 1) := by decide +kernel
theorem dX8_share_46 : decode cX8_share 46 = .ok (.ireturn, 1) := by decide +kernel
theorem dX8_share_47 : decode cX8_share 47 = .ok (.iinc 6 1, 3) := by decide +kernel
theorem dX8_share_50 : decode cX8_share 50 = .ok (.goto (-25), 3) := by decide +kernel
theorem dX8_share_53 : decode cX8_share 53 = .ok (.iinc 5 1, 3) := by decide +kernel
theorem dX8_share_56 : decode cX8_share 56 = .ok (.goto (-40), 3) := by decide +kernel
theorem dX8_share_59 : decode cX8_share 59 = .ok (.iconst 0, 1) := by decide +kernel
theorem dX8_share_60 : decode cX8_share 60 = .ok (.ireturn, 1) := by decide +kernel
theorem dX8_readAlike_0 : decode cX8_readAlike 0 = .ok (.aload_n 0, 1) := by decide +kernel
theorem dX8_readAlike_1 : decode cX8_readAlike 1 = .ok (.iload_n 1, 1) := by decide +kernel
theorem dX8_readAlike_2 : decode cX8_readAlike 2 = .ok (.iload_n 2, 1) := by decide +kernel
theorem dX8_readAlike_3 : decode cX8_readAlike 3 = .ok (.invokevirtual 21, 3) := by decide +kernel
theorem dX8_readAlike_6 : decode cX8_readAlike 6 = .ok (.istore 5, 2) := by decide +kernel
theorem dX8_readAlike_8 : decode cX8_readAlike 8 = .ok (.iload 5, 2) := by decide +kernel
theorem dX8_readAlike_10 : decode cX8_readAlike 10 = .ok (.aload_n 0, 1) := by decide +kernel
theorem dX8_readAlike_11 : decode cX8_readAlike 11 = .ok (.iload_n 3, 1) := by decide +kernel
theorem dX8_readAlike_12 : decode cX8_readAlike 12 = .ok (.iload 4, 2) := by decide +kernel
theorem dX8_readAlike_14 : decode cX8_readAlike 14 = .ok (.invokevirtual 21, 3) := by decide +kernel
theorem dX8_readAlike_17 : decode cX8_readAlike 17 = .ok (.if_icmp .eq 5, 3) := by decide +kernel
theorem dX8_readAlike_20 : decode cX8_readAlike 20 = .ok (.iconst 0, 1) := by decide +kernel
theorem dX8_readAlike_21 : decode cX8_readAlike 21 = .ok (.ireturn, 1) := by decide +kernel
theorem dX8_readAlike_22 : decode cX8_readAlike 22 = .ok (.iconst 0, 1) := by decide +kernel
theorem dX8_readAlike_23 : decode cX8_readAlike 23 = .ok (.istore 6, 2) := by decide +kernel
theorem dX8_readAlike_25 : decode cX8_readAlike 25 = .ok (.iload 6, 2) := by decide +kernel
theorem dX8_readAlike_27 : decode cX8_readAlike 27 = .ok (.iload 5, 2) := by decide +kernel
theorem dX8_readAlike_29 : decode cX8_readAlike 29 = .ok (.if_icmp .ge 31, 3) := by decide +kernel
theorem dX8_readAlike_32 : decode cX8_readAlike 32 = .ok (.aload_n 0, 1) := by decide +kernel
theorem dX8_readAlike_33 : decode cX8_readAlike 33 = .ok (.iload_n 1, 1) := by decide +kernel
theorem dX8_readAlike_34 : decode cX8_readAlike 34 = .ok (.iload_n 2, 1) := by decide +kernel
theorem dX8_readAlike_35 : decode cX8_readAlike 35 = .ok (.iload 6, 2) := by decide +kernel
theorem dX8_readAlike_37 : decode cX8_readAlike 37 = .ok (.invokevirtual 58, 3) := by decide +kernel
theorem dX8_readAlike_40 : decode cX8_readAlike 40 = .ok (.aload_n 0, 1) := by decide +kernel
theorem dX8_readAlike_41 : decode cX8_readAlike 41 = .ok (.iload_n 3, 1) := by decide +kernel
theorem dX8_readAlike_42 : decode cX8_readAlike 42 = .ok (.iload 4, 2) := by decide +kernel
theorem dX8_readAlike_44 : decode cX8_readAlike 44 = .ok (.iload 6, 2) := by decide +kernel
theorem dX8_readAlike_46 : decode cX8_readAlike 46 = .ok (.invokevirtual 58, 3) := by decide +kernel
theorem dX8_readAlike_49 : decode cX8_readAlike 49 = .ok (.if_icmp .eq 5, 3) := by decide +kernel
theorem dX8_readAlike_52 : decode cX8_readAlike 52 = .ok (.iconst 0, 1) := by decide +kernel
theorem dX8_readAlike_53 : decode cX8_readAlike 53 = .ok (.ireturn, 1) := by decide +kernel
theorem dX8_readAlike_54 : decode cX8_readAlike 54 = .ok (.iinc 6 1, 3) := by decide +kernel
theorem dX8_readAlike_57 : decode cX8_readAlike 57 = .ok (.goto (-32), 3) := by decide +kernel
theorem dX8_readAlike_60 : decode cX8_readAlike 60 = .ok (.iconst 1, 1) := by decide +kernel
theorem dX8_readAlike_61 : decode cX8_readAlike 61 = .ok (.ireturn, 1) := by decide +kernel
theorem dX8_codeOfBelt_0 : decode cX8_codeOfBelt 0 = .ok (.aload_n 0, 1) := by decide +kernel
theorem dX8_codeOfBelt_1 : decode cX8_codeOfBelt 1 = .ok (.iload_n 1, 1) := by decide +kernel
theorem dX8_codeOfBelt_2 : decode cX8_codeOfBelt 2 = .ok (.invokevirtual 9, 3) := by decide +kernel
theorem dX8_codeOfBelt_5 : decode cX8_codeOfBelt 5 = .ok (.istore_n 3, 1) := by decide +kernel
theorem dX8_codeOfBelt_6 : decode cX8_codeOfBelt 6 = .ok (.iconst 0, 1) := by decide +kernel
theorem dX8_codeOfBelt_7 : decode cX8_codeOfBelt 7 = .ok (.istore 4, 2) := by decide +kernel
theorem dX8_codeOfBelt_9 : decode cX8_codeOfBelt 9 = .ok (.iconst 0, 1) := by decide +kernel
theorem dX8_codeOfBelt_10 : decode cX8_codeOfBelt 10 = .ok (.istore 5, 2) := by decide +kernel
theorem dX8_codeOfBelt_12 : decode cX8_codeOfBelt 12 = .ok (.iload 5, 2) := by decide +kernel
theorem dX8_codeOfBelt_14 : decode cX8_codeOfBelt 14 = .ok (.iload_n 3, 1) := by decide +kernel
theorem dX8_codeOfBelt_15 : decode cX8_codeOfBelt 15 = .ok (.if_icmp .ge 75, 3) := by decide +kernel
theorem dX8_codeOfBelt_18 : decode cX8_codeOfBelt 18 = .ok (.iload_n 2, 1) := by decide +kernel
theorem dX8_codeOfBelt_19 : decode cX8_codeOfBelt 19 = .ok (.iload 4, 2) := by decide +kernel
theorem dX8_codeOfBelt_21 : decode cX8_codeOfBelt 21 = .ok (.isub, 1) := by decide +kernel
theorem dX8_codeOfBelt_22 : decode cX8_codeOfBelt 22 = .ok (.istore 6, 2) := by decide +kernel
theorem dX8_codeOfBelt_24 : decode cX8_codeOfBelt 24 = .ok (.aload_n 0, 1) := by decide +kernel
theorem dX8_codeOfBelt_25 : decode cX8_codeOfBelt 25 = .ok (.iload_n 1, 1) := by decide +kernel
theorem dX8_codeOfBelt_26 : decode cX8_codeOfBelt 26 = .ok (.iload 5, 2) := by decide +kernel
theorem dX8_codeOfBelt_28 : decode cX8_codeOfBelt 28 = .ok (.invokevirtual 21, 3) := by decide +kernel
theorem dX8_codeOfBelt_31 : decode cX8_codeOfBelt 31 = .ok (.istore 7, 2) := by decide +kernel
theorem dX8_codeOfBelt_33 : decode cX8_codeOfBelt 33 = .ok (.iload 6, 2) := by decide +kernel
theorem dX8_codeOfBelt_35 : decode cX8_codeOfBelt 35 = .ok (.iload 7, 2) := by decide +kernel
theorem dX8_codeOfBelt_37 : decode cX8_codeOfBelt 37 = .ok (.if_icmp .ge 16, 3) := by decide +kernel
theorem dX8_codeOfBelt_40 : decode cX8_codeOfBelt 40 = .ok (.aload_n 0, 1) := by decide +kernel
theorem dX8_codeOfBelt_41 : decode cX8_codeOfBelt 41 = .ok (.iload_n 1, 1) := by decide +kernel
theorem dX8_codeOfBelt_42 : decode cX8_codeOfBelt 42 = .ok (.iload 5, 2) := by decide +kernel
theorem dX8_codeOfBelt_44 : decode cX8_codeOfBelt 44 = .ok (.iload 6, 2) := by decide +kernel
theorem dX8_codeOfBelt_46 : decode cX8_codeOfBelt 46 = .ok (.invokevirtual 58, 3) := by decide +kernel
theorem dX8_codeOfBelt_49 : decode cX8_codeOfBelt 49 = .ok (.invokestatic 106, 3) := by decide +kernel
theorem dX8_codeOfBelt_52 : decode cX8_codeOfBelt 52 = .ok (.ireturn, 1) := by decide +kernel
theorem dX8_codeOfBelt_53 : decode cX8_codeOfBelt 53 = .ok (.iload 6, 2) := by decide +kernel
theorem dX8_codeOfBelt_55 : decode cX8_codeOfBelt 55 = .ok (.iload 7, 2) := by decide +kernel
theorem dX8_codeOfBelt_57 : decode cX8_codeOfBelt 57 = .ok (.if_icmp .ne 18, 3) := by decide +kernel
theorem dX8_codeOfBelt_60 : decode cX8_codeOfBelt 60 = .ok (.iload 5, 2) := by decide +kernel
theorem dX8_codeOfBelt_62 : decode cX8_codeOfBelt 62 = .ok (.iconst 1, 1) := by decide +kernel
theorem dX8_codeOfBelt_63 : decode cX8_codeOfBelt 63 = .ok (.iadd, 1) := by decide +kernel
theorem dX8_codeOfBelt_64 : decode cX8_codeOfBelt 64 = .ok (.iload_n 3, 1) := by decide +kernel
theorem dX8_codeOfBelt_65 : decode cX8_codeOfBelt 65 = .ok (.if_icmp .ge 8, 3) := by decide +kernel
theorem dX8_codeOfBelt_68 : decode cX8_codeOfBelt 68 = .ok (.bipush 45, 2) := by decide +kernel
theorem dX8_codeOfBelt_70 : decode cX8_codeOfBelt 70 = .ok (.goto 4, 3) := by decide +kernel
theorem dX8_codeOfBelt_73 : decode cX8_codeOfBelt 73 = .ok (.iconst (-1), 1) := by decide +kernel
theorem dX8_codeOfBelt_74 : decode cX8_codeOfBelt 74 = .ok (.ireturn, 1) := by decide +kernel
theorem dX8_codeOfBelt_75 : decode cX8_codeOfBelt 75 = .ok (.iload 4, 2) := by decide +kernel
theorem dX8_codeOfBelt_77 : decode cX8_codeOfBelt 77 = .ok (.iload 7, 2) := by decide +kernel
theorem dX8_codeOfBelt_79 : decode cX8_codeOfBelt 79 = .ok (.iconst 1, 1) := by decide +kernel
theorem dX8_codeOfBelt_80 : decode cX8_codeOfBelt 80 = .ok (.iadd, 1) := by decide +kernel
theorem dX8_codeOfBelt_81 : decode cX8_codeOfBelt 81 = .ok (.iadd, 1) := by decide +kernel
theorem dX8_codeOfBelt_82 : decode cX8_codeOfBelt 82 = .ok (.istore 4, 2) := by decide +kernel
theorem dX8_codeOfBelt_84 : decode cX8_codeOfBelt 84 = .ok (.iinc 5 1, 3) := by decide +kernel
theorem dX8_codeOfBelt_87 : decode cX8_codeOfBelt 87 = .ok (.goto (-75), 3) := by decide +kernel
theorem dX8_codeOfBelt_90 : decode cX8_codeOfBelt 90 = .ok (.iconst (-1), 1) := by decide +kernel
theorem dX8_codeOfBelt_91 : decode cX8_codeOfBelt 91 = .ok (.ireturn, 1) := by decide +kernel
theorem dX8_shareThatReadsTrue_0 : decode cX8_shareThatReadsTrue 0 = .ok (.aload_n 0, 1) := by decide +kernel
theorem dX8_shareThatReadsTrue_1 : decode cX8_shareThatReadsTrue 1 = .ok (.iconst 0, 1) := by decide +kernel
theorem dX8_shareThatReadsTrue_2 : decode cX8_shareThatReadsTrue 2 = .ok (.iconst (-1), 1) := by decide +kernel
theorem dX8_shareThatReadsTrue_3 : decode cX8_shareThatReadsTrue 3 = .ok (.invokestatic 54, 3) := by decide +kernel
theorem dX8_shareThatReadsTrue_6 : decode cX8_shareThatReadsTrue 6 = .ok (.istore_n 1, 1) := by decide +kernel
theorem dX8_shareThatReadsTrue_7 : decode cX8_shareThatReadsTrue 7 = .ok (.aload_n 0, 1) := by decide +kernel
theorem dX8_shareThatReadsTrue_8 : decode cX8_shareThatReadsTrue 8 = .ok (.iconst 1, 1) := by decide +kernel
theorem dX8_shareThatReadsTrue_9 : decode cX8_shareThatReadsTrue 9 = .ok (.iconst (-1), 1) := by decide +kernel
theorem dX8_shareThatReadsTrue_10 : decode cX8_shareThatReadsTrue 10 = .ok (.invokestatic 54, 3) := by decide +kernel
theorem dX8_shareThatReadsTrue_13 : decode cX8_shareThatReadsTrue 13 = .ok (.istore_n 2, 1) := by decide +kernel
theorem dX8_shareThatReadsTrue_14 : decode cX8_shareThatReadsTrue 14 = .ok (.iload_n 1, 1) := by decide +kernel
theorem dX8_shareThatReadsTrue_15 : decode cX8_shareThatReadsTrue 15 = .ok (.ifCond .ne 7, 3) := by decide +kernel
theorem dX8_shareThatReadsTrue_18 : decode cX8_shareThatReadsTrue 18 = .ok (.dconst 1, 1) := by decide +kernel
theorem dX8_shareThatReadsTrue_19 : decode cX8_shareThatReadsTrue 19 = .ok (.goto 10, 3) := by decide +kernel
theorem dX8_shareThatReadsTrue_22 : decode cX8_shareThatReadsTrue 22 = .ok (.iload_n 1, 1) := by decide +kernel
theorem dX8_shareThatReadsTrue_23 : decode cX8_shareThatReadsTrue 23 = .ok (.iload_n 2, 1) := by decide +kernel
theorem dX8_shareThatReadsTrue_24 : decode cX8_shareThatReadsTrue 24 = .ok (.isub, 1) := by decide +kernel
theorem dX8_shareThatReadsTrue_25 : decode cX8_shareThatReadsTrue 25 = .ok (.i2d, 1) := by decide +kernel
theorem dX8_shareThatReadsTrue_26 : decode cX8_shareThatReadsTrue 26 = .ok (.iload_n 1, 1) := by decide +kernel
theorem dX8_shareThatReadsTrue_27 : decode cX8_shareThatReadsTrue 27 = .ok (.i2d, 1) := by decide +kernel
theorem dX8_shareThatReadsTrue_28 : decode cX8_shareThatReadsTrue 28 = .ok (.ddiv, 1) := by decide +kernel
theorem dX8_shareThatReadsTrue_29 : decode cX8_shareThatReadsTrue 29 = .ok (.dreturn, 1) := by decide +kernel
theorem dX9_init_0 : decode cX9_init 0 = .ok (.aload_n 0, 1) := by decide +kernel
theorem dX9_init_1 : decode cX9_init 1 = .ok (.invokespecial 3, 3) := by decide +kernel
theorem dX9_init_4 : decode cX9_init 4 = .ok (.aload_n 0, 1) := by decide +kernel
theorem dX9_init_5 : decode cX9_init 5 = .ok (.bipush 8, 2) := by decide +kernel
theorem dX9_init_7 : decode cX9_init 7 = .ok (.newarray .int, 2) := by decide +kernel
theorem dX9_init_9 : decode cX9_init 9 = .ok (.putfield 9, 3) := by decide +kernel
theorem dX9_init_12 : decode cX9_init 12 = .ok (.aload_n 0, 1) := by decide +kernel
theorem dX9_init_13 : decode cX9_init 13 = .ok (.iconst 0, 1) := by decide +kernel
theorem dX9_init_14 : decode cX9_init 14 = .ok (.putfield 15, 3) := by decide +kernel
theorem dX9_init_17 : decode cX9_init 17 = .ok (.return_, 1) := by decide +kernel
theorem dX9_empty_0 : decode cX9_empty 0 = .ok (.aload_n 0, 1) := by decide +kernel
theorem dX9_empty_1 : decode cX9_empty 1 = .ok (.iconst 0, 1) := by decide +kernel
theorem dX9_empty_2 : decode cX9_empty 2 = .ok (.putfield 15, 3) := by decide +kernel
theorem dX9_empty_5 : decode cX9_empty 5 = .ok (.return_, 1) := by decide +kernel
theorem dX9_add_0 : decode cX9_add 0 = .ok (.aload_n 0, 1) := by decide +kernel
theorem dX9_add_1 : decode cX9_add 1 = .ok (.getfield 15, 3) := by decide +kernel
theorem dX9_add_4 : decode cX9_add 4 = .ok (.ifCond .lt 35, 3) := by decide +kernel
theorem dX9_add_7 : decode cX9_add 7 = .ok (.aload_n 0, 1) := by decide +kernel
theorem dX9_add_8 : decode cX9_add 8 = .ok (.getfield 15, 3) := by decide +kernel
theorem dX9_add_11 : decode cX9_add 11 = .ok (.aload_n 0, 1) := by decide +kernel
theorem dX9_add_12 : decode cX9_add 12 = .ok (.getfield 9, 3) := by decide +kernel
theorem dX9_add_15 : decode cX9_add 15 = .ok (.arraylength, 1) := by decide +kernel
theorem dX9_add_16 : decode cX9_add 16 = .ok (.if_icmp .ge 23, 3) := by decide +kernel
theorem dX9_add_19 : decode cX9_add 19 = .ok (.aload_n 0, 1) := by decide +kernel
theorem dX9_add_20 : decode cX9_add 20 = .ok (.getfield 9, 3) := by decide +kernel
theorem dX9_add_23 : decode cX9_add 23 = .ok (.aload_n 0, 1) := by decide +kernel
theorem dX9_add_24 : decode cX9_add 24 = .ok (.getfield 15, 3) := by decide +kernel
theorem dX9_add_27 : decode cX9_add 27 = .ok (.iload_n 1, 1) := by decide +kernel
theorem dX9_add_28 : decode cX9_add 28 = .ok (.iastore, 1) := by decide +kernel
theorem dX9_add_29 : decode cX9_add 29 = .ok (.aload_n 0, 1) := by decide +kernel
theorem dX9_add_30 : decode cX9_add 30 = .ok (.dup, 1) := by decide +kernel
theorem dX9_add_31 : decode cX9_add 31 = .ok (.getfield 15, 3) := by decide +kernel
theorem dX9_add_34 : decode cX9_add 34 = .ok (.iconst 1, 1) := by decide +kernel
theorem dX9_add_35 : decode cX9_add 35 = .ok (.iadd, 1) := by decide +kernel
theorem dX9_add_36 : decode cX9_add 36 = .ok (.putfield 15, 3) := by decide +kernel
theorem dX9_add_39 : decode cX9_add 39 = .ok (.return_, 1) := by decide +kernel
theorem dX9_size_0 : decode cX9_size 0 = .ok (.aload_n 0, 1) := by decide +kernel
theorem dX9_size_1 : decode cX9_size 1 = .ok (.getfield 15, 3) := by decide +kernel
theorem dX9_size_4 : decode cX9_size 4 = .ok (.ireturn, 1) := by decide +kernel
theorem dX9_at_0 : decode cX9_at 0 = .ok (.iload_n 1, 1) := by decide +kernel
theorem dX9_at_1 : decode cX9_at 1 = .ok (.ifCond .lt 21, 3) := by decide +kernel
theorem dX9_at_4 : decode cX9_at 4 = .ok (.iload_n 1, 1) := by decide +kernel
theorem dX9_at_5 : decode cX9_at 5 = .ok (.aload_n 0, 1) := by decide +kernel
theorem dX9_at_6 : decode cX9_at 6 = .ok (.getfield 9, 3) := by decide +kernel
theorem dX9_at_9 : decode cX9_at 9 = .ok (.arraylength, 1) := by decide +kernel
theorem dX9_at_10 : decode cX9_at 10 = .ok (.if_icmp .ge 12, 3) := by decide +kernel
theorem dX9_at_13 : decode cX9_at 13 = .ok (.aload_n 0, 1) := by decide +kernel
theorem dX9_at_14 : decode cX9_at 14 = .ok (.getfield 9, 3) := by decide +kernel
theorem dX9_at_17 : decode cX9_at 17 = .ok (.iload_n 1, 1) := by decide +kernel
theorem dX9_at_18 : decode cX9_at 18 = .ok (.iaload, 1) := by decide +kernel
theorem dX9_at_19 : decode cX9_at 19 = .ok (.goto 4, 3) := by decide +kernel
theorem dX9_at_22 : decode cX9_at 22 = .ok (.iconst (-1), 1) := by decide +kernel
theorem dX9_at_23 : decode cX9_at 23 = .ok (.ireturn, 1) := by decide +kernel
theorem dX9_cord_0 : decode cX9_cord 0 = .ok (.iconst 2, 1) := by decide +kernel
theorem dX9_cord_1 : decode cX9_cord 1 = .ok (.istore_n 1, 1) := by decide +kernel
theorem dX9_cord_2 : decode cX9_cord 2 = .ok (.iconst 0, 1) := by decide +kernel
theorem dX9_cord_3 : decode cX9_cord 3 = .ok (.istore_n 2, 1) := by decide +kernel
theorem dX9_cord_4 : decode cX9_cord 4 = .ok (.iload_n 2, 1) := by decide +kernel
theorem dX9_cord_5 : decode cX9_cord 5 = .ok (.aload_n 0, 1) := by decide +kernel
theorem dX9_cord_6 : decode cX9_cord 6 = .ok (.getfield 15, 3) := by decide +kernel
theorem dX9_cord_9 : decode cX9_cord 9 = .ok (.if_icmp .ge 22, 3) := by decide +kernel
theorem dX9_cord_12 : decode cX9_cord 12 = .ok (.iload_n 1, 1) := by decide +kernel
theorem dX9_cord_13 : decode cX9_cord 13 = .ok (.aload_n 0, 1) := by decide +kernel
theorem dX9_cord_14 : decode cX9_cord 14 = .ok (.iload_n 2, 1) := by decide +kernel
theorem dX9_cord_15 : decode cX9_cord 15 = .ok (.invokevirtual 19, 3) := by decide +kernel
theorem dX9_cord_18 : decode cX9_cord 18 = .ok (.invokestatic 23, 3) := by decide +kernel
theorem dX9_cord_21 : decode cX9_cord 21 = .ok (.iconst 1, 1) := by decide +kernel
theorem dX9_cord_22 : decode cX9_cord 22 = .ok (.iadd, 1) := by decide +kernel
theorem dX9_cord_23 : decode cX9_cord 23 = .ok (.iadd, 1) := by decide +kernel
theorem dX9_cord_24 : decode cX9_cord 24 = .ok (.istore_n 1, 1) := by decide +kernel
theorem dX9_cord_25 : decode cX9_cord 25 = .ok (.iinc 2 1, 3) := by decide +kernel
theorem dX9_cord_28 : decode cX9_cord 28 = .ok (.goto (-24), 3) := by decide +kernel
theorem dX9_cord_31 : decode cX9_cord 31 = .ok (.iload_n 1, 1) := by decide +kernel
theorem dX9_cord_32 : decode cX9_cord 32 = .ok (.ireturn, 1) := by decide +kernel
theorem dX10_init_0 : decode cX10_init 0 = .ok (.aload_n 0, 1) := by decide +kernel
theorem dX10_init_1 : decode cX10_init 1 = .ok (.invokespecial 3, 3) := by decide +kernel
theorem dX10_init_4 : decode cX10_init 4 = .ok (.aload_n 0, 1) := by decide +kernel
theorem dX10_init_5 : decode cX10_init 5 = .ok (.new 9, 3) := by decide +kernel
theorem dX10_init_8 : decode cX10_init 8 = .ok (.dup, 1) := by decide +kernel
theorem dX10_init_9 : decode cX10_init 9 = .ok (.invokespecial 11, 3) := by decide +kernel
theorem dX10_init_12 : decode cX10_init 12 = .ok (.putfield 12, 3) := by decide +kernel
theorem dX10_init_15 : decode cX10_init 15 = .ok (.aload_n 0, 1) := by decide +kernel
theorem dX10_init_16 : decode cX10_init 16 = .ok (.new 16, 3) := by decide +kernel
theorem dX10_init_19 : decode cX10_init 19 = .ok (.dup, 1) := by decide +kernel
theorem dX10_init_20 : decode cX10_init 20 = .ok (.invokespecial 18, 3) := by decide +kernel
theorem dX10_init_23 : decode cX10_init 23 = .ok (.putfield 19, 3) := by decide +kernel
theorem dX10_init_26 : decode cX10_init 26 = .ok (.aload_n 0, 1) := by decide +kernel
theorem dX10_init_27 : decode cX10_init 27 = .ok (.new 23, 3) := by decide +kernel
theorem dX10_init_30 : decode cX10_init 30 = .ok (.dup, 1) := by decide +kernel
theorem dX10_init_31 : decode cX10_init 31 = .ok (.invokespecial 25, 3) := by decide +kernel
theorem dX10_init_34 : decode cX10_init 34 = .ok (.putfield 26, 3) := by decide +kernel
theorem dX10_init_37 : decode cX10_init 37 = .ok (.aload_n 0, 1) := by decide +kernel
theorem dX10_init_38 : decode cX10_init 38 = .ok (.new 30, 3) := by decide +kernel
theorem dX10_init_41 : decode cX10_init 41 = .ok (.dup, 1) := by decide +kernel
theorem dX10_init_42 : decode cX10_init 42 = .ok (.invokespecial 32, 3) := by decide +kernel
theorem dX10_init_45 : decode cX10_init 45 = .ok (.putfield 33, 3) := by decide +kernel
theorem dX10_init_48 : decode cX10_init 48 = .ok (.aload_n 0, 1) := by decide +kernel
theorem dX10_init_49 : decode cX10_init 49 = .ok (.new 37, 3) := by decide +kernel
theorem dX10_init_52 : decode cX10_init 52 = .ok (.dup, 1) := by decide +kernel
theorem dX10_init_53 : decode cX10_init 53 = .ok (.invokespecial 39, 3) := by decide +kernel
theorem dX10_init_56 : decode cX10_init 56 = .ok (.putfield 40, 3) := by decide +kernel
theorem dX10_init_59 : decode cX10_init 59 = .ok (.return_, 1) := by decide +kernel
theorem dX10_tie_0 : decode cX10_tie 0 = .ok (.iload_n 1, 1) := by decide +kernel
theorem dX10_tie_1 : decode cX10_tie 1 = .ok (.invokestatic 44, 3) := by decide +kernel
theorem dX10_tie_4 : decode cX10_tie 4 = .ok (.aload_n 0, 1) := by decide +kernel
theorem dX10_tie_5 : decode cX10_tie 5 = .ok (.invokevirtual 48, 3) := by decide +kernel
theorem dX10_tie_8 : decode cX10_tie 8 = .ok (.aload_n 0, 1) := by decide +kernel
theorem dX10_tie_9 : decode cX10_tie 9 = .ok (.getfield 12, 3) := by decide +kernel
theorem dX10_tie_12 : decode cX10_tie 12 = .ok (.aload_n 0, 1) := by decide +kernel
theorem dX10_tie_13 : decode cX10_tie 13 = .ok (.getfield 40, 3) := by decide +kernel
theorem dX10_tie_16 : decode cX10_tie 16 = .ok (.iload_n 1, 1) := by decide +kernel
theorem dX10_tie_17 : decode cX10_tie 17 = .ok (.invokestatic 51, 3) := by decide +kernel
theorem dX10_tie_20 : decode cX10_tie 20 = .ok (.ifCond .eq 13, 3) := by decide +kernel
theorem dX10_tie_23 : decode cX10_tie 23 = .ok (.new 57, 3) := by decide +kernel
theorem dX10_tie_26 : decode cX10_tie 26 = .ok (.dup, 1) := by decide +kernel
theorem dX10_tie_27 : decode cX10_tie 27 = .ok (.ldc 59, 2) := by decide +kernel
theorem dX10_tie_29 : decode cX10_tie 29 = .ok (.invokespecial 61, 3) := by decide +kernel
theorem dX10_tie_32 : decode cX10_tie 32 = .ok (.athrow, 1) := by decide +kernel
theorem dX10_tie_33 : decode cX10_tie 33 = .ok (.aload_n 0, 1) := by decide +kernel
theorem dX10_tie_34 : decode cX10_tie 34 = .ok (.getfield 19, 3) := by decide +kernel
theorem dX10_tie_37 : decode cX10_tie 37 = .ok (.aload_n 0, 1) := by decide +kernel
theorem dX10_tie_38 : decode cX10_tie 38 = .ok (.getfield 12, 3) := by decide +kernel
theorem dX10_tie_41 : decode cX10_tie 41 = .ok (.invokevirtual 64, 3) := by decide +kernel
theorem dX10_tie_44 : decode cX10_tie 44 = .ok (.aload_n 0, 1) := by decide +kernel
theorem dX10_tie_45 : decode cX10_tie 45 = .ok (.getfield 26, 3) := by decide +kernel
theorem dX10_tie_48 : decode cX10_tie 48 = .ok (.invokevirtual 68, 3) := by decide +kernel
theorem dX10_tie_51 : decode cX10_tie 51 = .ok (.pop, 1) := by decide +kernel
theorem dX10_tie_52 : decode cX10_tie 52 = .ok (.aload_n 0, 1) := by decide +kernel
theorem dX10_tie_53 : decode cX10_tie 53 = .ok (.getfield 12, 3) := by decide +kernel
theorem dX10_tie_56 : decode cX10_tie 56 = .ok (.aload_n 0, 1) := by decide +kernel
theorem dX10_tie_57 : decode cX10_tie 57 = .ok (.getfield 40, 3) := by decide +kernel
theorem dX10_tie_60 : decode cX10_tie 60 = .ok (.iload_n 1, 1) := by decide +kernel
theorem dX10_tie_61 : decode cX10_tie 61 = .ok (.invokestatic 72, 3) := by decide +kernel
theorem dX10_tie_64 : decode cX10_tie 64 = .ok (.ireturn, 1) := by decide +kernel
theorem dX10_cut_0 : decode cX10_cut 0 = .ok (.aload_n 0, 1) := by decide +kernel
theorem dX10_cut_1 : decode cX10_cut 1 = .ok (.iload_n 1, 1) := by decide +kernel
theorem dX10_cut_2 : decode cX10_cut 2 = .ok (.iload_n 2, 1) := by decide +kernel
theorem dX10_cut_3 : decode cX10_cut 3 = .ok (.invokevirtual 75, 3) := by decide +kernel
theorem dX10_cut_6 : decode cX10_cut 6 = .ok (.aload_n 0, 1) := by decide +kernel
theorem dX10_cut_7 : decode cX10_cut 7 = .ok (.getfield 19, 3) := by decide +kernel
theorem dX10_cut_10 : decode cX10_cut 10 = .ok (.aload_n 0, 1) := by decide +kernel
theorem dX10_cut_11 : decode cX10_cut 11 = .ok (.getfield 12, 3) := by decide +kernel
theorem dX10_cut_14 : decode cX10_cut 14 = .ok (.invokevirtual 64, 3) := by decide +kernel
theorem dX10_cut_17 : decode cX10_cut 17 = .ok (.aload_n 0, 1) := by decide +kernel
theorem dX10_cut_18 : decode cX10_cut 18 = .ok (.getfield 12, 3) := by decide +kernel
theorem dX10_cut_21 : decode cX10_cut 21 = .ok (.iload_n 1, 1) := by decide +kernel
theorem dX10_cut_22 : decode cX10_cut 22 = .ok (.iload_n 2, 1) := by decide +kernel
theorem dX10_cut_23 : decode cX10_cut 23 = .ok (.invokestatic 79, 3) := by decide +kernel
theorem dX10_cut_26 : decode cX10_cut 26 = .ok (.ireturn, 1) := by decide +kernel
theorem dX10_fast_0 : decode cX10_fast 0 = .ok (.aload_n 0, 1) := by decide +kernel
theorem dX10_fast_1 : decode cX10_fast 1 = .ok (.iload_n 1, 1) := by decide +kernel
theorem dX10_fast_2 : decode cX10_fast 2 = .ok (.iload_n 2, 1) := by decide +kernel
theorem dX10_fast_3 : decode cX10_fast 3 = .ok (.invokevirtual 75, 3) := by decide +kernel
theorem dX10_fast_6 : decode cX10_fast 6 = .ok (.aload_n 0, 1) := by decide +kernel
theorem dX10_fast_7 : decode cX10_fast 7 = .ok (.getfield 12, 3) := by decide +kernel
theorem dX10_fast_10 : decode cX10_fast 10 = .ok (.iload_n 1, 1) := by decide +kernel
theorem dX10_fast_11 : decode cX10_fast 11 = .ok (.iload_n 2, 1) := by decide +kernel
theorem dX10_fast_12 : decode cX10_fast 12 = .ok (.invokestatic 83, 3) := by decide +kernel
theorem dX10_fast_15 : decode cX10_fast 15 = .ok (.ifCond .eq 13, 3) := by decide +kernel
theorem dX10_fast_18 : decode cX10_fast 18 = .ok (.new 57, 3) := by decide +kernel
theorem dX10_fast_21 : decode cX10_fast 21 = .ok (.dup, 1) := by decide +kernel
theorem dX10_fast_22 : decode cX10_fast 22 = .ok (.ldc 86, 2) := by decide +kernel
theorem dX10_fast_24 : decode cX10_fast 24 = .ok (.invokespecial 61, 3) := by decide +kernel
theorem dX10_fast_27 : decode cX10_fast 27 = .ok (.athrow, 1) := by decide +kernel
theorem dX10_fast_28 : decode cX10_fast 28 = .ok (.aload_n 0, 1) := by decide +kernel
theorem dX10_fast_29 : decode cX10_fast 29 = .ok (.getfield 19, 3) := by decide +kernel
theorem dX10_fast_32 : decode cX10_fast 32 = .ok (.aload_n 0, 1) := by decide +kernel
theorem dX10_fast_33 : decode cX10_fast 33 = .ok (.getfield 12, 3) := by decide +kernel
theorem dX10_fast_36 : decode cX10_fast 36 = .ok (.invokevirtual 64, 3) := by decide +kernel
theorem dX10_fast_39 : decode cX10_fast 39 = .ok (.aload_n 0, 1) := by decide +kernel
theorem dX10_fast_40 : decode cX10_fast 40 = .ok (.getfield 12, 3) := by decide +kernel
theorem dX10_fast_43 : decode cX10_fast 43 = .ok (.iload_n 1, 1) := by decide +kernel
theorem dX10_fast_44 : decode cX10_fast 44 = .ok (.iload_n 2, 1) := by decide +kernel
theorem dX10_fast_45 : decode cX10_fast 45 = .ok (.invokestatic 88, 3) := by decide +kernel
theorem dX10_fast_48 : decode cX10_fast 48 = .ok (.ireturn, 1) := by decide +kernel
theorem dX10_give_0 : decode cX10_give 0 = .ok (.aload_n 0, 1) := by decide +kernel
theorem dX10_give_1 : decode cX10_give 1 = .ok (.iload_n 1, 1) := by decide +kernel
theorem dX10_give_2 : decode cX10_give 2 = .ok (.iload_n 2, 1) := by decide +kernel
theorem dX10_give_3 : decode cX10_give 3 = .ok (.invokevirtual 75, 3) := by decide +kernel
theorem dX10_give_6 : decode cX10_give 6 = .ok (.iload_n 3, 1) := by decide +kernel
theorem dX10_give_7 : decode cX10_give 7 = .ok (.invokestatic 44, 3) := by decide +kernel
theorem dX10_give_10 : decode cX10_give 10 = .ok (.aload_n 0, 1) := by decide +kernel
theorem dX10_give_11 : decode cX10_give 11 = .ok (.getfield 12, 3) := by decide +kernel
theorem dX10_give_14 : decode cX10_give 14 = .ok (.aload_n 0, 1) := by decide +kernel
theorem dX10_give_15 : decode cX10_give 15 = .ok (.getfield 40, 3) := by decide +kernel
theorem dX10_give_18 : decode cX10_give 18 = .ok (.iload_n 1, 1) := by decide +kernel
theorem dX10_give_19 : decode cX10_give 19 = .ok (.iload_n 2, 1) := by decide +kernel
theorem dX10_give_20 : decode cX10_give 20 = .ok (.iload_n 3, 1) := by decide +kernel
theorem dX10_give_21 : decode cX10_give 21 = .ok (.invokestatic 91, 3) := by decide +kernel
theorem dX10_give_24 : decode cX10_give 24 = .ok (.ifCond .eq 13, 3) := by decide +kernel
theorem dX10_give_27 : decode cX10_give 27 = .ok (.new 57, 3) := by decide +kernel
theorem dX10_give_30 : decode cX10_give 30 = .ok (.dup, 1) := by decide +kernel
theorem dX10_give_31 : decode cX10_give 31 = .ok (.ldc 95, 2) := by decide +kernel
theorem dX10_give_33 : decode cX10_give 33 = .ok (.invokespecial 61, 3) := by decide +kernel
theorem dX10_give_36 : decode cX10_give 36 = .ok (.athrow, 1) := by decide +kernel
theorem dX10_give_37 : decode cX10_give 37 = .ok (.aload_n 0, 1) := by decide +kernel
theorem dX10_give_38 : decode cX10_give 38 = .ok (.getfield 19, 3) := by decide +kernel
theorem dX10_give_41 : decode cX10_give 41 = .ok (.aload_n 0, 1) := by decide +kernel
theorem dX10_give_42 : decode cX10_give 42 = .ok (.getfield 12, 3) := by decide +kernel
theorem dX10_give_45 : decode cX10_give 45 = .ok (.invokevirtual 64, 3) := by decide +kernel
theorem dX10_give_48 : decode cX10_give 48 = .ok (.aload_n 0, 1) := by decide +kernel
theorem dX10_give_49 : decode cX10_give 49 = .ok (.getfield 12, 3) := by decide +kernel
theorem dX10_give_52 : decode cX10_give 52 = .ok (.aload_n 0, 1) := by decide +kernel
theorem dX10_give_53 : decode cX10_give 53 = .ok (.getfield 40, 3) := by decide +kernel
theorem dX10_give_56 : decode cX10_give 56 = .ok (.iload_n 1, 1) := by decide +kernel
theorem dX10_give_57 : decode cX10_give 57 = .ok (.iload_n 2, 1) := by decide +kernel
theorem dX10_give_58 : decode cX10_give 58 = .ok (.iload_n 3, 1) := by decide +kernel
theorem dX10_give_59 : decode cX10_give 59 = .ok (.invokestatic 97, 3) := by decide +kernel
theorem dX10_give_62 : decode cX10_give 62 = .ok (.ireturn, 1) := by decide +kernel
theorem dX10_storm_0 : decode cX10_storm 0 = .ok (.iload_n 1, 1) := by decide +kernel
theorem dX10_storm_1 : decode cX10_storm 1 = .ok (.invokestatic 44, 3) := by decide +kernel
theorem dX10_storm_4 : decode cX10_storm 4 = .ok (.aload_n 0, 1) := by decide +kernel
theorem dX10_storm_5 : decode cX10_storm 5 = .ok (.getfield 19, 3) := by decide +kernel
theorem dX10_storm_8 : decode cX10_storm 8 = .ok (.aload_n 0, 1) := by decide +kernel
theorem dX10_storm_9 : decode cX10_storm 9 = .ok (.getfield 12, 3) := by decide +kernel
theorem dX10_storm_12 : decode cX10_storm 12 = .ok (.invokevirtual 64, 3) := by decide +kernel
theorem dX10_storm_15 : decode cX10_storm 15 = .ok (.aload_n 0, 1) := by decide +kernel
theorem dX10_storm_16 : decode cX10_storm 16 = .ok (.getfield 12, 3) := by decide +kernel
theorem dX10_storm_19 : decode cX10_storm 19 = .ok (.iload_n 1, 1) := by decide +kernel
theorem dX10_storm_20 : decode cX10_storm 20 = .ok (.invokestatic 100, 3) := by decide +kernel
theorem dX10_storm_23 : decode cX10_storm 23 = .ok (.ireturn, 1) := by decide +kernel
theorem dX10_belt_0 : decode cX10_belt 0 = .ok (.iload_n 1, 1) := by decide +kernel
theorem dX10_belt_1 : decode cX10_belt 1 = .ok (.invokestatic 44, 3) := by decide +kernel
theorem dX10_belt_4 : decode cX10_belt 4 = .ok (.iload_n 2, 1) := by decide +kernel
theorem dX10_belt_5 : decode cX10_belt 5 = .ok (.bipush 20, 2) := by decide +kernel
theorem dX10_belt_7 : decode cX10_belt 7 = .ok (.if_icmp .lt 9, 3) := by decide +kernel
theorem dX10_belt_10 : decode cX10_belt 10 = .ok (.iload_n 2, 1) := by decide +kernel
theorem dX10_belt_11 : decode cX10_belt 11 = .ok (.bipush 120, 2) := by decide +kernel
theorem dX10_belt_13 : decode cX10_belt 13 = .ok (.if_icmp .le 13, 3) := by decide +kernel
theorem dX10_belt_16 : decode cX10_belt 16 = .ok (.new 106, 3) := by decide +kernel
theorem dX10_belt_19 : decode cX10_belt 19 = .ok (.dup, 1) := by decide +kernel
theorem dX10_belt_20 : decode cX10_belt 20 = .ok (.ldc 108, 2) := by decide +kernel
theorem dX10_belt_22 : decode cX10_belt 22 = .ok (.invokespecial 110, 3) := by decide +kernel
theorem dX10_belt_25 : decode cX10_belt 25 = .ok (.athrow, 1) := by decide +kernel
theorem dX10_belt_26 : decode cX10_belt 26 = .ok (.aload_n 0, 1) := by decide +kernel
theorem dX10_belt_27 : decode cX10_belt 27 = .ok (.getfield 12, 3) := by decide +kernel
theorem dX10_belt_30 : decode cX10_belt 30 = .ok (.iload_n 1, 1) := by decide +kernel
theorem dX10_belt_31 : decode cX10_belt 31 = .ok (.iconst 0, 1) := by decide +kernel
theorem dX10_belt_32 : decode cX10_belt 32 = .ok (.invokestatic 111, 3) := by decide +kernel
theorem dX10_belt_35 : decode cX10_belt 35 = .ok (.invokevirtual 115, 3) := by decide +kernel
theorem dX10_belt_38 : decode cX10_belt 38 = .ok (.istore_n 3, 1) := by decide +kernel
theorem dX10_belt_39 : decode cX10_belt 39 = .ok (.iload_n 3, 1) := by decide +kernel
theorem dX10_belt_40 : decode cX10_belt 40 = .ok (.aload_n 0, 1) := by decide +kernel
theorem dX10_belt_41 : decode cX10_belt 41 = .ok (.getfield 12, 3) := by decide +kernel
theorem dX10_belt_44 : decode cX10_belt 44 = .ok (.iload_n 1, 1) := by decide +kernel
theorem dX10_belt_45 : decode cX10_belt 45 = .ok (.invokevirtual 119, 3) := by decide +kernel
theorem dX10_belt_48 : decode cX10_belt 48 = .ok (.isub, 1) := by decide +kernel
theorem dX10_belt_49 : decode cX10_belt 49 = .ok (.iload_n 2, 1) := by decide +kernel
theorem dX10_belt_50 : decode cX10_belt 50 = .ok (.if_icmp .le 13, 3) := by decide +kernel
theorem dX10_belt_53 : decode cX10_belt 53 = .ok (.new 57, 3) := by decide +kernel
theorem dX10_belt_56 : decode cX10_belt 56 = .ok (.dup, 1) := by decide +kernel
theorem dX10_belt_57 : decode cX10_belt 57 = .ok (.ldc 122, 2) := by decide +kernel
theorem dX10_belt_59 : decode cX10_belt 59 = .ok (.invokespecial 61, 3) := by decide +kernel
theorem dX10_belt_62 : decode cX10_belt 62 = .ok (.athrow, 1) := by decide +kernel
theorem dX10_belt_63 : decode cX10_belt 63 = .ok (.aload_n 0, 1) := by decide +kernel
theorem dX10_belt_64 : decode cX10_belt 64 = .ok (.getfield 19, 3) := by decide +kernel
theorem dX10_belt_67 : decode cX10_belt 67 = .ok (.aload_n 0, 1) := by decide +kernel
theorem dX10_belt_68 : decode cX10_belt 68 = .ok (.getfield 12, 3) := by decide +kernel
theorem dX10_belt_71 : decode cX10_belt 71 = .ok (.invokevirtual 64, 3) := by decide +kernel
theorem dX10_belt_74 : decode cX10_belt 74 = .ok (.aload_n 0, 1) := by decide +kernel
theorem dX10_belt_75 : decode cX10_belt 75 = .ok (.getfield 12, 3) := by decide +kernel
theorem dX10_belt_78 : decode cX10_belt 78 = .ok (.iload_n 1, 1) := by decide +kernel
theorem dX10_belt_79 : decode cX10_belt 79 = .ok (.iconst 0, 1) := by decide +kernel
theorem dX10_belt_80 : decode cX10_belt 80 = .ok (.invokestatic 111, 3) := by decide +kernel
theorem dX10_belt_83 : decode cX10_belt 83 = .ok (.iload_n 2, 1) := by decide +kernel
theorem dX10_belt_84 : decode cX10_belt 84 = .ok (.invokevirtual 124, 3) := by decide +kernel
theorem dX10_belt_87 : decode cX10_belt 87 = .ok (.iload_n 3, 1) := by decide +kernel
theorem dX10_belt_88 : decode cX10_belt 88 = .ok (.ireturn, 1) := by decide +kernel
theorem dX10_set_0 : decode cX10_set 0 = .ok (.iload_n 1, 1) := by decide +kernel
theorem dX10_set_1 : decode cX10_set 1 = .ok (.ifCond .eq 18, 3) := by decide +kernel
theorem dX10_set_4 : decode cX10_set 4 = .ok (.iload_n 1, 1) := by decide +kernel
theorem dX10_set_5 : decode cX10_set 5 = .ok (.iconst 1, 1) := by decide +kernel
theorem dX10_set_6 : decode cX10_set 6 = .ok (.if_icmp .eq 13, 3) := by decide +kernel
theorem dX10_set_9 : decode cX10_set 9 = .ok (.new 127, 3) := by decide +kernel
theorem dX10_set_12 : decode cX10_set 12 = .ok (.dup, 1) := by decide +kernel
theorem dX10_set_13 : decode cX10_set 13 = .ok (.ldc 129, 2) := by decide +kernel
theorem dX10_set_15 : decode cX10_set 15 = .ok (.invokespecial 131, 3) := by decide +kernel
theorem dX10_set_18 : decode cX10_set 18 = .ok (.athrow, 1) := by decide +kernel
theorem dX10_set_19 : decode cX10_set 19 = .ok (.iload_n 1, 1) := by decide +kernel
theorem dX10_set_20 : decode cX10_set 20 = .ok (.ifCond .ne 7, 3) := by decide +kernel
theorem dX10_set_23 : decode cX10_set 23 = .ok (.iconst 1, 1) := by decide +kernel
theorem dX10_set_24 : decode cX10_set 24 = .ok (.goto 4, 3) := by decide +kernel
theorem dX10_set_27 : decode cX10_set 27 = .ok (.iconst 0, 1) := by decide +kernel
theorem dX10_set_28 : decode cX10_set 28 = .ok (.istore_n 3, 1) := by decide +kernel
theorem dX10_set_29 : decode cX10_set 29 = .ok (.iload_n 1, 1) := by decide +kernel
theorem dX10_set_30 : decode cX10_set 30 = .ok (.ifCond .ne 8, 3) := by decide +kernel
theorem dX10_set_33 : decode cX10_set 33 = .ok (.bipush 9, 2) := by decide +kernel
theorem dX10_set_35 : decode cX10_set 35 = .ok (.goto 5, 3) := by decide +kernel
theorem dX10_set_38 : decode cX10_set 38 = .ok (.bipush 8, 2) := by decide +kernel
theorem dX10_set_40 : decode cX10_set 40 = .ok (.istore 4, 2) := by decide +kernel
theorem dX10_set_42 : decode cX10_set 42 = .ok (.iload_n 2, 1) := by decide +kernel
theorem dX10_set_43 : decode cX10_set 43 = .ok (.iload_n 3, 1) := by decide +kernel
theorem dX10_set_44 : decode cX10_set 44 = .ok (.if_icmp .lt 9, 3) := by decide +kernel
theorem dX10_set_47 : decode cX10_set 47 = .ok (.iload_n 2, 1) := by decide +kernel
theorem dX10_set_48 : decode cX10_set 48 = .ok (.iload 4, 2) := by decide +kernel
theorem dX10_set_50 : decode cX10_set 50 = .ok (.if_icmp .le 13, 3) := by decide +kernel
theorem dX10_set_53 : decode cX10_set 53 = .ok (.new 106, 3) := by decide +kernel
theorem dX10_set_56 : decode cX10_set 56 = .ok (.dup, 1) := by decide +kernel
theorem dX10_set_57 : decode cX10_set 57 = .ok (.ldc 132, 2) := by decide +kernel
theorem dX10_set_59 : decode cX10_set 59 = .ok (.invokespecial 110, 3) := by decide +kernel
theorem dX10_set_62 : decode cX10_set 62 = .ok (.athrow, 1) := by decide +kernel
theorem dX10_set_63 : decode cX10_set 63 = .ok (.aload_n 0, 1) := by decide +kernel
theorem dX10_set_64 : decode cX10_set 64 = .ok (.getfield 19, 3) := by decide +kernel
theorem dX10_set_67 : decode cX10_set 67 = .ok (.aload_n 0, 1) := by decide +kernel
theorem dX10_set_68 : decode cX10_set 68 = .ok (.getfield 12, 3) := by decide +kernel
theorem dX10_set_71 : decode cX10_set 71 = .ok (.invokevirtual 64, 3) := by decide +kernel
theorem dX10_set_74 : decode cX10_set 74 = .ok (.aload_n 0, 1) := by decide +kernel
theorem dX10_set_75 : decode cX10_set 75 = .ok (.getfield 12, 3) := by decide +kernel
theorem dX10_set_78 : decode cX10_set 78 = .ok (.iconst 1, 1) := by decide +kernel
theorem dX10_set_79 : decode cX10_set 79 = .ok (.iload_n 1, 1) := by decide +kernel
theorem dX10_set_80 : decode cX10_set 80 = .ok (.iadd, 1) := by decide +kernel
theorem dX10_set_81 : decode cX10_set 81 = .ok (.invokevirtual 115, 3) := by decide +kernel
theorem dX10_set_84 : decode cX10_set 84 = .ok (.istore 5, 2) := by decide +kernel
theorem dX10_set_86 : decode cX10_set 86 = .ok (.aload_n 0, 1) := by decide +kernel
theorem dX10_set_87 : decode cX10_set 87 = .ok (.getfield 12, 3) := by decide +kernel
theorem dX10_set_90 : decode cX10_set 90 = .ok (.iconst 1, 1) := by decide +kernel
theorem dX10_set_91 : decode cX10_set 91 = .ok (.iload_n 1, 1) := by decide +kernel
theorem dX10_set_92 : decode cX10_set 92 = .ok (.iadd, 1) := by decide +kernel
theorem dX10_set_93 : decode cX10_set 93 = .ok (.iload_n 2, 1) := by decide +kernel
theorem dX10_set_94 : decode cX10_set 94 = .ok (.invokevirtual 124, 3) := by decide +kernel
theorem dX10_set_97 : decode cX10_set 97 = .ok (.iload 5, 2) := by decide +kernel
theorem dX10_set_99 : decode cX10_set 99 = .ok (.ireturn, 1) := by decide +kernel
theorem dX10_append_0 : decode cX10_append 0 = .ok (.iload_n 1, 1) := by decide +kernel
theorem dX10_append_1 : decode cX10_append 1 = .ok (.bipush 33, 2) := by decide +kernel
theorem dX10_append_3 : decode cX10_append 3 = .ok (.if_icmp .lt 9, 3) := by decide +kernel
theorem dX10_append_6 : decode cX10_append 6 = .ok (.iload_n 1, 1) := by decide +kernel
theorem dX10_append_7 : decode cX10_append 7 = .ok (.bipush 126, 2) := by decide +kernel
theorem dX10_append_9 : decode cX10_append 9 = .ok (.if_icmp .le 13, 3) := by decide +kernel
theorem dX10_append_12 : decode cX10_append 12 = .ok (.new 106, 3) := by decide +kernel
theorem dX10_append_15 : decode cX10_append 15 = .ok (.dup, 1) := by decide +kernel
theorem dX10_append_16 : decode cX10_append 16 = .ok (.ldc 134, 2) := by decide +kernel
theorem dX10_append_18 : decode cX10_append 18 = .ok (.invokespecial 110, 3) := by decide +kernel
theorem dX10_append_21 : decode cX10_append 21 = .ok (.athrow, 1) := by decide +kernel
theorem dX10_append_22 : decode cX10_append 22 = .ok (.aload_n 0, 1) := by decide +kernel
theorem dX10_append_23 : decode cX10_append 23 = .ok (.getfield 26, 3) := by decide +kernel
theorem dX10_append_26 : decode cX10_append 26 = .ok (.invokevirtual 136, 3) := by decide +kernel
theorem dX10_append_29 : decode cX10_append 29 = .ok (.ifCond .eq 13, 3) := by decide +kernel
theorem dX10_append_32 : decode cX10_append 32 = .ok (.new 57, 3) := by decide +kernel
theorem dX10_append_35 : decode cX10_append 35 = .ok (.dup, 1) := by decide +kernel
theorem dX10_append_36 : decode cX10_append 36 = .ok (.ldc 140, 2) := by decide +kernel
theorem dX10_append_38 : decode cX10_append 38 = .ok (.invokespecial 61, 3) := by decide +kernel
theorem dX10_append_41 : decode cX10_append 41 = .ok (.athrow, 1) := by decide +kernel
theorem dX10_append_42 : decode cX10_append 42 = .ok (.aload_n 0, 1) := by decide +kernel
theorem dX10_append_43 : decode cX10_append 43 = .ok (.getfield 26, 3) := by decide +kernel
theorem dX10_append_46 : decode cX10_append 46 = .ok (.iload_n 1, 1) := by decide +kernel
theorem dX10_append_47 : decode cX10_append 47 = .ok (.invokevirtual 142, 3) := by decide +kernel
theorem dX10_append_50 : decode cX10_append 50 = .ok (.ireturn, 1) := by decide +kernel
theorem dX10_clearBuffer_0 : decode cX10_clearBuffer 0 = .ok (.aload_n 0, 1) := by decide +kernel
theorem dX10_clearBuffer_1 : decode cX10_clearBuffer 1 = .ok (.getfield 26, 3) := by decide +kernel
theorem dX10_clearBuffer_4 : decode cX10_clearBuffer 4 = .ok (.invokevirtual 68, 3) := by decide +kernel
theorem dX10_clearBuffer_7 : decode cX10_clearBuffer 7 = .ok (.ireturn, 1) := by decide +kernel
theorem dX10_firstError_0 : decode cX10_firstError 0 = .ok (.aload_n 0, 1) := by decide +kernel
theorem dX10_firstError_1 : decode cX10_firstError 1 = .ok (.getfield 33, 3) := by decide +kernel
theorem dX10_firstError_4 : decode cX10_firstError 4 = .ok (.aload_n 0, 1) := by decide +kernel
theorem dX10_firstError_5 : decode cX10_firstError 5 = .ok (.getfield 26, 3) := by decide +kernel
theorem dX10_firstError_8 : decode cX10_firstError 8 = .ok (.invokevirtual 145, 3) := by decide +kernel
theorem dX10_firstError_11 : decode cX10_firstError 11 = .ok (.ireturn, 1) := by decide +kernel
theorem dX10_work_0 : decode cX10_work 0 = .ok (.aload_n 0, 1) := by decide +kernel
theorem dX10_work_1 : decode cX10_work 1 = .ok (.getfield 33, 3) := by decide +kernel
theorem dX10_work_4 : decode cX10_work 4 = .ok (.aload_n 0, 1) := by decide +kernel
theorem dX10_work_5 : decode cX10_work 5 = .ok (.getfield 26, 3) := by decide +kernel
theorem dX10_work_8 : decode cX10_work 8 = .ok (.invokevirtual 145, 3) := by decide +kernel
theorem dX10_work_11 : decode cX10_work 11 = .ok (.aload_n 0, 1) := by decide +kernel
theorem dX10_work_12 : decode cX10_work 12 = .ok (.getfield 26, 3) := by decide +kernel
theorem dX10_work_15 : decode cX10_work 15 = .ok (.invokevirtual 149, 3) := by decide +kernel
theorem dX10_work_18 : decode cX10_work 18 = .ok (.if_icmp .lt 13, 3) := by decide +kernel
theorem dX10_work_21 : decode cX10_work 21 = .ok (.aload_n 0, 1) := by decide +kernel
theorem dX10_work_22 : decode cX10_work 22 = .ok (.getfield 33, 3) := by decide +kernel
theorem dX10_work_25 : decode cX10_work 25 = .ok (.invokevirtual 152, 3) := by decide +kernel
theorem dX10_work_28 : decode cX10_work 28 = .ok (.ifCond .ne 13, 3) := by decide +kernel
theorem dX10_work_31 : decode cX10_work 31 = .ok (.new 106, 3) := by decide +kernel
theorem dX10_work_34 : decode cX10_work 34 = .ok (.dup, 1) := by decide +kernel
theorem dX10_work_35 : decode cX10_work 35 = .ok (.ldc 155, 2) := by decide +kernel
theorem dX10_work_37 : decode cX10_work 37 = .ok (.invokespecial 110, 3) := by decide +kernel
theorem dX10_work_40 : decode cX10_work 40 = .ok (.athrow, 1) := by decide +kernel
theorem dX10_work_41 : decode cX10_work 41 = .ok (.aload_n 0, 1) := by decide +kernel
theorem dX10_work_42 : decode cX10_work 42 = .ok (.getfield 19, 3) := by decide +kernel
theorem dX10_work_45 : decode cX10_work 45 = .ok (.aload_n 0, 1) := by decide +kernel
theorem dX10_work_46 : decode cX10_work 46 = .ok (.getfield 12, 3) := by decide +kernel
theorem dX10_work_49 : decode cX10_work 49 = .ok (.invokevirtual 64, 3) := by decide +kernel
theorem dX10_work_52 : decode cX10_work 52 = .ok (.iconst 0, 1) := by decide +kernel
theorem dX10_work_53 : decode cX10_work 53 = .ok (.istore_n 1, 1) := by decide +kernel
theorem dX10_work_54 : decode cX10_work 54 = .ok (.iconst 0, 1) := by decide +kernel
theorem dX10_work_55 : decode cX10_work 55 = .ok (.istore_n 2, 1) := by decide +kernel
theorem dX10_work_56 : decode cX10_work 56 = .ok (.iconst 0, 1) := by decide +kernel
theorem dX10_work_57 : decode cX10_work 57 = .ok (.istore_n 3, 1) := by decide +kernel
theorem dX10_work_58 : decode cX10_work 58 = .ok (.iload_n 3, 1) := by decide +kernel
theorem dX10_work_59 : decode cX10_work 59 = .ok (.aload_n 0, 1) := by decide +kernel
theorem dX10_work_60 : decode cX10_work 60 = .ok (.getfield 26, 3) := by decide +kernel
theorem dX10_work_63 : decode cX10_work 63 = .ok (.invokevirtual 149, 3) := by decide +kernel
theorem dX10_work_66 : decode cX10_work 66 = .ok (.if_icmp .ge 45, 3) := by decide +kernel
theorem dX10_work_69 : decode cX10_work 69 = .ok (.iload_n 2, 1) := by decide +kernel
theorem dX10_work_70 : decode cX10_work 70 = .ok (.ifCond .ne 41, 3) := by decide +kernel
theorem dX10_work_73 : decode cX10_work 73 = .ok (.aload_n 0, 1) := by decide +kernel
theorem dX10_work_74 : decode cX10_work 74 = .ok (.getfield 26, 3) := by decide +kernel
theorem dX10_work_77 : decode cX10_work 77 = .ok (.iload_n 3, 1) := by decide +kernel
theorem dX10_work_78 : decode cX10_work 78 = .ok (.invokevirtual 157, 3) := by decide +kernel
theorem dX10_work_81 : decode cX10_work 81 = .ok (.ifCond .ne 6, 3) := by decide +kernel
theorem dX10_work_84 : decode cX10_work 84 = .ok (.goto 21, 3) := by decide +kernel
theorem dX10_work_87 : decode cX10_work 87 = .ok (.aload_n 0, 1) := by decide +kernel
theorem dX10_work_88 : decode cX10_work 88 = .ok (.iload_n 3, 1) := by decide +kernel
theorem dX10_work_89 : decode cX10_work 89 = .ok (.invokevirtual 161, 3) := by decide +kernel
theorem dX10_work_92 : decode cX10_work 92 = .ok (.istore_n 2, 1) := by decide +kernel
theorem dX10_work_93 : decode cX10_work 93 = .ok (.iload_n 2, 1) := by decide +kernel
theorem dX10_work_94 : decode cX10_work 94 = .ok (.ifCond .ne 11, 3) := by decide +kernel
theorem dX10_work_97 : decode cX10_work 97 = .ok (.aload_n 0, 1) := by decide +kernel
theorem dX10_work_98 : decode cX10_work 98 = .ok (.iload_n 3, 1) := by decide +kernel
theorem dX10_work_99 : decode cX10_work 99 = .ok (.invokevirtual 164, 3) := by decide +kernel
theorem dX10_work_102 : decode cX10_work 102 = .ok (.iinc 1 1, 3) := by decide +kernel
theorem dX10_work_105 : decode cX10_work 105 = .ok (.iinc 3 1, 3) := by decide +kernel
theorem dX10_work_108 : decode cX10_work 108 = .ok (.goto (-50), 3) := by decide +kernel
theorem dX10_work_111 : decode cX10_work 111 = .ok (.aload_n 0, 1) := by decide +kernel
theorem dX10_work_112 : decode cX10_work 112 = .ok (.getfield 12, 3) := by decide +kernel
theorem dX10_work_115 : decode cX10_work 115 = .ok (.iconst 5, 1) := by decide +kernel
theorem dX10_work_116 : decode cX10_work 116 = .ok (.iload_n 1, 1) := by decide +kernel
theorem dX10_work_117 : decode cX10_work 117 = .ok (.invokevirtual 124, 3) := by decide +kernel
theorem dX10_work_120 : decode cX10_work 120 = .ok (.aload_n 0, 1) := by decide +kernel
theorem dX10_work_121 : decode cX10_work 121 = .ok (.getfield 12, 3) := by decide +kernel
theorem dX10_work_124 : decode cX10_work 124 = .ok (.bipush 6, 2) := by decide +kernel
theorem dX10_work_126 : decode cX10_work 126 = .ok (.iload_n 2, 1) := by decide +kernel
theorem dX10_work_127 : decode cX10_work 127 = .ok (.invokevirtual 124, 3) := by decide +kernel
theorem dX10_work_130 : decode cX10_work 130 = .ok (.aload_n 0, 1) := by decide +kernel
theorem dX10_work_131 : decode cX10_work 131 = .ok (.getfield 26, 3) := by decide +kernel
theorem dX10_work_134 : decode cX10_work 134 = .ok (.invokevirtual 68, 3) := by decide +kernel
theorem dX10_work_137 : decode cX10_work 137 = .ok (.pop, 1) := by decide +kernel
theorem dX10_work_138 : decode cX10_work 138 = .ok (.iload_n 1, 1) := by decide +kernel
theorem dX10_work_139 : decode cX10_work 139 = .ok (.ireturn, 1) := by decide +kernel
theorem dX10_stopped_0 : decode cX10_stopped 0 = .ok (.iload_n 1, 1) := by decide +kernel
theorem dX10_stopped_1 : decode cX10_stopped 1 = .ok (.ifCond .eq 18, 3) := by decide +kernel
theorem dX10_stopped_4 : decode cX10_stopped 4 = .ok (.iload_n 1, 1) := by decide +kernel
theorem dX10_stopped_5 : decode cX10_stopped 5 = .ok (.iconst 1, 1) := by decide +kernel
theorem dX10_stopped_6 : decode cX10_stopped 6 = .ok (.if_icmp .eq 13, 3) := by decide +kernel
theorem dX10_stopped_9 : decode cX10_stopped 9 = .ok (.new 106, 3) := by decide +kernel
theorem dX10_stopped_12 : decode cX10_stopped 12 = .ok (.dup, 1) := by decide +kernel
theorem dX10_stopped_13 : decode cX10_stopped 13 = .ok (.ldc 167, 2) := by decide +kernel
theorem dX10_stopped_15 : decode cX10_stopped 15 = .ok (.invokespecial 110, 3) := by decide +kernel
theorem dX10_stopped_18 : decode cX10_stopped 18 = .ok (.athrow, 1) := by decide +kernel
theorem dX10_stopped_19 : decode cX10_stopped 19 = .ok (.aload_n 0, 1) := by decide +kernel
theorem dX10_stopped_20 : decode cX10_stopped 20 = .ok (.iload_n 1, 1) := by decide +kernel
theorem dX10_stopped_21 : decode cX10_stopped 21 = .ok (.invokevirtual 169, 3) := by decide +kernel
theorem dX10_stopped_24 : decode cX10_stopped 24 = .ok (.ireturn, 1) := by decide +kernel
theorem dX10_told_0 : decode cX10_told 0 = .ok (.iload_n 1, 1) := by decide +kernel
theorem dX10_told_1 : decode cX10_told 1 = .ok (.invokestatic 44, 3) := by decide +kernel
theorem dX10_told_4 : decode cX10_told 4 = .ok (.iload_n 2, 1) := by decide +kernel
theorem dX10_told_5 : decode cX10_told 5 = .ok (.ifCond .ge 13, 3) := by decide +kernel
theorem dX10_told_8 : decode cX10_told 8 = .ok (.new 106, 3) := by decide +kernel
theorem dX10_told_11 : decode cX10_told 11 = .ok (.dup, 1) := by decide +kernel
theorem dX10_told_12 : decode cX10_told 12 = .ok (.ldc 172, 2) := by decide +kernel
theorem dX10_told_14 : decode cX10_told 14 = .ok (.invokespecial 110, 3) := by decide +kernel
theorem dX10_told_17 : decode cX10_told 17 = .ok (.athrow, 1) := by decide +kernel
theorem dX10_told_18 : decode cX10_told 18 = .ok (.aload_n 0, 1) := by decide +kernel
theorem dX10_told_19 : decode cX10_told 19 = .ok (.getfield 12, 3) := by decide +kernel
theorem dX10_told_22 : decode cX10_told 22 = .ok (.iload_n 1, 1) := by decide +kernel
theorem dX10_told_23 : decode cX10_told 23 = .ok (.iload_n 2, 1) := by decide +kernel
theorem dX10_told_24 : decode cX10_told 24 = .ok (.invokestatic 174, 3) := by decide +kernel
theorem dX10_told_27 : decode cX10_told 27 = .ok (.ireturn, 1) := by decide +kernel
theorem dX10_undo_0 : decode cX10_undo 0 = .ok (.aload_n 0, 1) := by decide +kernel
theorem dX10_undo_1 : decode cX10_undo 1 = .ok (.getfield 19, 3) := by decide +kernel
theorem dX10_undo_4 : decode cX10_undo 4 = .ok (.invokevirtual 179, 3) := by decide +kernel
theorem dX10_undo_7 : decode cX10_undo 7 = .ok (.ifCond .ne 13, 3) := by decide +kernel
theorem dX10_undo_10 : decode cX10_undo 10 = .ok (.new 57, 3) := by decide +kernel
theorem dX10_undo_13 : decode cX10_undo 13 = .ok (.dup, 1) := by decide +kernel
theorem dX10_undo_14 : decode cX10_undo 14 = .ok (.ldc 180, 2) := by decide +kernel
theorem dX10_undo_16 : decode cX10_undo 16 = .ok (.invokespecial 61, 3) := by decide +kernel
theorem dX10_undo_19 : decode cX10_undo 19 = .ok (.athrow, 1) := by decide +kernel
theorem dX10_undo_20 : decode cX10_undo 20 = .ok (.aload_n 0, 1) := by decide +kernel
theorem dX10_undo_21 : decode cX10_undo 21 = .ok (.getfield 19, 3) := by decide +kernel
theorem dX10_undo_24 : decode cX10_undo 24 = .ok (.aload_n 0, 1) := by decide +kernel
theorem dX10_undo_25 : decode cX10_undo 25 = .ok (.getfield 12, 3) := by decide +kernel
theorem dX10_undo_28 : decode cX10_undo 28 = .ok (.invokevirtual 182, 3) := by decide +kernel
theorem dX10_undo_31 : decode cX10_undo 31 = .ok (.aload_n 0, 1) := by decide +kernel
theorem dX10_undo_32 : decode cX10_undo 32 = .ok (.getfield 19, 3) := by decide +kernel
theorem dX10_undo_35 : decode cX10_undo 35 = .ok (.invokevirtual 179, 3) := by decide +kernel
theorem dX10_undo_38 : decode cX10_undo 38 = .ok (.ireturn, 1) := by decide +kernel
theorem dX10_keep_0 : decode cX10_keep 0 = .ok (.aload_n 0, 1) := by decide +kernel
theorem dX10_keep_1 : decode cX10_keep 1 = .ok (.getfield 19, 3) := by decide +kernel
theorem dX10_keep_4 : decode cX10_keep 4 = .ok (.aload_n 0, 1) := by decide +kernel
theorem dX10_keep_5 : decode cX10_keep 5 = .ok (.getfield 12, 3) := by decide +kernel
theorem dX10_keep_8 : decode cX10_keep 8 = .ok (.invokevirtual 185, 3) := by decide +kernel
theorem dX10_keep_11 : decode cX10_keep 11 = .ok (.aload_n 0, 1) := by decide +kernel
theorem dX10_keep_12 : decode cX10_keep 12 = .ok (.getfield 12, 3) := by decide +kernel
theorem dX10_keep_15 : decode cX10_keep 15 = .ok (.invokestatic 188, 3) := by decide +kernel
theorem dX10_keep_18 : decode cX10_keep 18 = .ok (.ireturn, 1) := by decide +kernel
theorem dX10_restore_0 : decode cX10_restore 0 = .ok (.aload_n 0, 1) := by decide +kernel
theorem dX10_restore_1 : decode cX10_restore 1 = .ok (.getfield 19, 3) := by decide +kernel
theorem dX10_restore_4 : decode cX10_restore 4 = .ok (.invokevirtual 192, 3) := by decide +kernel
theorem dX10_restore_7 : decode cX10_restore 7 = .ok (.ifCond .ne 13, 3) := by decide +kernel
theorem dX10_restore_10 : decode cX10_restore 10 = .ok (.new 57, 3) := by decide +kernel
theorem dX10_restore_13 : decode cX10_restore 13 = .ok (.dup, 1) := by decide +kernel
theorem dX10_restore_14 : decode cX10_restore 14 = .ok (.ldc 195, 2) := by decide +kernel
theorem dX10_restore_16 : decode cX10_restore 16 = .ok (.invokespecial 61, 3) := by decide +kernel
theorem dX10_restore_19 : decode cX10_restore 19 = .ok (.athrow, 1) := by decide +kernel
theorem dX10_restore_20 : decode cX10_restore 20 = .ok (.aload_n 0, 1) := by decide +kernel
theorem dX10_restore_21 : decode cX10_restore 21 = .ok (.getfield 19, 3) := by decide +kernel
theorem dX10_restore_24 : decode cX10_restore 24 = .ok (.aload_n 0, 1) := by decide +kernel
theorem dX10_restore_25 : decode cX10_restore 25 = .ok (.getfield 12, 3) := by decide +kernel
theorem dX10_restore_28 : decode cX10_restore 28 = .ok (.invokevirtual 64, 3) := by decide +kernel
theorem dX10_restore_31 : decode cX10_restore 31 = .ok (.aload_n 0, 1) := by decide +kernel
theorem dX10_restore_32 : decode cX10_restore 32 = .ok (.getfield 19, 3) := by decide +kernel
theorem dX10_restore_35 : decode cX10_restore 35 = .ok (.aload_n 0, 1) := by decide +kernel
theorem dX10_restore_36 : decode cX10_restore 36 = .ok (.getfield 12, 3) := by decide +kernel
theorem dX10_restore_39 : decode cX10_restore 39 = .ok (.invokevirtual 197, 3) := by decide +kernel
theorem dX10_restore_42 : decode cX10_restore 42 = .ok (.aload_n 0, 1) := by decide +kernel
theorem dX10_restore_43 : decode cX10_restore 43 = .ok (.getfield 12, 3) := by decide +kernel
theorem dX10_restore_46 : decode cX10_restore 46 = .ok (.invokestatic 188, 3) := by decide +kernel
theorem dX10_restore_49 : decode cX10_restore 49 = .ok (.ireturn, 1) := by decide +kernel
theorem dX10_letter_0 : decode cX10_letter 0 = .ok (.iload_n 1, 1) := by decide +kernel
theorem dX10_letter_1 : decode cX10_letter 1 = .ok (.ifCond .lt 9, 3) := by decide +kernel
theorem dX10_letter_4 : decode cX10_letter 4 = .ok (.iload_n 1, 1) := by decide +kernel
theorem dX10_letter_5 : decode cX10_letter 5 = .ok (.bipush 16, 2) := by decide +kernel
theorem dX10_letter_7 : decode cX10_letter 7 = .ok (.if_icmp .lt 13, 3) := by decide +kernel
theorem dX10_letter_10 : decode cX10_letter 10 = .ok (.new 127, 3) := by decide +kernel
theorem dX10_letter_13 : decode cX10_letter 13 = .ok (.dup, 1) := by decide +kernel
theorem dX10_letter_14 : decode cX10_letter 14 = .ok (.ldc 200, 2) := by decide +kernel
theorem dX10_letter_16 : decode cX10_letter 16 = .ok (.invokespecial 131, 3) := by decide +kernel
theorem dX10_letter_19 : decode cX10_letter 19 = .ok (.athrow, 1) := by decide +kernel
theorem dX10_letter_20 : decode cX10_letter 20 = .ok (.iload_n 2, 1) := by decide +kernel
theorem dX10_letter_21 : decode cX10_letter 21 = .ok (.iconst 5, 1) := by decide +kernel
theorem dX10_letter_22 : decode cX10_letter 22 = .ok (.invokestatic 202, 3) := by decide +kernel
theorem dX10_letter_25 : decode cX10_letter 25 = .ok (.aload_n 0, 1) := by decide +kernel
theorem dX10_letter_26 : decode cX10_letter 26 = .ok (.getfield 12, 3) := by decide +kernel
theorem dX10_letter_29 : decode cX10_letter 29 = .ok (.iload_n 1, 1) := by decide +kernel
theorem dX10_letter_30 : decode cX10_letter 30 = .ok (.iload_n 2, 1) := by decide +kernel
theorem dX10_letter_31 : decode cX10_letter 31 = .ok (.invokestatic 205, 3) := by decide +kernel
theorem dX10_letter_34 : decode cX10_letter 34 = .ok (.ireturn, 1) := by decide +kernel
theorem dX10_knot_0 : decode cX10_knot 0 = .ok (.aload_n 0, 1) := by decide +kernel
theorem dX10_knot_1 : decode cX10_knot 1 = .ok (.iload_n 1, 1) := by decide +kernel
theorem dX10_knot_2 : decode cX10_knot 2 = .ok (.iload_n 2, 1) := by decide +kernel
theorem dX10_knot_3 : decode cX10_knot 3 = .ok (.invokevirtual 75, 3) := by decide +kernel
theorem dX10_knot_6 : decode cX10_knot 6 = .ok (.iload_n 3, 1) := by decide +kernel
theorem dX10_knot_7 : decode cX10_knot 7 = .ok (.ifCond .lt 9, 3) := by decide +kernel
theorem dX10_knot_10 : decode cX10_knot 10 = .ok (.iload_n 3, 1) := by decide +kernel
theorem dX10_knot_11 : decode cX10_knot 11 = .ok (.bipush 8, 2) := by decide +kernel
theorem dX10_knot_13 : decode cX10_knot 13 = .ok (.if_icmp .lt 13, 3) := by decide +kernel
theorem dX10_knot_16 : decode cX10_knot 16 = .ok (.new 106, 3) := by decide +kernel
theorem dX10_knot_19 : decode cX10_knot 19 = .ok (.dup, 1) := by decide +kernel
theorem dX10_knot_20 : decode cX10_knot 20 = .ok (.ldc 208, 2) := by decide +kernel
theorem dX10_knot_22 : decode cX10_knot 22 = .ok (.invokespecial 110, 3) := by decide +kernel
theorem dX10_knot_25 : decode cX10_knot 25 = .ok (.athrow, 1) := by decide +kernel
theorem dX10_knot_26 : decode cX10_knot 26 = .ok (.iload 4, 2) := by decide +kernel
theorem dX10_knot_28 : decode cX10_knot 28 = .ok (.iconst 2, 1) := by decide +kernel
theorem dX10_knot_29 : decode cX10_knot 29 = .ok (.invokestatic 202, 3) := by decide +kernel
theorem dX10_knot_32 : decode cX10_knot 32 = .ok (.aload_n 0, 1) := by decide +kernel
theorem dX10_knot_33 : decode cX10_knot 33 = .ok (.getfield 12, 3) := by decide +kernel
theorem dX10_knot_36 : decode cX10_knot 36 = .ok (.iload_n 1, 1) := by decide +kernel
theorem dX10_knot_37 : decode cX10_knot 37 = .ok (.iload_n 2, 1) := by decide +kernel
theorem dX10_knot_38 : decode cX10_knot 38 = .ok (.iload_n 3, 1) := by decide +kernel
theorem dX10_knot_39 : decode cX10_knot 39 = .ok (.iload 4, 2) := by decide +kernel
theorem dX10_knot_41 : decode cX10_knot 41 = .ok (.invokestatic 210, 3) := by decide +kernel
theorem dX10_knot_44 : decode cX10_knot 44 = .ok (.ireturn, 1) := by decide +kernel
theorem dX10_name_0 : decode cX10_name 0 = .ok (.aload_n 0, 1) := by decide +kernel
theorem dX10_name_1 : decode cX10_name 1 = .ok (.iload_n 1, 1) := by decide +kernel
theorem dX10_name_2 : decode cX10_name 2 = .ok (.iload_n 2, 1) := by decide +kernel
theorem dX10_name_3 : decode cX10_name 3 = .ok (.invokevirtual 75, 3) := by decide +kernel
theorem dX10_name_6 : decode cX10_name 6 = .ok (.iload_n 3, 1) := by decide +kernel
theorem dX10_name_7 : decode cX10_name 7 = .ok (.iconst 4, 1) := by decide +kernel
theorem dX10_name_8 : decode cX10_name 8 = .ok (.invokestatic 202, 3) := by decide +kernel
theorem dX10_name_11 : decode cX10_name 11 = .ok (.aload_n 0, 1) := by decide +kernel
theorem dX10_name_12 : decode cX10_name 12 = .ok (.getfield 12, 3) := by decide +kernel
theorem dX10_name_15 : decode cX10_name 15 = .ok (.iload_n 1, 1) := by decide +kernel
theorem dX10_name_16 : decode cX10_name 16 = .ok (.iload_n 2, 1) := by decide +kernel
theorem dX10_name_17 : decode cX10_name 17 = .ok (.iload_n 3, 1) := by decide +kernel
theorem dX10_name_18 : decode cX10_name 18 = .ok (.invokestatic 214, 3) := by decide +kernel
theorem dX10_name_21 : decode cX10_name 21 = .ok (.ireturn, 1) := by decide +kernel
theorem dX10_fisher_0 : decode cX10_fisher 0 = .ok (.iload_n 1, 1) := by decide +kernel
theorem dX10_fisher_1 : decode cX10_fisher 1 = .ok (.invokestatic 44, 3) := by decide +kernel
theorem dX10_fisher_4 : decode cX10_fisher 4 = .ok (.iload_n 2, 1) := by decide +kernel
theorem dX10_fisher_5 : decode cX10_fisher 5 = .ok (.iconst 4, 1) := by decide +kernel
theorem dX10_fisher_6 : decode cX10_fisher 6 = .ok (.invokestatic 202, 3) := by decide +kernel
theorem dX10_fisher_9 : decode cX10_fisher 9 = .ok (.aload_n 0, 1) := by decide +kernel
theorem dX10_fisher_10 : decode cX10_fisher 10 = .ok (.getfield 12, 3) := by decide +kernel
theorem dX10_fisher_13 : decode cX10_fisher 13 = .ok (.iload_n 1, 1) := by decide +kernel
theorem dX10_fisher_14 : decode cX10_fisher 14 = .ok (.iload_n 2, 1) := by decide +kernel
theorem dX10_fisher_15 : decode cX10_fisher 15 = .ok (.invokestatic 218, 3) := by decide +kernel
theorem dX10_fisher_18 : decode cX10_fisher 18 = .ok (.ireturn, 1) := by decide +kernel
theorem dX10_drowned_0 : decode cX10_drowned 0 = .ok (.iload_n 1, 1) := by decide +kernel
theorem dX10_drowned_1 : decode cX10_drowned 1 = .ok (.ifCond .ge 13, 3) := by decide +kernel
theorem dX10_drowned_4 : decode cX10_drowned 4 = .ok (.new 106, 3) := by decide +kernel
theorem dX10_drowned_7 : decode cX10_drowned 7 = .ok (.dup, 1) := by decide +kernel
theorem dX10_drowned_8 : decode cX10_drowned 8 = .ok (.ldc 221, 2) := by decide +kernel
theorem dX10_drowned_10 : decode cX10_drowned 10 = .ok (.invokespecial 110, 3) := by decide +kernel
theorem dX10_drowned_13 : decode cX10_drowned 13 = .ok (.athrow, 1) := by decide +kernel
theorem dX10_drowned_14 : decode cX10_drowned 14 = .ok (.iload_n 2, 1) := by decide +kernel
theorem dX10_drowned_15 : decode cX10_drowned 15 = .ok (.iconst 3, 1) := by decide +kernel
theorem dX10_drowned_16 : decode cX10_drowned 16 = .ok (.invokestatic 202, 3) := by decide +kernel
theorem dX10_drowned_19 : decode cX10_drowned 19 = .ok (.aload_n 0, 1) := by decide +kernel
theorem dX10_drowned_20 : decode cX10_drowned 20 = .ok (.getfield 12, 3) := by decide +kernel
theorem dX10_drowned_23 : decode cX10_drowned 23 = .ok (.iload_n 1, 1) := by decide +kernel
theorem dX10_drowned_24 : decode cX10_drowned 24 = .ok (.iload_n 2, 1) := by decide +kernel
theorem dX10_drowned_25 : decode cX10_drowned 25 = .ok (.invokestatic 223, 3) := by decide +kernel
theorem dX10_drowned_28 : decode cX10_drowned 28 = .ok (.ireturn, 1) := by decide +kernel
theorem dX10_find_0 : decode cX10_find 0 = .ok (.aload_n 0, 1) := by decide +kernel
theorem dX10_find_1 : decode cX10_find 1 = .ok (.invokevirtual 48, 3) := by decide +kernel
theorem dX10_find_4 : decode cX10_find 4 = .ok (.aload_n 0, 1) := by decide +kernel
theorem dX10_find_5 : decode cX10_find 5 = .ok (.getfield 12, 3) := by decide +kernel
theorem dX10_find_8 : decode cX10_find 8 = .ok (.aload_n 0, 1) := by decide +kernel
theorem dX10_find_9 : decode cX10_find 9 = .ok (.getfield 40, 3) := by decide +kernel
theorem dX10_find_12 : decode cX10_find 12 = .ok (.invokestatic 226, 3) := by decide +kernel
theorem dX10_find_15 : decode cX10_find 15 = .ok (.ireturn, 1) := by decide +kernel
theorem dX10_count_0 : decode cX10_count 0 = .ok (.iload_n 1, 1) := by decide +kernel
theorem dX10_count_1 : decode cX10_count 1 = .ok (.bipush 13, 2) := by decide +kernel
theorem dX10_count_3 : decode cX10_count 3 = .ok (.invokestatic 202, 3) := by decide +kernel
theorem dX10_count_6 : decode cX10_count 6 = .ok (.iload_n 1, 1) := by decide +kernel
theorem dX10_count_7 : decode cX10_count 7 = .ok (.bipush 13, 2) := by decide +kernel
theorem dX10_count_9 : decode cX10_count 9 = .ok (.if_icmp .ne 13, 3) := by decide +kernel
theorem dX10_count_12 : decode cX10_count 12 = .ok (.aload_n 0, 1) := by decide +kernel
theorem dX10_count_13 : decode cX10_count 13 = .ok (.getfield 19, 3) := by decide +kernel
theorem dX10_count_16 : decode cX10_count 16 = .ok (.invokevirtual 179, 3) := by decide +kernel
theorem dX10_count_19 : decode cX10_count 19 = .ok (.goto 11, 3) := by decide +kernel
theorem dX10_count_22 : decode cX10_count 22 = .ok (.aload_n 0, 1) := by decide +kernel
theorem dX10_count_23 : decode cX10_count 23 = .ok (.getfield 12, 3) := by decide +kernel
theorem dX10_count_26 : decode cX10_count 26 = .ok (.iload_n 1, 1) := by decide +kernel
theorem dX10_count_27 : decode cX10_count 27 = .ok (.invokestatic 230, 3) := by decide +kernel
theorem dX10_count_30 : decode cX10_count 30 = .ok (.ireturn, 1) := by decide +kernel
theorem dX10_whyNot_0 : decode cX10_whyNot 0 = .ok (.iload_n 1, 1) := by decide +kernel
theorem dX10_whyNot_1 : decode cX10_whyNot 1 = .ok (.invokestatic 44, 3) := by decide +kernel
theorem dX10_whyNot_4 : decode cX10_whyNot 4 = .ok (.aload_n 0, 1) := by decide +kernel
theorem dX10_whyNot_5 : decode cX10_whyNot 5 = .ok (.invokevirtual 48, 3) := by decide +kernel
theorem dX10_whyNot_8 : decode cX10_whyNot 8 = .ok (.aload_n 0, 1) := by decide +kernel
theorem dX10_whyNot_9 : decode cX10_whyNot 9 = .ok (.getfield 12, 3) := by decide +kernel
theorem dX10_whyNot_12 : decode cX10_whyNot 12 = .ok (.aload_n 0, 1) := by decide +kernel
theorem dX10_whyNot_13 : decode cX10_whyNot 13 = .ok (.getfield 40, 3) := by decide +kernel
theorem dX10_whyNot_16 : decode cX10_whyNot 16 = .ok (.iload_n 1, 1) := by decide +kernel
theorem dX10_whyNot_17 : decode cX10_whyNot 17 = .ok (.invokestatic 51, 3) := by decide +kernel
theorem dX10_whyNot_20 : decode cX10_whyNot 20 = .ok (.ireturn, 1) := by decide +kernel
theorem dX10_noGift_0 : decode cX10_noGift 0 = .ok (.aload_n 0, 1) := by decide +kernel
theorem dX10_noGift_1 : decode cX10_noGift 1 = .ok (.iload_n 1, 1) := by decide +kernel
theorem dX10_noGift_2 : decode cX10_noGift 2 = .ok (.iload_n 2, 1) := by decide +kernel
theorem dX10_noGift_3 : decode cX10_noGift 3 = .ok (.invokevirtual 75, 3) := by decide +kernel
theorem dX10_noGift_6 : decode cX10_noGift 6 = .ok (.iload_n 3, 1) := by decide +kernel
theorem dX10_noGift_7 : decode cX10_noGift 7 = .ok (.invokestatic 44, 3) := by decide +kernel
theorem dX10_noGift_10 : decode cX10_noGift 10 = .ok (.aload_n 0, 1) := by decide +kernel
theorem dX10_noGift_11 : decode cX10_noGift 11 = .ok (.getfield 12, 3) := by decide +kernel
theorem dX10_noGift_14 : decode cX10_noGift 14 = .ok (.aload_n 0, 1) := by decide +kernel
theorem dX10_noGift_15 : decode cX10_noGift 15 = .ok (.getfield 40, 3) := by decide +kernel
theorem dX10_noGift_18 : decode cX10_noGift 18 = .ok (.iload_n 1, 1) := by decide +kernel
theorem dX10_noGift_19 : decode cX10_noGift 19 = .ok (.iload_n 2, 1) := by decide +kernel
theorem dX10_noGift_20 : decode cX10_noGift 20 = .ok (.iload_n 3, 1) := by decide +kernel
theorem dX10_noGift_21 : decode cX10_noGift 21 = .ok (.invokestatic 91, 3) := by decide +kernel
theorem dX10_noGift_24 : decode cX10_noGift 24 = .ok (.ireturn, 1) := by decide +kernel
theorem dX10_ifStorm_0 : decode cX10_ifStorm 0 = .ok (.iload_n 1, 1) := by decide +kernel
theorem dX10_ifStorm_1 : decode cX10_ifStorm 1 = .ok (.invokestatic 44, 3) := by decide +kernel
theorem dX10_ifStorm_4 : decode cX10_ifStorm 4 = .ok (.iload_n 2, 1) := by decide +kernel
theorem dX10_ifStorm_5 : decode cX10_ifStorm 5 = .ok (.iconst 1, 1) := by decide +kernel
theorem dX10_ifStorm_6 : decode cX10_ifStorm 6 = .ok (.invokestatic 202, 3) := by decide +kernel
theorem dX10_ifStorm_9 : decode cX10_ifStorm 9 = .ok (.aload_n 0, 1) := by decide +kernel
theorem dX10_ifStorm_10 : decode cX10_ifStorm 10 = .ok (.getfield 12, 3) := by decide +kernel
theorem dX10_ifStorm_13 : decode cX10_ifStorm 13 = .ok (.iload_n 1, 1) := by decide +kernel
theorem dX10_ifStorm_14 : decode cX10_ifStorm 14 = .ok (.iload_n 2, 1) := by decide +kernel
theorem dX10_ifStorm_15 : decode cX10_ifStorm 15 = .ok (.invokestatic 233, 3) := by decide +kernel
theorem dX10_ifStorm_18 : decode cX10_ifStorm 18 = .ok (.ireturn, 1) := by decide +kernel
theorem dX10_bestBelt_0 : decode cX10_bestBelt 0 = .ok (.aload_n 0, 1) := by decide +kernel
theorem dX10_bestBelt_1 : decode cX10_bestBelt 1 = .ok (.invokevirtual 48, 3) := by decide +kernel
theorem dX10_bestBelt_4 : decode cX10_bestBelt 4 = .ok (.iconst (-1), 1) := by decide +kernel
theorem dX10_bestBelt_5 : decode cX10_bestBelt 5 = .ok (.istore_n 1, 1) := by decide +kernel
theorem dX10_bestBelt_6 : decode cX10_bestBelt 6 = .ok (.iconst 0, 1) := by decide +kernel
theorem dX10_bestBelt_7 : decode cX10_bestBelt 7 = .ok (.istore_n 2, 1) := by decide +kernel
theorem dX10_bestBelt_8 : decode cX10_bestBelt 8 = .ok (.iload_n 2, 1) := by decide +kernel
theorem dX10_bestBelt_9 : decode cX10_bestBelt 9 = .ok (.iconst 5, 1) := by decide +kernel
theorem dX10_bestBelt_10 : decode cX10_bestBelt 10 = .ok (.if_icmp .ge 60, 3) := by decide +kernel
theorem dX10_bestBelt_13 : decode cX10_bestBelt 13 = .ok (.aload_n 0, 1) := by decide +kernel
theorem dX10_bestBelt_14 : decode cX10_bestBelt 14 = .ok (.getfield 12, 3) := by decide +kernel
theorem dX10_bestBelt_17 : decode cX10_bestBelt 17 = .ok (.aload_n 0, 1) := by decide +kernel
theorem dX10_bestBelt_18 : decode cX10_bestBelt 18 = .ok (.getfield 40, 3) := by decide +kernel
theorem dX10_bestBelt_21 : decode cX10_bestBelt 21 = .ok (.iload_n 2, 1) := by decide +kernel
theorem dX10_bestBelt_22 : decode cX10_bestBelt 22 = .ok (.invokestatic 51, 3) := by decide +kernel
theorem dX10_bestBelt_25 : decode cX10_bestBelt 25 = .ok (.ifCond .ne 7, 3) := by decide +kernel
theorem dX10_bestBelt_28 : decode cX10_bestBelt 28 = .ok (.iconst 1, 1) := by decide +kernel
theorem dX10_bestBelt_29 : decode cX10_bestBelt 29 = .ok (.goto 4, 3) := by decide +kernel
theorem dX10_bestBelt_32 : decode cX10_bestBelt 32 = .ok (.iconst 0, 1) := by decide +kernel
theorem dX10_bestBelt_33 : decode cX10_bestBelt 33 = .ok (.istore_n 3, 1) := by decide +kernel
theorem dX10_bestBelt_34 : decode cX10_bestBelt 34 = .ok (.iload_n 3, 1) := by decide +kernel
theorem dX10_bestBelt_35 : decode cX10_bestBelt 35 = .ok (.ifCond .eq 29, 3) := by decide +kernel
theorem dX10_bestBelt_38 : decode cX10_bestBelt 38 = .ok (.iload_n 1, 1) := by decide +kernel
theorem dX10_bestBelt_39 : decode cX10_bestBelt 39 = .ok (.iconst (-1), 1) := by decide +kernel
theorem dX10_bestBelt_40 : decode cX10_bestBelt 40 = .ok (.if_icmp .eq 22, 3) := by decide +kernel
theorem dX10_bestBelt_43 : decode cX10_bestBelt 43 = .ok (.aload_n 0, 1) := by decide +kernel
theorem dX10_bestBelt_44 : decode cX10_bestBelt 44 = .ok (.getfield 12, 3) := by decide +kernel
theorem dX10_bestBelt_47 : decode cX10_bestBelt 47 = .ok (.iload_n 2, 1) := by decide +kernel
theorem dX10_bestBelt_48 : decode cX10_bestBelt 48 = .ok (.invokevirtual 119, 3) := by decide +kernel
theorem dX10_bestBelt_51 : decode cX10_bestBelt 51 = .ok (.aload_n 0, 1) := by decide +kernel
theorem dX10_bestBelt_52 : decode cX10_bestBelt 52 = .ok (.getfield 12, 3) := by decide +kernel
theorem dX10_bestBelt_55 : decode cX10_bestBelt 55 = .ok (.iload_n 1, 1) := by decide +kernel
theorem dX10_bestBelt_56 : decode cX10_bestBelt 56 = .ok (.invokevirtual 119, 3) := by decide +kernel
theorem dX10_bestBelt_59 : decode cX10_bestBelt 59 = .ok (.if_icmp .le 5, 3) := by decide +kernel
theorem dX10_bestBelt_62 : decode cX10_bestBelt 62 = .ok (.iload_n 2, 1) := by decide +kernel
theorem dX10_bestBelt_63 : decode cX10_bestBelt 63 = .ok (.istore_n 1, 1) := by decide +kernel
theorem dX10_bestBelt_64 : decode cX10_bestBelt 64 = .ok (.iinc 2 1, 3) := by decide +kernel
theorem dX10_bestBelt_67 : decode cX10_bestBelt 67 = .ok (.goto (-59), 3) := by decide +kernel
theorem dX10_bestBelt_70 : decode cX10_bestBelt 70 = .ok (.iload_n 1, 1) := by decide +kernel
theorem dX10_bestBelt_71 : decode cX10_bestBelt 71 = .ok (.ireturn, 1) := by decide +kernel
theorem dX10_trueShare_0 : decode cX10_trueShare 0 = .ok (.aload_n 0, 1) := by decide +kernel
theorem dX10_trueShare_1 : decode cX10_trueShare 1 = .ok (.getfield 12, 3) := by decide +kernel
theorem dX10_trueShare_4 : decode cX10_trueShare 4 = .ok (.invokestatic 236, 3) := by decide +kernel
theorem dX10_trueShare_7 : decode cX10_trueShare 7 = .ok (.dreturn, 1) := by decide +kernel
theorem dX10_digest_0 : decode cX10_digest 0 = .ok (.ldc2_w 240, 3) := by decide +kernel
theorem dX10_digest_3 : decode cX10_digest 3 = .ok (.lstore_n 1, 1) := by decide +kernel
theorem dX10_digest_4 : decode cX10_digest 4 = .ok (.iconst 0, 1) := by decide +kernel
theorem dX10_digest_5 : decode cX10_digest 5 = .ok (.istore_n 3, 1) := by decide +kernel
theorem dX10_digest_6 : decode cX10_digest 6 = .ok (.iload_n 3, 1) := by decide +kernel
theorem dX10_digest_7 : decode cX10_digest 7 = .ok (.bipush 12, 2) := by decide +kernel
theorem dX10_digest_9 : decode cX10_digest 9 = .ok (.if_icmp .gt 25, 3) := by decide +kernel
theorem dX10_digest_12 : decode cX10_digest 12 = .ok (.ldc2_w 242, 3) := by decide +kernel
theorem dX10_digest_15 : decode cX10_digest 15 = .ok (.lload_n 1, 1) := by decide +kernel
theorem dX10_digest_16 : decode cX10_digest 16 = .ok (.lmul, 1) := by decide +kernel
theorem dX10_digest_17 : decode cX10_digest 17 = .ok (.aload_n 0, 1) := by decide +kernel
theorem dX10_digest_18 : decode cX10_digest 18 = .ok (.getfield 12, 3) := by decide +kernel
theorem dX10_digest_21 : decode cX10_digest 21 = .ok (.iload_n 3, 1) := by decide +kernel
theorem dX10_digest_22 : decode cX10_digest 22 = .ok (.invokestatic 230, 3) := by decide +kernel
theorem dX10_digest_25 : decode cX10_digest 25 = .ok (.i2l, 1) := by decide +kernel
theorem dX10_digest_26 : decode cX10_digest 26 = .ok (.ladd, 1) := by decide +kernel
theorem dX10_digest_27 : decode cX10_digest 27 = .ok (.lstore_n 1, 1) := by decide +kernel
theorem dX10_digest_28 : decode cX10_digest 28 = .ok (.iinc 3 1, 3) := by decide +kernel
theorem dX10_digest_31 : decode cX10_digest 31 = .ok (.goto (-25), 3) := by decide +kernel
theorem dX10_digest_34 : decode cX10_digest 34 = .ok (.ldc2_w 242, 3) := by decide +kernel
theorem dX10_digest_37 : decode cX10_digest 37 = .ok (.lload_n 1, 1) := by decide +kernel
theorem dX10_digest_38 : decode cX10_digest 38 = .ok (.lmul, 1) := by decide +kernel
theorem dX10_digest_39 : decode cX10_digest 39 = .ok (.aload_n 0, 1) := by decide +kernel
theorem dX10_digest_40 : decode cX10_digest 40 = .ok (.getfield 19, 3) := by decide +kernel
theorem dX10_digest_43 : decode cX10_digest 43 = .ok (.invokevirtual 179, 3) := by decide +kernel
theorem dX10_digest_46 : decode cX10_digest 46 = .ok (.i2l, 1) := by decide +kernel
theorem dX10_digest_47 : decode cX10_digest 47 = .ok (.ladd, 1) := by decide +kernel
theorem dX10_digest_48 : decode cX10_digest 48 = .ok (.lstore_n 1, 1) := by decide +kernel
theorem dX10_digest_49 : decode cX10_digest 49 = .ok (.aload_n 0, 1) := by decide +kernel
theorem dX10_digest_50 : decode cX10_digest 50 = .ok (.getfield 12, 3) := by decide +kernel
theorem dX10_digest_53 : decode cX10_digest 53 = .ok (.lload_n 1, 1) := by decide +kernel
theorem dX10_digest_54 : decode cX10_digest 54 = .ok (.invokestatic 244, 3) := by decide +kernel
theorem dX10_digest_57 : decode cX10_digest 57 = .ok (.lstore_n 1, 1) := by decide +kernel
theorem dX10_digest_58 : decode cX10_digest 58 = .ok (.iconst 0, 1) := by decide +kernel
theorem dX10_digest_59 : decode cX10_digest 59 = .ok (.istore_n 3, 1) := by decide +kernel
theorem dX10_digest_60 : decode cX10_digest 60 = .ok (.iload_n 3, 1) := by decide +kernel
theorem dX10_digest_61 : decode cX10_digest 61 = .ok (.iconst 5, 1) := by decide +kernel
theorem dX10_digest_62 : decode cX10_digest 62 = .ok (.if_icmp .ge 29, 3) := by decide +kernel
theorem dX10_digest_65 : decode cX10_digest 65 = .ok (.aload_n 0, 1) := by decide +kernel
theorem dX10_digest_66 : decode cX10_digest 66 = .ok (.getfield 12, 3) := by decide +kernel
theorem dX10_digest_69 : decode cX10_digest 69 = .ok (.iload_n 3, 1) := by decide +kernel
theorem dX10_digest_70 : decode cX10_digest 70 = .ok (.lload_n 1, 1) := by decide +kernel
theorem dX10_digest_71 : decode cX10_digest 71 = .ok (.invokestatic 250, 3) := by decide +kernel
theorem dX10_digest_74 : decode cX10_digest 74 = .ok (.lstore_n 1, 1) := by decide +kernel
theorem dX10_digest_75 : decode cX10_digest 75 = .ok (.aload_n 0, 1) := by decide +kernel
theorem dX10_digest_76 : decode cX10_digest 76 = .ok (.getfield 12, 3) := by decide +kernel
theorem dX10_digest_79 : decode cX10_digest 79 = .ok (.iload_n 3, 1) := by decide +kernel
theorem dX10_digest_80 : decode cX10_digest 80 = .ok (.lload_n 1, 1) := by decide +kernel
theorem dX10_digest_81 : decode cX10_digest 81 = .ok (.invokestatic 254, 3) := by decide +kernel
theorem dX10_digest_84 : decode cX10_digest 84 = .ok (.lstore_n 1, 1) := by decide +kernel
theorem dX10_digest_85 : decode cX10_digest 85 = .ok (.iinc 3 1, 3) := by decide +kernel
theorem dX10_digest_88 : decode cX10_digest 88 = .ok (.goto (-28), 3) := by decide +kernel
theorem dX10_digest_91 : decode cX10_digest 91 = .ok (.aload_n 0, 1) := by decide +kernel
theorem dX10_digest_92 : decode cX10_digest 92 = .ok (.getfield 12, 3) := by decide +kernel
theorem dX10_digest_95 : decode cX10_digest 95 = .ok (.lload_n 1, 1) := by decide +kernel
theorem dX10_digest_96 : decode cX10_digest 96 = .ok (.invokestatic 257, 3) := by decide +kernel
theorem dX10_digest_99 : decode cX10_digest 99 = .ok (.lstore_n 1, 1) := by decide +kernel
theorem dX10_digest_100 : decode cX10_digest 100 = .ok (.iconst 0, 1) := by decide +kernel
theorem dX10_digest_101 : decode cX10_digest 101 = .ok (.istore_n 3, 1) := by decide +kernel
theorem dX10_digest_102 : decode cX10_digest 102 = .ok (.iload_n 3, 1) := by decide +kernel
theorem dX10_digest_103 : decode cX10_digest 103 = .ok (.iconst 1, 1) := by decide +kernel
theorem dX10_digest_104 : decode cX10_digest 104 = .ok (.if_icmp .gt 22, 3) := by decide +kernel
theorem dX10_digest_107 : decode cX10_digest 107 = .ok (.ldc2_w 242, 3) := by decide +kernel
theorem dX10_digest_110 : decode cX10_digest 110 = .ok (.lload_n 1, 1) := by decide +kernel
theorem dX10_digest_111 : decode cX10_digest 111 = .ok (.lmul, 1) := by decide +kernel
theorem dX10_digest_112 : decode cX10_digest 112 = .ok (.aload_n 0, 1) := by decide +kernel
theorem dX10_digest_113 : decode cX10_digest 113 = .ok (.iload_n 3, 1) := by decide +kernel
theorem dX10_digest_114 : decode cX10_digest 114 = .ok (.invokevirtual 169, 3) := by decide +kernel
theorem dX10_digest_117 : decode cX10_digest 117 = .ok (.i2l, 1) := by decide +kernel
theorem dX10_digest_118 : decode cX10_digest 118 = .ok (.ladd, 1) := by decide +kernel
theorem dX10_digest_119 : decode cX10_digest 119 = .ok (.lstore_n 1, 1) := by decide +kernel
theorem dX10_digest_120 : decode cX10_digest 120 = .ok (.iinc 3 1, 3) := by decide +kernel
theorem dX10_digest_123 : decode cX10_digest 123 = .ok (.goto (-21), 3) := by decide +kernel
theorem dX10_digest_126 : decode cX10_digest 126 = .ok (.ldc2_w 242, 3) := by decide +kernel
theorem dX10_digest_129 : decode cX10_digest 129 = .ok (.lload_n 1, 1) := by decide +kernel
theorem dX10_digest_130 : decode cX10_digest 130 = .ok (.lmul, 1) := by decide +kernel
theorem dX10_digest_131 : decode cX10_digest 131 = .ok (.aload_n 0, 1) := by decide +kernel
theorem dX10_digest_132 : decode cX10_digest 132 = .ok (.getfield 12, 3) := by decide +kernel
theorem dX10_digest_135 : decode cX10_digest 135 = .ok (.invokestatic 236, 3) := by decide +kernel
theorem dX10_digest_138 : decode cX10_digest 138 = .ok (.invokestatic 260, 3) := by decide +kernel
theorem dX10_digest_141 : decode cX10_digest 141 = .ok (.ladd, 1) := by decide +kernel
theorem dX10_digest_142 : decode cX10_digest 142 = .ok (.lstore_n 1, 1) := by decide +kernel
theorem dX10_digest_143 : decode cX10_digest 143 = .ok (.aload_n 0, 1) := by decide +kernel
theorem dX10_digest_144 : decode cX10_digest 144 = .ok (.getfield 26, 3) := by decide +kernel
theorem dX10_digest_147 : decode cX10_digest 147 = .ok (.lload_n 1, 1) := by decide +kernel
theorem dX10_digest_148 : decode cX10_digest 148 = .ok (.invokestatic 264, 3) := by decide +kernel
theorem dX10_digest_151 : decode cX10_digest 151 = .ok (.lreturn, 1) := by decide +kernel
theorem dX10_needFisher_0 : decode cX10_needFisher 0 = .ok (.iload_n 0, 1) := by decide +kernel
theorem dX10_needFisher_1 : decode cX10_needFisher 1 = .ok (.ifCond .lt 8, 3) := by decide +kernel
theorem dX10_needFisher_4 : decode cX10_needFisher 4 = .ok (.iload_n 0, 1) := by decide +kernel
theorem dX10_needFisher_5 : decode cX10_needFisher 5 = .ok (.iconst 5, 1) := by decide +kernel
theorem dX10_needFisher_6 : decode cX10_needFisher 6 = .ok (.if_icmp .lt 14, 3) := by decide +kernel
theorem dX10_needFisher_9 : decode cX10_needFisher 9 = .ok (.new 127, 3) := by decide +kernel
theorem dX10_needFisher_12 : decode cX10_needFisher 12 = .ok (.dup, 1) := by decide +kernel
theorem dX10_needFisher_13 : decode cX10_needFisher 13 = .ok (.ldc_w 268, 3) := by decide +kernel
theorem dX10_needFisher_16 : decode cX10_needFisher 16 = .ok (.invokespecial 131, 3) := by decide +kernel
theorem dX10_needFisher_19 : decode cX10_needFisher 19 = .ok (.athrow, 1) := by decide +kernel
theorem dX10_needFisher_20 : decode cX10_needFisher 20 = .ok (.return_, 1) := by decide +kernel
theorem dX10_needName_0 : decode cX10_needName 0 = .ok (.iload_n 1, 1) := by decide +kernel
theorem dX10_needName_1 : decode cX10_needName 1 = .ok (.invokestatic 44, 3) := by decide +kernel
theorem dX10_needName_4 : decode cX10_needName 4 = .ok (.aload_n 0, 1) := by decide +kernel
theorem dX10_needName_5 : decode cX10_needName 5 = .ok (.getfield 12, 3) := by decide +kernel
theorem dX10_needName_8 : decode cX10_needName 8 = .ok (.iload_n 1, 1) := by decide +kernel
theorem dX10_needName_9 : decode cX10_needName 9 = .ok (.iload_n 2, 1) := by decide +kernel
theorem dX10_needName_10 : decode cX10_needName 10 = .ok (.invokevirtual 270, 3) := by decide +kernel
theorem dX10_needName_13 : decode cX10_needName 13 = .ok (.ifCond .ne 14, 3) := by decide +kernel
theorem dX10_needName_16 : decode cX10_needName 16 = .ok (.new 127, 3) := by decide +kernel
theorem dX10_needName_19 : decode cX10_needName 19 = .ok (.dup, 1) := by decide +kernel
theorem dX10_needName_20 : decode cX10_needName 20 = .ok (.ldc_w 274, 3) := by decide +kernel
theorem dX10_needName_23 : decode cX10_needName 23 = .ok (.invokespecial 131, 3) := by decide +kernel
theorem dX10_needName_26 : decode cX10_needName 26 = .ok (.athrow, 1) := by decide +kernel
theorem dX10_needName_27 : decode cX10_needName 27 = .ok (.return_, 1) := by decide +kernel
theorem dX10_needWord_0 : decode cX10_needWord 0 = .ok (.aload_n 0, 1) := by decide +kernel
theorem dX10_needWord_1 : decode cX10_needWord 1 = .ok (.getfield 26, 3) := by decide +kernel
theorem dX10_needWord_4 : decode cX10_needWord 4 = .ok (.aload_n 0, 1) := by decide +kernel
theorem dX10_needWord_5 : decode cX10_needWord 5 = .ok (.getfield 40, 3) := by decide +kernel
theorem dX10_needWord_8 : decode cX10_needWord 8 = .ok (.invokevirtual 276, 3) := by decide +kernel
theorem dX10_needWord_11 : decode cX10_needWord 11 = .ok (.ifCond .ne 14, 3) := by decide +kernel
theorem dX10_needWord_14 : decode cX10_needWord 14 = .ok (.new 106, 3) := by decide +kernel
theorem dX10_needWord_17 : decode cX10_needWord 17 = .ok (.dup, 1) := by decide +kernel
theorem dX10_needWord_18 : decode cX10_needWord 18 = .ok (.ldc_w 280, 3) := by decide +kernel
theorem dX10_needWord_21 : decode cX10_needWord 21 = .ok (.invokespecial 110, 3) := by decide +kernel
theorem dX10_needWord_24 : decode cX10_needWord 24 = .ok (.athrow, 1) := by decide +kernel
theorem dX10_needWord_25 : decode cX10_needWord 25 = .ok (.return_, 1) := by decide +kernel
theorem dX10_needWhat_0 : decode cX10_needWhat 0 = .ok (.iload_n 0, 1) := by decide +kernel
theorem dX10_needWhat_1 : decode cX10_needWhat 1 = .ok (.ifCond .lt 8, 3) := by decide +kernel
theorem dX10_needWhat_4 : decode cX10_needWhat 4 = .ok (.iload_n 0, 1) := by decide +kernel
theorem dX10_needWhat_5 : decode cX10_needWhat 5 = .ok (.iload_n 1, 1) := by decide +kernel
theorem dX10_needWhat_6 : decode cX10_needWhat 6 = .ok (.if_icmp .le 14, 3) := by decide +kernel
theorem dX10_needWhat_9 : decode cX10_needWhat 9 = .ok (.new 106, 3) := by decide +kernel
theorem dX10_needWhat_12 : decode cX10_needWhat 12 = .ok (.dup, 1) := by decide +kernel
theorem dX10_needWhat_13 : decode cX10_needWhat 13 = .ok (.ldc_w 282, 3) := by decide +kernel
theorem dX10_needWhat_16 : decode cX10_needWhat 16 = .ok (.invokespecial 110, 3) := by decide +kernel
theorem dX10_needWhat_19 : decode cX10_needWhat 19 = .ok (.athrow, 1) := by decide +kernel
theorem dX10_needWhat_20 : decode cX10_needWhat 20 = .ok (.return_, 1) := by decide +kernel
theorem dX10_numberOfStop_0 : decode cX10_numberOfStop 0 = .ok (.aload_n 0, 1) := by decide +kernel
theorem dX10_numberOfStop_1 : decode cX10_numberOfStop 1 = .ok (.getfield 12, 3) := by decide +kernel
theorem dX10_numberOfStop_4 : decode cX10_numberOfStop 4 = .ok (.bipush 6, 2) := by decide +kernel
theorem dX10_numberOfStop_6 : decode cX10_numberOfStop 6 = .ok (.invokevirtual 115, 3) := by decide +kernel
theorem dX10_numberOfStop_9 : decode cX10_numberOfStop 9 = .ok (.ifCond .ne 5, 3) := by decide +kernel
theorem dX10_numberOfStop_12 : decode cX10_numberOfStop 12 = .ok (.iconst (-1), 1) := by decide +kernel
theorem dX10_numberOfStop_13 : decode cX10_numberOfStop 13 = .ok (.ireturn, 1) := by decide +kernel
theorem dX10_numberOfStop_14 : decode cX10_numberOfStop 14 = .ok (.aload_n 0, 1) := by decide +kernel
theorem dX10_numberOfStop_15 : decode cX10_numberOfStop 15 = .ok (.getfield 12, 3) := by decide +kernel
theorem dX10_numberOfStop_18 : decode cX10_numberOfStop 18 = .ok (.iload_n 1, 1) := by decide +kernel
theorem dX10_numberOfStop_19 : decode cX10_numberOfStop 19 = .ok (.ifCond .ne 7, 3) := by decide +kernel
theorem dX10_numberOfStop_22 : decode cX10_numberOfStop 22 = .ok (.iconst 5, 1) := by decide +kernel
theorem dX10_numberOfStop_23 : decode cX10_numberOfStop 23 = .ok (.goto 5, 3) := by decide +kernel
theorem dX10_numberOfStop_26 : decode cX10_numberOfStop 26 = .ok (.bipush 6, 2) := by decide +kernel
theorem dX10_numberOfStop_28 : decode cX10_numberOfStop 28 = .ok (.invokevirtual 115, 3) := by decide +kernel
theorem dX10_numberOfStop_31 : decode cX10_numberOfStop 31 = .ok (.ireturn, 1) := by decide +kernel
theorem dX10_whyNotDone_0 : decode cX10_whyNotDone 0 = .ok (.aload_n 0, 1) := by decide +kernel
theorem dX10_whyNotDone_1 : decode cX10_whyNotDone 1 = .ok (.getfield 26, 3) := by decide +kernel
theorem dX10_whyNotDone_4 : decode cX10_whyNotDone 4 = .ok (.iload_n 1, 1) := by decide +kernel
theorem dX10_whyNotDone_5 : decode cX10_whyNotDone 5 = .ok (.invokevirtual 284, 3) := by decide +kernel
theorem dX10_whyNotDone_8 : decode cX10_whyNotDone 8 = .ok (.istore_n 2, 1) := by decide +kernel
theorem dX10_whyNotDone_9 : decode cX10_whyNotDone 9 = .ok (.iload_n 1, 1) := by decide +kernel
theorem dX10_whyNotDone_10 : decode cX10_whyNotDone 10 = .ok (.iload_n 2, 1) := by decide +kernel
theorem dX10_whyNotDone_11 : decode cX10_whyNotDone 11 = .ok (.invokestatic 285, 3) := by decide +kernel
theorem dX10_whyNotDone_14 : decode cX10_whyNotDone 14 = .ok (.iadd, 1) := by decide +kernel
theorem dX10_whyNotDone_15 : decode cX10_whyNotDone 15 = .ok (.istore_n 3, 1) := by decide +kernel
theorem dX10_whyNotDone_16 : decode cX10_whyNotDone 16 = .ok (.aload_n 0, 1) := by decide +kernel
theorem dX10_whyNotDone_17 : decode cX10_whyNotDone 17 = .ok (.getfield 26, 3) := by decide +kernel
theorem dX10_whyNotDone_20 : decode cX10_whyNotDone 20 = .ok (.iload_n 3, 1) := by decide +kernel
theorem dX10_whyNotDone_21 : decode cX10_whyNotDone 21 = .ok (.invokevirtual 288, 3) := by decide +kernel
theorem dX10_whyNotDone_24 : decode cX10_whyNotDone 24 = .ok (.istore 4, 2) := by decide +kernel
theorem dX10_whyNotDone_26 : decode cX10_whyNotDone 26 = .ok (.iload_n 2, 1) := by decide +kernel
theorem dX10_whyNotDone_27 : decode cX10_whyNotDone 27 = .ok (.bipush 115, 2) := by decide +kernel
theorem dX10_whyNotDone_29 : decode cX10_whyNotDone 29 = .ok (.if_icmp .ne 5, 3) := by decide +kernel
theorem dX10_whyNotDone_32 : decode cX10_whyNotDone 32 = .ok (.iconst 0, 1) := by decide +kernel
theorem dX10_whyNotDone_33 : decode cX10_whyNotDone 33 = .ok (.ireturn, 1) := by decide +kernel
theorem dX10_whyNotDone_34 : decode cX10_whyNotDone 34 = .ok (.iload_n 2, 1) := by decide +kernel
theorem dX10_whyNotDone_35 : decode cX10_whyNotDone 35 = .ok (.bipush 116, 2) := by decide +kernel
theorem dX10_whyNotDone_37 : decode cX10_whyNotDone 37 = .ok (.if_icmp .ne 40, 3) := by decide +kernel
theorem dX10_whyNotDone_40 : decode cX10_whyNotDone 40 = .ok (.aload_n 0, 1) := by decide +kernel
theorem dX10_whyNotDone_41 : decode cX10_whyNotDone 41 = .ok (.getfield 26, 3) := by decide +kernel
theorem dX10_whyNotDone_44 : decode cX10_whyNotDone 44 = .ok (.aload_n 0, 1) := by decide +kernel
theorem dX10_whyNotDone_45 : decode cX10_whyNotDone 45 = .ok (.getfield 40, 3) := by decide +kernel
theorem dX10_whyNotDone_48 : decode cX10_whyNotDone 48 = .ok (.iload_n 3, 1) := by decide +kernel
theorem dX10_whyNotDone_49 : decode cX10_whyNotDone 49 = .ok (.iconst 2, 1) := by decide +kernel
theorem dX10_whyNotDone_50 : decode cX10_whyNotDone 50 = .ok (.iadd, 1) := by decide +kernel
theorem dX10_whyNotDone_51 : decode cX10_whyNotDone 51 = .ok (.aload_n 0, 1) := by decide +kernel
theorem dX10_whyNotDone_52 : decode cX10_whyNotDone 52 = .ok (.getfield 26, 3) := by decide +kernel
theorem dX10_whyNotDone_55 : decode cX10_whyNotDone 55 = .ok (.iload_n 1, 1) := by decide +kernel
theorem dX10_whyNotDone_56 : decode cX10_whyNotDone 56 = .ok (.invokevirtual 291, 3) := by decide +kernel
theorem dX10_whyNotDone_59 : decode cX10_whyNotDone 59 = .ok (.invokevirtual 294, 3) := by decide +kernel
theorem dX10_whyNotDone_62 : decode cX10_whyNotDone 62 = .ok (.pop, 1) := by decide +kernel
theorem dX10_whyNotDone_63 : decode cX10_whyNotDone 63 = .ok (.aload_n 0, 1) := by decide +kernel
theorem dX10_whyNotDone_64 : decode cX10_whyNotDone 64 = .ok (.getfield 12, 3) := by decide +kernel
theorem dX10_whyNotDone_67 : decode cX10_whyNotDone 67 = .ok (.aload_n 0, 1) := by decide +kernel
theorem dX10_whyNotDone_68 : decode cX10_whyNotDone 68 = .ok (.getfield 40, 3) := by decide +kernel
theorem dX10_whyNotDone_71 : decode cX10_whyNotDone 71 = .ok (.iload 4, 2) := by decide +kernel
theorem dX10_whyNotDone_73 : decode cX10_whyNotDone 73 = .ok (.invokestatic 51, 3) := by decide +kernel
theorem dX10_whyNotDone_76 : decode cX10_whyNotDone 76 = .ok (.ireturn, 1) := by decide +kernel
theorem dX10_whyNotDone_77 : decode cX10_whyNotDone 77 = .ok (.aload_n 0, 1) := by decide +kernel
theorem dX10_whyNotDone_78 : decode cX10_whyNotDone 78 = .ok (.getfield 26, 3) := by decide +kernel
theorem dX10_whyNotDone_81 : decode cX10_whyNotDone 81 = .ok (.iload_n 3, 1) := by decide +kernel
theorem dX10_whyNotDone_82 : decode cX10_whyNotDone 82 = .ok (.iconst 2, 1) := by decide +kernel
theorem dX10_whyNotDone_83 : decode cX10_whyNotDone 83 = .ok (.iadd, 1) := by decide +kernel
theorem dX10_whyNotDone_84 : decode cX10_whyNotDone 84 = .ok (.invokevirtual 288, 3) := by decide +kernel
theorem dX10_whyNotDone_87 : decode cX10_whyNotDone 87 = .ok (.istore 5, 2) := by decide +kernel
theorem dX10_whyNotDone_89 : decode cX10_whyNotDone 89 = .ok (.aload_n 0, 1) := by decide +kernel
theorem dX10_whyNotDone_90 : decode cX10_whyNotDone 90 = .ok (.getfield 12, 3) := by decide +kernel
theorem dX10_whyNotDone_93 : decode cX10_whyNotDone 93 = .ok (.iload 4, 2) := by decide +kernel
theorem dX10_whyNotDone_95 : decode cX10_whyNotDone 95 = .ok (.iload 5, 2) := by decide +kernel
theorem dX10_whyNotDone_97 : decode cX10_whyNotDone 97 = .ok (.invokevirtual 270, 3) := by decide +kernel
theorem dX10_whyNotDone_100 : decode cX10_whyNotDone 100 = .ok (.ifCond .ne 6, 3) := by decide +kernel
theorem dX10_whyNotDone_103 : decode cX10_whyNotDone 103 = .ok (.bipush 6, 2) := by decide +kernel
theorem dX10_whyNotDone_105 : decode cX10_whyNotDone 105 = .ok (.ireturn, 1) := by decide +kernel
theorem dX10_whyNotDone_106 : decode cX10_whyNotDone 106 = .ok (.iload_n 2, 1) := by decide +kernel
theorem dX10_whyNotDone_107 : decode cX10_whyNotDone 107 = .ok (.bipush 103, 2) := by decide +kernel
theorem dX10_whyNotDone_109 : decode cX10_whyNotDone 109 = .ok (.if_icmp .ne 29, 3) := by decide +kernel
theorem dX10_whyNotDone_112 : decode cX10_whyNotDone 112 = .ok (.aload_n 0, 1) := by decide +kernel
theorem dX10_whyNotDone_113 : decode cX10_whyNotDone 113 = .ok (.getfield 12, 3) := by decide +kernel
theorem dX10_whyNotDone_116 : decode cX10_whyNotDone 116 = .ok (.aload_n 0, 1) := by decide +kernel
theorem dX10_whyNotDone_117 : decode cX10_whyNotDone 117 = .ok (.getfield 40, 3) := by decide +kernel
theorem dX10_whyNotDone_120 : decode cX10_whyNotDone 120 = .ok (.iload 4, 2) := by decide +kernel
theorem dX10_whyNotDone_122 : decode cX10_whyNotDone 122 = .ok (.iload 5, 2) := by decide +kernel
theorem dX10_whyNotDone_124 : decode cX10_whyNotDone 124 = .ok (.aload_n 0, 1) := by decide +kernel
theorem dX10_whyNotDone_125 : decode cX10_whyNotDone 125 = .ok (.getfield 26, 3) := by decide +kernel
theorem dX10_whyNotDone_128 : decode cX10_whyNotDone 128 = .ok (.iload_n 3, 1) := by decide +kernel
theorem dX10_whyNotDone_129 : decode cX10_whyNotDone 129 = .ok (.iconst 4, 1) := by decide +kernel
theorem dX10_whyNotDone_130 : decode cX10_whyNotDone 130 = .ok (.iadd, 1) := by decide +kernel
theorem dX10_whyNotDone_131 : decode cX10_whyNotDone 131 = .ok (.invokevirtual 288, 3) := by decide +kernel
theorem dX10_whyNotDone_134 : decode cX10_whyNotDone 134 = .ok (.invokestatic 91, 3) := by decide +kernel
theorem dX10_whyNotDone_137 : decode cX10_whyNotDone 137 = .ok (.ireturn, 1) := by decide +kernel
theorem dX10_whyNotDone_138 : decode cX10_whyNotDone 138 = .ok (.iload_n 2, 1) := by decide +kernel
theorem dX10_whyNotDone_139 : decode cX10_whyNotDone 139 = .ok (.bipush 102, 2) := by decide +kernel
theorem dX10_whyNotDone_141 : decode cX10_whyNotDone 141 = .ok (.if_icmp .ne 17, 3) := by decide +kernel
theorem dX10_whyNotDone_144 : decode cX10_whyNotDone 144 = .ok (.aload_n 0, 1) := by decide +kernel
theorem dX10_whyNotDone_145 : decode cX10_whyNotDone 145 = .ok (.getfield 12, 3) := by decide +kernel
theorem dX10_whyNotDone_148 : decode cX10_whyNotDone 148 = .ok (.iload 4, 2) := by decide +kernel
theorem dX10_whyNotDone_150 : decode cX10_whyNotDone 150 = .ok (.iload 5, 2) := by decide +kernel
theorem dX10_whyNotDone_152 : decode cX10_whyNotDone 152 = .ok (.invokestatic 83, 3) := by decide +kernel
theorem dX10_whyNotDone_155 : decode cX10_whyNotDone 155 = .ok (.goto 4, 3) := by decide +kernel
theorem dX10_whyNotDone_158 : decode cX10_whyNotDone 158 = .ok (.iconst 0, 1) := by decide +kernel
theorem dX10_whyNotDone_159 : decode cX10_whyNotDone 159 = .ok (.ireturn, 1) := by decide +kernel
theorem dX10_doPart_0 : decode cX10_doPart 0 = .ok (.aload_n 0, 1) := by decide +kernel
theorem dX10_doPart_1 : decode cX10_doPart 1 = .ok (.getfield 26, 3) := by decide +kernel
theorem dX10_doPart_4 : decode cX10_doPart 4 = .ok (.iload_n 1, 1) := by decide +kernel
theorem dX10_doPart_5 : decode cX10_doPart 5 = .ok (.invokevirtual 284, 3) := by decide +kernel
theorem dX10_doPart_8 : decode cX10_doPart 8 = .ok (.istore_n 2, 1) := by decide +kernel
theorem dX10_doPart_9 : decode cX10_doPart 9 = .ok (.iload_n 1, 1) := by decide +kernel
theorem dX10_doPart_10 : decode cX10_doPart 10 = .ok (.iload_n 2, 1) := by decide +kernel
theorem dX10_doPart_11 : decode cX10_doPart 11 = .ok (.invokestatic 285, 3) := by decide +kernel
theorem dX10_doPart_14 : decode cX10_doPart 14 = .ok (.iadd, 1) := by decide +kernel
theorem dX10_doPart_15 : decode cX10_doPart 15 = .ok (.istore_n 3, 1) := by decide +kernel
theorem dX10_doPart_16 : decode cX10_doPart 16 = .ok (.aload_n 0, 1) := by decide +kernel
theorem dX10_doPart_17 : decode cX10_doPart 17 = .ok (.getfield 26, 3) := by decide +kernel
theorem dX10_doPart_20 : decode cX10_doPart 20 = .ok (.iload_n 3, 1) := by decide +kernel
theorem dX10_doPart_21 : decode cX10_doPart 21 = .ok (.invokevirtual 288, 3) := by decide +kernel
theorem dX10_doPart_24 : decode cX10_doPart 24 = .ok (.istore 4, 2) := by decide +kernel
theorem dX10_doPart_26 : decode cX10_doPart 26 = .ok (.aload_n 0, 1) := by decide +kernel
theorem dX10_doPart_27 : decode cX10_doPart 27 = .ok (.getfield 26, 3) := by decide +kernel
theorem dX10_doPart_30 : decode cX10_doPart 30 = .ok (.iload_n 3, 1) := by decide +kernel
theorem dX10_doPart_31 : decode cX10_doPart 31 = .ok (.iconst 2, 1) := by decide +kernel
theorem dX10_doPart_32 : decode cX10_doPart 32 = .ok (.iadd, 1) := by decide +kernel
theorem dX10_doPart_33 : decode cX10_doPart 33 = .ok (.invokevirtual 288, 3) := by decide +kernel
theorem dX10_doPart_36 : decode cX10_doPart 36 = .ok (.istore 5, 2) := by decide +kernel
theorem dX10_doPart_38 : decode cX10_doPart 38 = .ok (.iload_n 2, 1) := by decide +kernel
theorem dX10_doPart_39 : decode cX10_doPart 39 = .ok (.lookupswitch 115 #[(102, 100), (103, 71), (115, 58), (116, 41)], 41) := by decide +kernel
theorem dX10_doPart_80 : decode cX10_doPart 80 = .ok (.aload_n 0, 1) := by decide +kernel
theorem dX10_doPart_81 : decode cX10_doPart 81 = .ok (.getfield 12, 3) := by decide +kernel
theorem dX10_doPart_84 : decode cX10_doPart 84 = .ok (.aload_n 0, 1) := by decide +kernel
theorem dX10_doPart_85 : decode cX10_doPart 85 = .ok (.getfield 40, 3) := by decide +kernel
theorem dX10_doPart_88 : decode cX10_doPart 88 = .ok (.iload 4, 2) := by decide +kernel
theorem dX10_doPart_90 : decode cX10_doPart 90 = .ok (.invokestatic 72, 3) := by decide +kernel
theorem dX10_doPart_93 : decode cX10_doPart 93 = .ok (.pop, 1) := by decide +kernel
theorem dX10_doPart_94 : decode cX10_doPart 94 = .ok (.goto 72, 3) := by decide +kernel
theorem dX10_doPart_97 : decode cX10_doPart 97 = .ok (.aload_n 0, 1) := by decide +kernel
theorem dX10_doPart_98 : decode cX10_doPart 98 = .ok (.getfield 12, 3) := by decide +kernel
theorem dX10_doPart_101 : decode cX10_doPart 101 = .ok (.iload 4, 2) := by decide +kernel
theorem dX10_doPart_103 : decode cX10_doPart 103 = .ok (.invokestatic 100, 3) := by decide +kernel
theorem dX10_doPart_106 : decode cX10_doPart 106 = .ok (.pop, 1) := by decide +kernel
theorem dX10_doPart_107 : decode cX10_doPart 107 = .ok (.goto 59, 3) := by decide +kernel
theorem dX10_doPart_110 : decode cX10_doPart 110 = .ok (.aload_n 0, 1) := by decide +kernel
theorem dX10_doPart_111 : decode cX10_doPart 111 = .ok (.getfield 12, 3) := by decide +kernel
theorem dX10_doPart_114 : decode cX10_doPart 114 = .ok (.aload_n 0, 1) := by decide +kernel
theorem dX10_doPart_115 : decode cX10_doPart 115 = .ok (.getfield 40, 3) := by decide +kernel
theorem dX10_doPart_118 : decode cX10_doPart 118 = .ok (.iload 4, 2) := by decide +kernel
theorem dX10_doPart_120 : decode cX10_doPart 120 = .ok (.iload 5, 2) := by decide +kernel
theorem dX10_doPart_122 : decode cX10_doPart 122 = .ok (.aload_n 0, 1) := by decide +kernel
theorem dX10_doPart_123 : decode cX10_doPart 123 = .ok (.getfield 26, 3) := by decide +kernel
theorem dX10_doPart_126 : decode cX10_doPart 126 = .ok (.iload_n 3, 1) := by decide +kernel
theorem dX10_doPart_127 : decode cX10_doPart 127 = .ok (.iconst 4, 1) := by decide +kernel
theorem dX10_doPart_128 : decode cX10_doPart 128 = .ok (.iadd, 1) := by decide +kernel
theorem dX10_doPart_129 : decode cX10_doPart 129 = .ok (.invokevirtual 288, 3) := by decide +kernel
theorem dX10_doPart_132 : decode cX10_doPart 132 = .ok (.invokestatic 97, 3) := by decide +kernel
theorem dX10_doPart_135 : decode cX10_doPart 135 = .ok (.pop, 1) := by decide +kernel
theorem dX10_doPart_136 : decode cX10_doPart 136 = .ok (.goto 30, 3) := by decide +kernel
theorem dX10_doPart_139 : decode cX10_doPart 139 = .ok (.aload_n 0, 1) := by decide +kernel
theorem dX10_doPart_140 : decode cX10_doPart 140 = .ok (.getfield 12, 3) := by decide +kernel
theorem dX10_doPart_143 : decode cX10_doPart 143 = .ok (.iload 4, 2) := by decide +kernel
theorem dX10_doPart_145 : decode cX10_doPart 145 = .ok (.iload 5, 2) := by decide +kernel
theorem dX10_doPart_147 : decode cX10_doPart 147 = .ok (.invokestatic 88, 3) := by decide +kernel
theorem dX10_doPart_150 : decode cX10_doPart 150 = .ok (.pop, 1) := by decide +kernel
theorem dX10_doPart_151 : decode cX10_doPart 151 = .ok (.goto 15, 3) := by decide +kernel
theorem dX10_doPart_154 : decode cX10_doPart 154 = .ok (.aload_n 0, 1) := by decide +kernel
theorem dX10_doPart_155 : decode cX10_doPart 155 = .ok (.getfield 12, 3) := by decide +kernel
theorem dX10_doPart_158 : decode cX10_doPart 158 = .ok (.iload 4, 2) := by decide +kernel
theorem dX10_doPart_160 : decode cX10_doPart 160 = .ok (.iload 5, 2) := by decide +kernel
theorem dX10_doPart_162 : decode cX10_doPart 162 = .ok (.invokestatic 79, 3) := by decide +kernel
theorem dX10_doPart_165 : decode cX10_doPart 165 = .ok (.pop, 1) := by decide +kernel
theorem dX10_doPart_166 : decode cX10_doPart 166 = .ok (.return_, 1) := by decide +kernel
theorem dX11_init_0 : decode cX11_init 0 = .ok (.aload_n 0, 1) := by decide +kernel
theorem dX11_init_1 : decode cX11_init 1 = .ok (.invokespecial 1, 3) := by decide +kernel
theorem dX11_init_4 : decode cX11_init 4 = .ok (.aload_n 0, 1) := by decide +kernel
theorem dX11_init_5 : decode cX11_init 5 = .ok (.sipush 406, 3) := by decide +kernel
theorem dX11_init_8 : decode cX11_init 8 = .ok (.newarray .int, 2) := by decide +kernel
theorem dX11_init_10 : decode cX11_init 10 = .ok (.putfield 7, 3) := by decide +kernel
theorem dX11_init_13 : decode cX11_init 13 = .ok (.aload_n 0, 1) := by decide +kernel
theorem dX11_init_14 : decode cX11_init 14 = .ok (.sipush 2436, 3) := by decide +kernel
theorem dX11_init_17 : decode cX11_init 17 = .ok (.newarray .int, 2) := by decide +kernel
theorem dX11_init_19 : decode cX11_init 19 = .ok (.putfield 13, 3) := by decide +kernel
theorem dX11_init_22 : decode cX11_init 22 = .ok (.aload_n 0, 1) := by decide +kernel
theorem dX11_init_23 : decode cX11_init 23 = .ok (.sipush 406, 3) := by decide +kernel
theorem dX11_init_26 : decode cX11_init 26 = .ok (.newarray .int, 2) := by decide +kernel
theorem dX11_init_28 : decode cX11_init 28 = .ok (.putfield 16, 3) := by decide +kernel
theorem dX11_init_31 : decode cX11_init 31 = .ok (.aload_n 0, 1) := by decide +kernel
theorem dX11_init_32 : decode cX11_init 32 = .ok (.bipush 60, 2) := by decide +kernel
theorem dX11_init_34 : decode cX11_init 34 = .ok (.newarray .int, 2) := by decide +kernel
theorem dX11_init_36 : decode cX11_init 36 = .ok (.putfield 19, 3) := by decide +kernel
theorem dX11_init_39 : decode cX11_init 39 = .ok (.aload_n 0, 1) := by decide +kernel
theorem dX11_init_40 : decode cX11_init 40 = .ok (.getfield 7, 3) := by decide +kernel
theorem dX11_init_43 : decode cX11_init 43 = .ok (.iconst 4, 1) := by decide +kernel
theorem dX11_init_44 : decode cX11_init 44 = .ok (.iconst 3, 1) := by decide +kernel
theorem dX11_init_45 : decode cX11_init 45 = .ok (.iastore, 1) := by decide +kernel
theorem dX11_init_46 : decode cX11_init 46 = .ok (.aload_n 0, 1) := by decide +kernel
theorem dX11_init_47 : decode cX11_init 47 = .ok (.getfield 7, 3) := by decide +kernel
theorem dX11_init_50 : decode cX11_init 50 = .ok (.iconst 5, 1) := by decide +kernel
theorem dX11_init_51 : decode cX11_init 51 = .ok (.iconst 1, 1) := by decide +kernel
theorem dX11_init_52 : decode cX11_init 52 = .ok (.iastore, 1) := by decide +kernel
theorem dX11_init_53 : decode cX11_init 53 = .ok (.aload_n 0, 1) := by decide +kernel
theorem dX11_init_54 : decode cX11_init 54 = .ok (.getfield 7, 3) := by decide +kernel
theorem dX11_init_57 : decode cX11_init 57 = .ok (.bipush 6, 2) := by decide +kernel
theorem dX11_init_59 : decode cX11_init 59 = .ok (.iconst (-1), 1) := by decide +kernel
theorem dX11_init_60 : decode cX11_init 60 = .ok (.iastore, 1) := by decide +kernel
theorem dX11_init_61 : decode cX11_init 61 = .ok (.aload_n 0, 1) := by decide +kernel
theorem dX11_init_62 : decode cX11_init 62 = .ok (.getfield 7, 3) := by decide +kernel
theorem dX11_init_65 : decode cX11_init 65 = .ok (.bipush 7, 2) := by decide +kernel
theorem dX11_init_67 : decode cX11_init 67 = .ok (.iconst (-1), 1) := by decide +kernel
theorem dX11_init_68 : decode cX11_init 68 = .ok (.iastore, 1) := by decide +kernel
theorem dX11_init_69 : decode cX11_init 69 = .ok (.iconst 0, 1) := by decide +kernel
theorem dX11_init_70 : decode cX11_init 70 = .ok (.istore_n 1, 1) := by decide +kernel
theorem dX11_init_71 : decode cX11_init 71 = .ok (.iload_n 1, 1) := by decide +kernel
theorem dX11_init_72 : decode cX11_init 72 = .ok (.iconst 5, 1) := by decide +kernel
theorem dX11_init_73 : decode cX11_init 73 = .ok (.if_icmp .ge 24, 3) := by decide +kernel
theorem dX11_init_76 : decode cX11_init 76 = .ok (.aload_n 0, 1) := by decide +kernel
theorem dX11_init_77 : decode cX11_init 77 = .ok (.getfield 7, 3) := by decide +kernel
theorem dX11_init_80 : decode cX11_init 80 = .ok (.bipush 8, 2) := by decide +kernel
theorem dX11_init_82 : decode cX11_init 82 = .ok (.iconst 4, 1) := by decide +kernel
theorem dX11_init_83 : decode cX11_init 83 = .ok (.iload_n 1, 1) := by decide +kernel
theorem dX11_init_84 : decode cX11_init 84 = .ok (.imul, 1) := by decide +kernel
theorem dX11_init_85 : decode cX11_init 85 = .ok (.iadd, 1) := by decide +kernel
theorem dX11_init_86 : decode cX11_init 86 = .ok (.iconst 0, 1) := by decide +kernel
theorem dX11_init_87 : decode cX11_init 87 = .ok (.iadd, 1) := by decide +kernel
theorem dX11_init_88 : decode cX11_init 88 = .ok (.bipush 60, 2) := by decide +kernel
theorem dX11_init_90 : decode cX11_init 90 = .ok (.iastore, 1) := by decide +kernel
theorem dX11_init_91 : decode cX11_init 91 = .ok (.iinc 1 1, 3) := by decide +kernel
theorem dX11_init_94 : decode cX11_init 94 = .ok (.goto (-23), 3) := by decide +kernel
theorem dX11_init_97 : decode cX11_init 97 = .ok (.return_, 1) := by decide +kernel
theorem dX11_thrown_0 : decode cX11_thrown 0 = .ok (.aload_n 0, 1) := by decide +kernel
theorem dX11_thrown_1 : decode cX11_thrown 1 = .ok (.getfield 22, 3) := by decide +kernel
theorem dX11_thrown_4 : decode cX11_thrown 4 = .ok (.ireturn, 1) := by decide +kernel
theorem dX11_holds_0 : decode cX11_holds 0 = .ok (.aload_n 0, 1) := by decide +kernel
theorem dX11_holds_1 : decode cX11_holds 1 = .ok (.iload_n 1, 1) := by decide +kernel
theorem dX11_holds_2 : decode cX11_holds 2 = .ok (.putfield 22, 3) := by decide +kernel
theorem dX11_holds_5 : decode cX11_holds 5 = .ok (.iload_n 1, 1) := by decide +kernel
theorem dX11_holds_6 : decode cX11_holds 6 = .ok (.ifCond .ne 7, 3) := by decide +kernel
theorem dX11_holds_9 : decode cX11_holds 9 = .ok (.iconst 1, 1) := by decide +kernel
theorem dX11_holds_10 : decode cX11_holds 10 = .ok (.goto 4, 3) := by decide +kernel
theorem dX11_holds_13 : decode cX11_holds 13 = .ok (.iconst 0, 1) := by decide +kernel
theorem dX11_holds_14 : decode cX11_holds 14 = .ok (.ireturn, 1) := by decide +kernel
theorem dX11_plain_0 : decode cX11_plain 0 = .ok (.aload_n 0, 1) := by decide +kernel
theorem dX11_plain_1 : decode cX11_plain 1 = .ok (.iconst 0, 1) := by decide +kernel
theorem dX11_plain_2 : decode cX11_plain 2 = .ok (.putfield 22, 3) := by decide +kernel
theorem dX11_plain_5 : decode cX11_plain 5 = .ok (.iload_n 1, 1) := by decide +kernel
theorem dX11_plain_6 : decode cX11_plain 6 = .ok (.ireturn, 1) := by decide +kernel
theorem dX11_in_0 : decode cX11_in 0 = .ok (.iload_n 0, 1) := by decide +kernel
theorem dX11_in_1 : decode cX11_in 1 = .ok (.iload_n 1, 1) := by decide +kernel
theorem dX11_in_2 : decode cX11_in 2 = .ok (.if_icmp .lt 12, 3) := by decide +kernel
theorem dX11_in_5 : decode cX11_in 5 = .ok (.iload_n 0, 1) := by decide +kernel
theorem dX11_in_6 : decode cX11_in 6 = .ok (.iload_n 2, 1) := by decide +kernel
theorem dX11_in_7 : decode cX11_in 7 = .ok (.if_icmp .gt 7, 3) := by decide +kernel
theorem dX11_in_10 : decode cX11_in 10 = .ok (.iconst 1, 1) := by decide +kernel
theorem dX11_in_11 : decode cX11_in 11 = .ok (.goto 4, 3) := by decide +kernel
theorem dX11_in_14 : decode cX11_in 14 = .ok (.iconst 0, 1) := by decide +kernel
theorem dX11_in_15 : decode cX11_in 15 = .ok (.ireturn, 1) := by decide +kernel
theorem dX11_isFisher_0 : decode cX11_isFisher 0 = .ok (.iload_n 0, 1) := by decide +kernel
theorem dX11_isFisher_1 : decode cX11_isFisher 1 = .ok (.iconst 0, 1) := by decide +kernel
theorem dX11_isFisher_2 : decode cX11_isFisher 2 = .ok (.iconst 4, 1) := by decide +kernel
theorem dX11_isFisher_3 : decode cX11_isFisher 3 = .ok (.invokestatic 26, 3) := by decide +kernel
theorem dX11_isFisher_6 : decode cX11_isFisher 6 = .ok (.ireturn, 1) := by decide +kernel
theorem dX11_isName_0 : decode cX11_isName 0 = .ok (.iload_n 1, 1) := by decide +kernel
theorem dX11_isName_1 : decode cX11_isName 1 = .ok (.invokestatic 30, 3) := by decide +kernel
theorem dX11_isName_4 : decode cX11_isName 4 = .ok (.ifCond .eq 23, 3) := by decide +kernel
theorem dX11_isName_7 : decode cX11_isName 7 = .ok (.iload_n 2, 1) := by decide +kernel
theorem dX11_isName_8 : decode cX11_isName 8 = .ok (.iconst 0, 1) := by decide +kernel
theorem dX11_isName_9 : decode cX11_isName 9 = .ok (.aload_n 0, 1) := by decide +kernel
theorem dX11_isName_10 : decode cX11_isName 10 = .ok (.iload_n 1, 1) := by decide +kernel
theorem dX11_isName_11 : decode cX11_isName 11 = .ok (.iconst 1, 1) := by decide +kernel
theorem dX11_isName_12 : decode cX11_isName 12 = .ok (.invokevirtual 34, 3) := by decide +kernel
theorem dX11_isName_15 : decode cX11_isName 15 = .ok (.iconst 1, 1) := by decide +kernel
theorem dX11_isName_16 : decode cX11_isName 16 = .ok (.isub, 1) := by decide +kernel
theorem dX11_isName_17 : decode cX11_isName 17 = .ok (.invokestatic 26, 3) := by decide +kernel
theorem dX11_isName_20 : decode cX11_isName 20 = .ok (.ifCond .eq 7, 3) := by decide +kernel
theorem dX11_isName_23 : decode cX11_isName 23 = .ok (.iconst 1, 1) := by decide +kernel
theorem dX11_isName_24 : decode cX11_isName 24 = .ok (.goto 4, 3) := by decide +kernel
theorem dX11_isName_27 : decode cX11_isName 27 = .ok (.iconst 0, 1) := by decide +kernel
theorem dX11_isName_28 : decode cX11_isName 28 = .ok (.ireturn, 1) := by decide +kernel
theorem dX11_of_0 : decode cX11_of 0 = .ok (.aload_n 0, 1) := by decide +kernel
theorem dX11_of_1 : decode cX11_of 1 = .ok (.getfield 7, 3) := by decide +kernel
theorem dX11_of_4 : decode cX11_of 4 = .ok (.bipush 8, 2) := by decide +kernel
theorem dX11_of_6 : decode cX11_of 6 = .ok (.iconst 4, 1) := by decide +kernel
theorem dX11_of_7 : decode cX11_of 7 = .ok (.iload_n 1, 1) := by decide +kernel
theorem dX11_of_8 : decode cX11_of 8 = .ok (.imul, 1) := by decide +kernel
theorem dX11_of_9 : decode cX11_of 9 = .ok (.iadd, 1) := by decide +kernel
theorem dX11_of_10 : decode cX11_of 10 = .ok (.iload_n 2, 1) := by decide +kernel
theorem dX11_of_11 : decode cX11_of 11 = .ok (.iadd, 1) := by decide +kernel
theorem dX11_of_12 : decode cX11_of 12 = .ok (.iaload, 1) := by decide +kernel
theorem dX11_of_13 : decode cX11_of 13 = .ok (.ireturn, 1) := by decide +kernel
theorem dX11_add_0 : decode cX11_add 0 = .ok (.aload_n 0, 1) := by decide +kernel
theorem dX11_add_1 : decode cX11_add 1 = .ok (.getfield 7, 3) := by decide +kernel
theorem dX11_add_4 : decode cX11_add 4 = .ok (.bipush 8, 2) := by decide +kernel
theorem dX11_add_6 : decode cX11_add 6 = .ok (.iconst 4, 1) := by decide +kernel
theorem dX11_add_7 : decode cX11_add 7 = .ok (.iload_n 1, 1) := by decide +kernel
theorem dX11_add_8 : decode cX11_add 8 = .ok (.imul, 1) := by decide +kernel
theorem dX11_add_9 : decode cX11_add 9 = .ok (.iadd, 1) := by decide +kernel
theorem dX11_add_10 : decode cX11_add 10 = .ok (.iload_n 2, 1) := by decide +kernel
theorem dX11_add_11 : decode cX11_add 11 = .ok (.iadd, 1) := by decide +kernel
theorem dX11_add_12 : decode cX11_add 12 = .ok (.dup2, 1) := by decide +kernel
theorem dX11_add_13 : decode cX11_add 13 = .ok (.iaload, 1) := by decide +kernel
theorem dX11_add_14 : decode cX11_add 14 = .ok (.iload_n 3, 1) := by decide +kernel
theorem dX11_add_15 : decode cX11_add 15 = .ok (.iadd, 1) := by decide +kernel
theorem dX11_add_16 : decode cX11_add 16 = .ok (.iastore, 1) := by decide +kernel
theorem dX11_add_17 : decode cX11_add 17 = .ok (.return_, 1) := by decide +kernel
theorem dX11_whereIs_0 : decode cX11_whereIs 0 = .ok (.bipush 28, 2) := by decide +kernel
theorem dX11_whereIs_2 : decode cX11_whereIs 2 = .ok (.bipush 11, 2) := by decide +kernel
theorem dX11_whereIs_4 : decode cX11_whereIs 4 = .ok (.bipush 6, 2) := by decide +kernel
theorem dX11_whereIs_6 : decode cX11_whereIs 6 = .ok (.iload_n 0, 1) := by decide +kernel
theorem dX11_whereIs_7 : decode cX11_whereIs 7 = .ok (.imul, 1) := by decide +kernel
theorem dX11_whereIs_8 : decode cX11_whereIs 8 = .ok (.iload_n 1, 1) := by decide +kernel
theorem dX11_whereIs_9 : decode cX11_whereIs 9 = .ok (.iadd, 1) := by decide +kernel
theorem dX11_whereIs_10 : decode cX11_whereIs 10 = .ok (.imul, 1) := by decide +kernel
theorem dX11_whereIs_11 : decode cX11_whereIs 11 = .ok (.iadd, 1) := by decide +kernel
theorem dX11_whereIs_12 : decode cX11_whereIs 12 = .ok (.ireturn, 1) := by decide +kernel
theorem dX11_copy_0 : decode cX11_copy 0 = .ok (.iconst 0, 1) := by decide +kernel
theorem dX11_copy_1 : decode cX11_copy 1 = .ok (.istore 4, 2) := by decide +kernel
theorem dX11_copy_3 : decode cX11_copy 3 = .ok (.iload 4, 2) := by decide +kernel
theorem dX11_copy_5 : decode cX11_copy 5 = .ok (.sipush 406, 3) := by decide +kernel
theorem dX11_copy_8 : decode cX11_copy 8 = .ok (.if_icmp .ge 21, 3) := by decide +kernel
theorem dX11_copy_11 : decode cX11_copy 11 = .ok (.aload_n 2, 1) := by decide +kernel
theorem dX11_copy_12 : decode cX11_copy 12 = .ok (.iload_n 3, 1) := by decide +kernel
theorem dX11_copy_13 : decode cX11_copy 13 = .ok (.iload 4, 2) := by decide +kernel
theorem dX11_copy_15 : decode cX11_copy 15 = .ok (.iadd, 1) := by decide +kernel
theorem dX11_copy_16 : decode cX11_copy 16 = .ok (.aload_n 0, 1) := by decide +kernel
theorem dX11_copy_17 : decode cX11_copy 17 = .ok (.iload_n 1, 1) := by decide +kernel
theorem dX11_copy_18 : decode cX11_copy 18 = .ok (.iload 4, 2) := by decide +kernel
theorem dX11_copy_20 : decode cX11_copy 20 = .ok (.iadd, 1) := by decide +kernel
theorem dX11_copy_21 : decode cX11_copy 21 = .ok (.iaload, 1) := by decide +kernel
theorem dX11_copy_22 : decode cX11_copy 22 = .ok (.iastore, 1) := by decide +kernel
theorem dX11_copy_23 : decode cX11_copy 23 = .ok (.iinc 4 1, 3) := by decide +kernel
theorem dX11_copy_26 : decode cX11_copy 26 = .ok (.goto (-23), 3) := by decide +kernel
theorem dX11_copy_29 : decode cX11_copy 29 = .ok (.return_, 1) := by decide +kernel
theorem dX11_save_0 : decode cX11_save 0 = .ok (.aload_n 0, 1) := by decide +kernel
theorem dX11_save_1 : decode cX11_save 1 = .ok (.getfield 38, 3) := by decide +kernel
theorem dX11_save_4 : decode cX11_save 4 = .ok (.bipush 6, 2) := by decide +kernel
theorem dX11_save_6 : decode cX11_save 6 = .ok (.if_icmp .ne 44, 3) := by decide +kernel
theorem dX11_save_9 : decode cX11_save 9 = .ok (.iconst 0, 1) := by decide +kernel
theorem dX11_save_10 : decode cX11_save 10 = .ok (.istore_n 1, 1) := by decide +kernel
theorem dX11_save_11 : decode cX11_save 11 = .ok (.iload_n 1, 1) := by decide +kernel
theorem dX11_save_12 : decode cX11_save 12 = .ok (.sipush 2030, 3) := by decide +kernel
theorem dX11_save_15 : decode cX11_save 15 = .ok (.if_icmp .ge 25, 3) := by decide +kernel
theorem dX11_save_18 : decode cX11_save 18 = .ok (.aload_n 0, 1) := by decide +kernel
theorem dX11_save_19 : decode cX11_save 19 = .ok (.getfield 13, 3) := by decide +kernel
theorem dX11_save_22 : decode cX11_save 22 = .ok (.iload_n 1, 1) := by decide +kernel
theorem dX11_save_23 : decode cX11_save 23 = .ok (.aload_n 0, 1) := by decide +kernel
theorem dX11_save_24 : decode cX11_save 24 = .ok (.getfield 13, 3) := by decide +kernel
theorem dX11_save_27 : decode cX11_save 27 = .ok (.sipush 406, 3) := by decide +kernel
theorem dX11_save_30 : decode cX11_save 30 = .ok (.iload_n 1, 1) := by decide +kernel
theorem dX11_save_31 : decode cX11_save 31 = .ok (.iadd, 1) := by decide +kernel
theorem dX11_save_32 : decode cX11_save 32 = .ok (.iaload, 1) := by decide +kernel
theorem dX11_save_33 : decode cX11_save 33 = .ok (.iastore, 1) := by decide +kernel
theorem dX11_save_34 : decode cX11_save 34 = .ok (.iinc 1 1, 3) := by decide +kernel
theorem dX11_save_37 : decode cX11_save 37 = .ok (.goto (-26), 3) := by decide +kernel
theorem dX11_save_40 : decode cX11_save 40 = .ok (.aload_n 0, 1) := by decide +kernel
theorem dX11_save_41 : decode cX11_save 41 = .ok (.dup, 1) := by decide +kernel
theorem dX11_save_42 : decode cX11_save 42 = .ok (.getfield 38, 3) := by decide +kernel
theorem dX11_save_45 : decode cX11_save 45 = .ok (.iconst 1, 1) := by decide +kernel
theorem dX11_save_46 : decode cX11_save 46 = .ok (.isub, 1) := by decide +kernel
theorem dX11_save_47 : decode cX11_save 47 = .ok (.putfield 38, 3) := by decide +kernel
theorem dX11_save_50 : decode cX11_save 50 = .ok (.aload_n 0, 1) := by decide +kernel
theorem dX11_save_51 : decode cX11_save 51 = .ok (.getfield 7, 3) := by decide +kernel
theorem dX11_save_54 : decode cX11_save 54 = .ok (.iconst 0, 1) := by decide +kernel
theorem dX11_save_55 : decode cX11_save 55 = .ok (.aload_n 0, 1) := by decide +kernel
theorem dX11_save_56 : decode cX11_save 56 = .ok (.getfield 13, 3) := by decide +kernel
theorem dX11_save_59 : decode cX11_save 59 = .ok (.sipush 406, 3) := by decide +kernel
theorem dX11_save_62 : decode cX11_save 62 = .ok (.aload_n 0, 1) := by decide +kernel
theorem dX11_save_63 : decode cX11_save 63 = .ok (.getfield 38, 3) := by decide +kernel
theorem dX11_save_66 : decode cX11_save 66 = .ok (.imul, 1) := by decide +kernel
theorem dX11_save_67 : decode cX11_save 67 = .ok (.invokestatic 41, 3) := by decide +kernel
theorem dX11_save_70 : decode cX11_save 70 = .ok (.aload_n 0, 1) := by decide +kernel
theorem dX11_save_71 : decode cX11_save 71 = .ok (.dup, 1) := by decide +kernel
theorem dX11_save_72 : decode cX11_save 72 = .ok (.getfield 38, 3) := by decide +kernel
theorem dX11_save_75 : decode cX11_save 75 = .ok (.iconst 1, 1) := by decide +kernel
theorem dX11_save_76 : decode cX11_save 76 = .ok (.iadd, 1) := by decide +kernel
theorem dX11_save_77 : decode cX11_save 77 = .ok (.putfield 38, 3) := by decide +kernel
theorem dX11_save_80 : decode cX11_save 80 = .ok (.return_, 1) := by decide +kernel
theorem dX11_turns_0 : decode cX11_turns 0 = .ok (.iconst 1, 1) := by decide +kernel
theorem dX11_turns_1 : decode cX11_turns 1 = .ok (.iload_n 0, 1) := by decide +kernel
theorem dX11_turns_2 : decode cX11_turns 2 = .ok (.iconst 4, 1) := by decide +kernel
theorem dX11_turns_3 : decode cX11_turns 3 = .ok (.idiv, 1) := by decide +kernel
theorem dX11_turns_4 : decode cX11_turns 4 = .ok (.iadd, 1) := by decide +kernel
theorem dX11_turns_5 : decode cX11_turns 5 = .ok (.ireturn, 1) := by decide +kernel
theorem dX11_cordOfLetter_0 : decode cX11_cordOfLetter 0 = .ok (.iconst 2, 1) := by decide +kernel
theorem dX11_cordOfLetter_1 : decode cX11_cordOfLetter 1 = .ok (.iload_n 0, 1) := by decide +kernel
theorem dX11_cordOfLetter_2 : decode cX11_cordOfLetter 2 = .ok (.invokestatic 45, 3) := by decide +kernel
theorem dX11_cordOfLetter_5 : decode cX11_cordOfLetter 5 = .ok (.imul, 1) := by decide +kernel
theorem dX11_cordOfLetter_6 : decode cX11_cordOfLetter 6 = .ok (.iload_n 0, 1) := by decide +kernel
theorem dX11_cordOfLetter_7 : decode cX11_cordOfLetter 7 = .ok (.iconst 4, 1) := by decide +kernel
theorem dX11_cordOfLetter_8 : decode cX11_cordOfLetter 8 = .ok (.irem, 1) := by decide +kernel
theorem dX11_cordOfLetter_9 : decode cX11_cordOfLetter 9 = .ok (.iadd, 1) := by decide +kernel
theorem dX11_cordOfLetter_10 : decode cX11_cordOfLetter 10 = .ok (.ireturn, 1) := by decide +kernel
theorem dX11_isVowel_0 : decode cX11_isVowel 0 = .ok (.iload_n 0, 1) := by decide +kernel
theorem dX11_isVowel_1 : decode cX11_isVowel 1 = .ok (.ifCond .eq 20, 3) := by decide +kernel
theorem dX11_isVowel_4 : decode cX11_isVowel 4 = .ok (.iload_n 0, 1) := by decide +kernel
theorem dX11_isVowel_5 : decode cX11_isVowel 5 = .ok (.iconst 4, 1) := by decide +kernel
theorem dX11_isVowel_6 : decode cX11_isVowel 6 = .ok (.if_icmp .eq 15, 3) := by decide +kernel
theorem dX11_isVowel_9 : decode cX11_isVowel 9 = .ok (.iload_n 0, 1) := by decide +kernel
theorem dX11_isVowel_10 : decode cX11_isVowel 10 = .ok (.bipush 8, 2) := by decide +kernel
theorem dX11_isVowel_12 : decode cX11_isVowel 12 = .ok (.if_icmp .eq 9, 3) := by decide +kernel
theorem dX11_isVowel_15 : decode cX11_isVowel 15 = .ok (.iload_n 0, 1) := by decide +kernel
theorem dX11_isVowel_16 : decode cX11_isVowel 16 = .ok (.bipush 14, 2) := by decide +kernel
theorem dX11_isVowel_18 : decode cX11_isVowel 18 = .ok (.if_icmp .ne 7, 3) := by decide +kernel
theorem dX11_isVowel_21 : decode cX11_isVowel 21 = .ok (.iconst 1, 1) := by decide +kernel
theorem dX11_isVowel_22 : decode cX11_isVowel 22 = .ok (.goto 4, 3) := by decide +kernel
theorem dX11_isVowel_25 : decode cX11_isVowel 25 = .ok (.iconst 0, 1) := by decide +kernel
theorem dX11_isVowel_26 : decode cX11_isVowel 26 = .ok (.ireturn, 1) := by decide +kernel
theorem dX11_letterAt_0 : decode cX11_letterAt 0 = .ok (.iload_n 0, 1) := by decide +kernel
theorem dX11_letterAt_1 : decode cX11_letterAt 1 = .ok (.iconst 4, 1) := by decide +kernel
theorem dX11_letterAt_2 : decode cX11_letterAt 2 = .ok (.iload_n 1, 1) := by decide +kernel
theorem dX11_letterAt_3 : decode cX11_letterAt 3 = .ok (.imul, 1) := by decide +kernel
theorem dX11_letterAt_4 : decode cX11_letterAt 4 = .ok (.ishr, 1) := by decide +kernel
theorem dX11_letterAt_5 : decode cX11_letterAt 5 = .ok (.bipush 15, 2) := by decide +kernel
theorem dX11_letterAt_7 : decode cX11_letterAt 7 = .ok (.iand, 1) := by decide +kernel
theorem dX11_letterAt_8 : decode cX11_letterAt 8 = .ok (.ireturn, 1) := by decide +kernel
theorem dX11_cordOfLetters_0 : decode cX11_cordOfLetters 0 = .ok (.iconst 2, 1) := by decide +kernel
theorem dX11_cordOfLetters_1 : decode cX11_cordOfLetters 1 = .ok (.istore_n 2, 1) := by decide +kernel
theorem dX11_cordOfLetters_2 : decode cX11_cordOfLetters 2 = .ok (.iconst 0, 1) := by decide +kernel
theorem dX11_cordOfLetters_3 : decode cX11_cordOfLetters 3 = .ok (.istore_n 3, 1) := by decide +kernel
theorem dX11_cordOfLetters_4 : decode cX11_cordOfLetters 4 = .ok (.iload_n 3, 1) := by decide +kernel
theorem dX11_cordOfLetters_5 : decode cX11_cordOfLetters 5 = .ok (.iload_n 1, 1) := by decide +kernel
theorem dX11_cordOfLetters_6 : decode cX11_cordOfLetters 6 = .ok (.if_icmp .ge 22, 3) := by decide +kernel
theorem dX11_cordOfLetters_9 : decode cX11_cordOfLetters 9 = .ok (.iload_n 2, 1) := by decide +kernel
theorem dX11_cordOfLetters_10 : decode cX11_cordOfLetters 10 = .ok (.iload_n 0, 1) := by decide +kernel
theorem dX11_cordOfLetters_11 : decode cX11_cordOfLetters 11 = .ok (.iload_n 3, 1) := by decide +kernel
theorem dX11_cordOfLetters_12 : decode cX11_cordOfLetters 12 = .ok (.invokestatic 49, 3) := by decide +kernel
theorem dX11_cordOfLetters_15 : decode cX11_cordOfLetters 15 = .ok (.invokestatic 52, 3) := by decide +kernel
theorem dX11_cordOfLetters_18 : decode cX11_cordOfLetters 18 = .ok (.iconst 1, 1) := by decide +kernel
theorem dX11_cordOfLetters_19 : decode cX11_cordOfLetters 19 = .ok (.iadd, 1) := by decide +kernel
theorem dX11_cordOfLetters_20 : decode cX11_cordOfLetters 20 = .ok (.iadd, 1) := by decide +kernel
theorem dX11_cordOfLetters_21 : decode cX11_cordOfLetters 21 = .ok (.istore_n 2, 1) := by decide +kernel
theorem dX11_cordOfLetters_22 : decode cX11_cordOfLetters 22 = .ok (.iinc 3 1, 3) := by decide +kernel
theorem dX11_cordOfLetters_25 : decode cX11_cordOfLetters 25 = .ok (.goto (-21), 3) := by decide +kernel
theorem dX11_cordOfLetters_28 : decode cX11_cordOfLetters 28 = .ok (.iload_n 2, 1) := by decide +kernel
theorem dX11_cordOfLetters_29 : decode cX11_cordOfLetters 29 = .ok (.ireturn, 1) := by decide +kernel
theorem dX11_knots_0 : decode cX11_knots 0 = .ok (.aload_n 0, 1) := by decide +kernel
theorem dX11_knots_1 : decode cX11_knots 1 = .ok (.getfield 7, 3) := by decide +kernel
theorem dX11_knots_4 : decode cX11_knots 4 = .ok (.iload_n 1, 1) := by decide +kernel
theorem dX11_knots_5 : decode cX11_knots 5 = .ok (.iconst 0, 1) := by decide +kernel
theorem dX11_knots_6 : decode cX11_knots 6 = .ok (.iadd, 1) := by decide +kernel
theorem dX11_knots_7 : decode cX11_knots 7 = .ok (.iaload, 1) := by decide +kernel
theorem dX11_knots_8 : decode cX11_knots 8 = .ok (.ireturn, 1) := by decide +kernel
theorem dX11_tiedAs_0 : decode cX11_tiedAs 0 = .ok (.aload_n 0, 1) := by decide +kernel
theorem dX11_tiedAs_1 : decode cX11_tiedAs 1 = .ok (.getfield 7, 3) := by decide +kernel
theorem dX11_tiedAs_4 : decode cX11_tiedAs 4 = .ok (.iload_n 1, 1) := by decide +kernel
theorem dX11_tiedAs_5 : decode cX11_tiedAs 5 = .ok (.iconst 2, 1) := by decide +kernel
theorem dX11_tiedAs_6 : decode cX11_tiedAs 6 = .ok (.iadd, 1) := by decide +kernel
theorem dX11_tiedAs_7 : decode cX11_tiedAs 7 = .ok (.iaload, 1) := by decide +kernel
theorem dX11_tiedAs_8 : decode cX11_tiedAs 8 = .ok (.iload_n 2, 1) := by decide +kernel
theorem dX11_tiedAs_9 : decode cX11_tiedAs 9 = .ok (.invokestatic 49, 3) := by decide +kernel
theorem dX11_tiedAs_12 : decode cX11_tiedAs 12 = .ok (.ireturn, 1) := by decide +kernel
theorem dX11_readAs_0 : decode cX11_readAs 0 = .ok (.aload_n 0, 1) := by decide +kernel
theorem dX11_readAs_1 : decode cX11_readAs 1 = .ok (.getfield 7, 3) := by decide +kernel
theorem dX11_readAs_4 : decode cX11_readAs 4 = .ok (.iload_n 1, 1) := by decide +kernel
theorem dX11_readAs_5 : decode cX11_readAs 5 = .ok (.iconst 3, 1) := by decide +kernel
theorem dX11_readAs_6 : decode cX11_readAs 6 = .ok (.iadd, 1) := by decide +kernel
theorem dX11_readAs_7 : decode cX11_readAs 7 = .ok (.iload_n 2, 1) := by decide +kernel
theorem dX11_readAs_8 : decode cX11_readAs 8 = .ok (.iadd, 1) := by decide +kernel
theorem dX11_readAs_9 : decode cX11_readAs 9 = .ok (.iaload, 1) := by decide +kernel
theorem dX11_readAs_10 : decode cX11_readAs 10 = .ok (.istore_n 3, 1) := by decide +kernel
theorem dX11_readAs_11 : decode cX11_readAs 11 = .ok (.iload_n 3, 1) := by decide +kernel
theorem dX11_readAs_12 : decode cX11_readAs 12 = .ok (.ifCond .ne 12, 3) := by decide +kernel
theorem dX11_readAs_15 : decode cX11_readAs 15 = .ok (.aload_n 0, 1) := by decide +kernel
theorem dX11_readAs_16 : decode cX11_readAs 16 = .ok (.iload_n 1, 1) := by decide +kernel
theorem dX11_readAs_17 : decode cX11_readAs 17 = .ok (.iload_n 2, 1) := by decide +kernel
theorem dX11_readAs_18 : decode cX11_readAs 18 = .ok (.invokevirtual 55, 3) := by decide +kernel
theorem dX11_readAs_21 : decode cX11_readAs 21 = .ok (.goto 21, 3) := by decide +kernel
theorem dX11_readAs_24 : decode cX11_readAs 24 = .ok (.iload_n 3, 1) := by decide +kernel
theorem dX11_readAs_25 : decode cX11_readAs 25 = .ok (.iconst 1, 1) := by decide +kernel
theorem dX11_readAs_26 : decode cX11_readAs 26 = .ok (.if_icmp .ne 14, 3) := by decide +kernel
theorem dX11_readAs_29 : decode cX11_readAs 29 = .ok (.aload_n 0, 1) := by decide +kernel
theorem dX11_readAs_30 : decode cX11_readAs 30 = .ok (.iload_n 1, 1) := by decide +kernel
theorem dX11_readAs_31 : decode cX11_readAs 31 = .ok (.iload_n 2, 1) := by decide +kernel
theorem dX11_readAs_32 : decode cX11_readAs 32 = .ok (.invokevirtual 55, 3) := by decide +kernel
theorem dX11_readAs_35 : decode cX11_readAs 35 = .ok (.iconst 1, 1) := by decide +kernel
theorem dX11_readAs_36 : decode cX11_readAs 36 = .ok (.iadd, 1) := by decide +kernel
theorem dX11_readAs_37 : decode cX11_readAs 37 = .ok (.goto 5, 3) := by decide +kernel
theorem dX11_readAs_40 : decode cX11_readAs 40 = .ok (.bipush 16, 2) := by decide +kernel
theorem dX11_readAs_42 : decode cX11_readAs 42 = .ok (.ireturn, 1) := by decide +kernel
theorem dX11_cordOf_0 : decode cX11_cordOf 0 = .ok (.aload_n 0, 1) := by decide +kernel
theorem dX11_cordOf_1 : decode cX11_cordOf 1 = .ok (.getfield 7, 3) := by decide +kernel
theorem dX11_cordOf_4 : decode cX11_cordOf 4 = .ok (.iload_n 1, 1) := by decide +kernel
theorem dX11_cordOf_5 : decode cX11_cordOf 5 = .ok (.iconst 2, 1) := by decide +kernel
theorem dX11_cordOf_6 : decode cX11_cordOf 6 = .ok (.iadd, 1) := by decide +kernel
theorem dX11_cordOf_7 : decode cX11_cordOf 7 = .ok (.iaload, 1) := by decide +kernel
theorem dX11_cordOf_8 : decode cX11_cordOf 8 = .ok (.aload_n 0, 1) := by decide +kernel
theorem dX11_cordOf_9 : decode cX11_cordOf 9 = .ok (.iload_n 1, 1) := by decide +kernel
theorem dX11_cordOf_10 : decode cX11_cordOf 10 = .ok (.invokevirtual 58, 3) := by decide +kernel
theorem dX11_cordOf_13 : decode cX11_cordOf 13 = .ok (.invokestatic 61, 3) := by decide +kernel
theorem dX11_cordOf_16 : decode cX11_cordOf 16 = .ok (.ireturn, 1) := by decide +kernel
theorem dX11_loosened_0 : decode cX11_loosened 0 = .ok (.iconst 0, 1) := by decide +kernel
theorem dX11_loosened_1 : decode cX11_loosened 1 = .ok (.istore_n 3, 1) := by decide +kernel
theorem dX11_loosened_2 : decode cX11_loosened 2 = .ok (.iconst 0, 1) := by decide +kernel
theorem dX11_loosened_3 : decode cX11_loosened 3 = .ok (.istore 4, 2) := by decide +kernel
theorem dX11_loosened_5 : decode cX11_loosened 5 = .ok (.iload 4, 2) := by decide +kernel
theorem dX11_loosened_7 : decode cX11_loosened 7 = .ok (.aload_n 0, 1) := by decide +kernel
theorem dX11_loosened_8 : decode cX11_loosened 8 = .ok (.iload_n 1, 1) := by decide +kernel
theorem dX11_loosened_9 : decode cX11_loosened 9 = .ok (.invokevirtual 58, 3) := by decide +kernel
theorem dX11_loosened_12 : decode cX11_loosened 12 = .ok (.if_icmp .ge 32, 3) := by decide +kernel
theorem dX11_loosened_15 : decode cX11_loosened 15 = .ok (.iload_n 3, 1) := by decide +kernel
theorem dX11_loosened_16 : decode cX11_loosened 16 = .ok (.aload_n 0, 1) := by decide +kernel
theorem dX11_loosened_17 : decode cX11_loosened 17 = .ok (.getfield 7, 3) := by decide +kernel
theorem dX11_loosened_20 : decode cX11_loosened 20 = .ok (.iload_n 1, 1) := by decide +kernel
theorem dX11_loosened_21 : decode cX11_loosened 21 = .ok (.iconst 3, 1) := by decide +kernel
theorem dX11_loosened_22 : decode cX11_loosened 22 = .ok (.iadd, 1) := by decide +kernel
theorem dX11_loosened_23 : decode cX11_loosened 23 = .ok (.iload 4, 2) := by decide +kernel
theorem dX11_loosened_25 : decode cX11_loosened 25 = .ok (.iadd, 1) := by decide +kernel
theorem dX11_loosened_26 : decode cX11_loosened 26 = .ok (.iaload, 1) := by decide +kernel
theorem dX11_loosened_27 : decode cX11_loosened 27 = .ok (.iload_n 2, 1) := by decide +kernel
theorem dX11_loosened_28 : decode cX11_loosened 28 = .ok (.if_icmp .lt 7, 3) := by decide +kernel
theorem dX11_loosened_31 : decode cX11_loosened 31 = .ok (.iconst 1, 1) := by decide +kernel
theorem dX11_loosened_32 : decode cX11_loosened 32 = .ok (.goto 4, 3) := by decide +kernel
theorem dX11_loosened_35 : decode cX11_loosened 35 = .ok (.iconst 0, 1) := by decide +kernel
theorem dX11_loosened_36 : decode cX11_loosened 36 = .ok (.iadd, 1) := by decide +kernel
theorem dX11_loosened_37 : decode cX11_loosened 37 = .ok (.istore_n 3, 1) := by decide +kernel
theorem dX11_loosened_38 : decode cX11_loosened 38 = .ok (.iinc 4 1, 3) := by decide +kernel
theorem dX11_loosened_41 : decode cX11_loosened 41 = .ok (.goto (-36), 3) := by decide +kernel
theorem dX11_loosened_44 : decode cX11_loosened 44 = .ok (.iload_n 3, 1) := by decide +kernel
theorem dX11_loosened_45 : decode cX11_loosened 45 = .ok (.ireturn, 1) := by decide +kernel
theorem dX11_whole_0 : decode cX11_whole 0 = .ok (.iload_n 1, 1) := by decide +kernel
theorem dX11_whole_1 : decode cX11_whole 1 = .ok (.bipush 8, 2) := by decide +kernel
theorem dX11_whole_3 : decode cX11_whole 3 = .ok (.if_icmp .ne 7, 3) := by decide +kernel
theorem dX11_whole_6 : decode cX11_whole 6 = .ok (.iload_n 0, 1) := by decide +kernel
theorem dX11_whole_7 : decode cX11_whole 7 = .ok (.goto 12, 3) := by decide +kernel
theorem dX11_whole_10 : decode cX11_whole 10 = .ok (.iload_n 0, 1) := by decide +kernel
theorem dX11_whole_11 : decode cX11_whole 11 = .ok (.iconst 1, 1) := by decide +kernel
theorem dX11_whole_12 : decode cX11_whole 12 = .ok (.iconst 4, 1) := by decide +kernel
theorem dX11_whole_13 : decode cX11_whole 13 = .ok (.iload_n 1, 1) := by decide +kernel
theorem dX11_whole_14 : decode cX11_whole 14 = .ok (.imul, 1) := by decide +kernel
theorem dX11_whole_15 : decode cX11_whole 15 = .ok (.ishl, 1) := by decide +kernel
theorem dX11_whole_16 : decode cX11_whole 16 = .ok (.iconst 1, 1) := by decide +kernel
theorem dX11_whole_17 : decode cX11_whole 17 = .ok (.isub, 1) := by decide +kernel
theorem dX11_whole_18 : decode cX11_whole 18 = .ok (.iand, 1) := by decide +kernel
theorem dX11_whole_19 : decode cX11_whole 19 = .ok (.ireturn, 1) := by decide +kernel
theorem dX11_readLetters_0 : decode cX11_readLetters 0 = .ok (.iconst 0, 1) := by decide +kernel
theorem dX11_readLetters_1 : decode cX11_readLetters 1 = .ok (.istore_n 2, 1) := by decide +kernel
theorem dX11_readLetters_2 : decode cX11_readLetters 2 = .ok (.iconst 0, 1) := by decide +kernel
theorem dX11_readLetters_3 : decode cX11_readLetters 3 = .ok (.istore_n 3, 1) := by decide +kernel
theorem dX11_readLetters_4 : decode cX11_readLetters 4 = .ok (.iload_n 3, 1) := by decide +kernel
theorem dX11_readLetters_5 : decode cX11_readLetters 5 = .ok (.aload_n 0, 1) := by decide +kernel
theorem dX11_readLetters_6 : decode cX11_readLetters 6 = .ok (.iload_n 1, 1) := by decide +kernel
theorem dX11_readLetters_7 : decode cX11_readLetters 7 = .ok (.invokevirtual 58, 3) := by decide +kernel
theorem dX11_readLetters_10 : decode cX11_readLetters 10 = .ok (.if_icmp .ge 22, 3) := by decide +kernel
theorem dX11_readLetters_13 : decode cX11_readLetters 13 = .ok (.iload_n 2, 1) := by decide +kernel
theorem dX11_readLetters_14 : decode cX11_readLetters 14 = .ok (.aload_n 0, 1) := by decide +kernel
theorem dX11_readLetters_15 : decode cX11_readLetters 15 = .ok (.iload_n 1, 1) := by decide +kernel
theorem dX11_readLetters_16 : decode cX11_readLetters 16 = .ok (.iload_n 3, 1) := by decide +kernel
theorem dX11_readLetters_17 : decode cX11_readLetters 17 = .ok (.invokevirtual 64, 3) := by decide +kernel
theorem dX11_readLetters_20 : decode cX11_readLetters 20 = .ok (.iconst 4, 1) := by decide +kernel
theorem dX11_readLetters_21 : decode cX11_readLetters 21 = .ok (.iload_n 3, 1) := by decide +kernel
theorem dX11_readLetters_22 : decode cX11_readLetters 22 = .ok (.imul, 1) := by decide +kernel
theorem dX11_readLetters_23 : decode cX11_readLetters 23 = .ok (.ishl, 1) := by decide +kernel
theorem dX11_readLetters_24 : decode cX11_readLetters 24 = .ok (.ior, 1) := by decide +kernel
theorem dX11_readLetters_25 : decode cX11_readLetters 25 = .ok (.istore_n 2, 1) := by decide +kernel
theorem dX11_readLetters_26 : decode cX11_readLetters 26 = .ok (.iinc 3 1, 3) := by decide +kernel
theorem dX11_readLetters_29 : decode cX11_readLetters 29 = .ok (.goto (-25), 3) := by decide +kernel
theorem dX11_readLetters_32 : decode cX11_readLetters 32 = .ok (.iload_n 2, 1) := by decide +kernel
theorem dX11_readLetters_33 : decode cX11_readLetters 33 = .ok (.ireturn, 1) := by decide +kernel
theorem dX11_readsSo_0 : decode cX11_readsSo 0 = .ok (.aload_n 0, 1) := by decide +kernel
theorem dX11_readsSo_1 : decode cX11_readsSo 1 = .ok (.iload_n 1, 1) := by decide +kernel
theorem dX11_readsSo_2 : decode cX11_readsSo 2 = .ok (.invokevirtual 58, 3) := by decide +kernel
theorem dX11_readsSo_5 : decode cX11_readsSo 5 = .ok (.iload_n 3, 1) := by decide +kernel
theorem dX11_readsSo_6 : decode cX11_readsSo 6 = .ok (.if_icmp .ne 29, 3) := by decide +kernel
theorem dX11_readsSo_9 : decode cX11_readsSo 9 = .ok (.aload_n 0, 1) := by decide +kernel
theorem dX11_readsSo_10 : decode cX11_readsSo 10 = .ok (.iload_n 1, 1) := by decide +kernel
theorem dX11_readsSo_11 : decode cX11_readsSo 11 = .ok (.iconst 2, 1) := by decide +kernel
theorem dX11_readsSo_12 : decode cX11_readsSo 12 = .ok (.invokevirtual 67, 3) := by decide +kernel
theorem dX11_readsSo_15 : decode cX11_readsSo 15 = .ok (.ifCond .ne 20, 3) := by decide +kernel
theorem dX11_readsSo_18 : decode cX11_readsSo 18 = .ok (.aload_n 0, 1) := by decide +kernel
theorem dX11_readsSo_19 : decode cX11_readsSo 19 = .ok (.iload_n 1, 1) := by decide +kernel
theorem dX11_readsSo_20 : decode cX11_readsSo 20 = .ok (.invokevirtual 70, 3) := by decide +kernel
theorem dX11_readsSo_23 : decode cX11_readsSo 23 = .ok (.iload_n 2, 1) := by decide +kernel
theorem dX11_readsSo_24 : decode cX11_readsSo 24 = .ok (.iload_n 3, 1) := by decide +kernel
theorem dX11_readsSo_25 : decode cX11_readsSo 25 = .ok (.invokestatic 73, 3) := by decide +kernel
theorem dX11_readsSo_28 : decode cX11_readsSo 28 = .ok (.if_icmp .ne 7, 3) := by decide +kernel
theorem dX11_readsSo_31 : decode cX11_readsSo 31 = .ok (.iconst 1, 1) := by decide +kernel
theorem dX11_readsSo_32 : decode cX11_readsSo 32 = .ok (.goto 4, 3) := by decide +kernel
theorem dX11_readsSo_35 : decode cX11_readsSo 35 = .ok (.iconst 0, 1) := by decide +kernel
theorem dX11_readsSo_36 : decode cX11_readsSo 36 = .ok (.ireturn, 1) := by decide +kernel
theorem dX11_readAlike_0 : decode cX11_readAlike 0 = .ok (.aload_n 0, 1) := by decide +kernel
theorem dX11_readAlike_1 : decode cX11_readAlike 1 = .ok (.iload_n 1, 1) := by decide +kernel
theorem dX11_readAlike_2 : decode cX11_readAlike 2 = .ok (.invokevirtual 58, 3) := by decide +kernel
theorem dX11_readAlike_5 : decode cX11_readAlike 5 = .ok (.aload_n 0, 1) := by decide +kernel
theorem dX11_readAlike_6 : decode cX11_readAlike 6 = .ok (.iload_n 2, 1) := by decide +kernel
theorem dX11_readAlike_7 : decode cX11_readAlike 7 = .ok (.invokevirtual 58, 3) := by decide +kernel
theorem dX11_readAlike_10 : decode cX11_readAlike 10 = .ok (.if_icmp .ne 7, 3) := by decide +kernel
theorem dX11_readAlike_13 : decode cX11_readAlike 13 = .ok (.iconst 1, 1) := by decide +kernel
theorem dX11_readAlike_14 : decode cX11_readAlike 14 = .ok (.goto 4, 3) := by decide +kernel
theorem dX11_readAlike_17 : decode cX11_readAlike 17 = .ok (.iconst 0, 1) := by decide +kernel
theorem dX11_readAlike_18 : decode cX11_readAlike 18 = .ok (.istore_n 3, 1) := by decide +kernel
theorem dX11_readAlike_19 : decode cX11_readAlike 19 = .ok (.iconst 0, 1) := by decide +kernel
theorem dX11_readAlike_20 : decode cX11_readAlike 20 = .ok (.istore 4, 2) := by decide +kernel
theorem dX11_readAlike_22 : decode cX11_readAlike 22 = .ok (.iload 4, 2) := by decide +kernel
theorem dX11_readAlike_24 : decode cX11_readAlike 24 = .ok (.aload_n 0, 1) := by decide +kernel
theorem dX11_readAlike_25 : decode cX11_readAlike 25 = .ok (.iload_n 1, 1) := by decide +kernel
theorem dX11_readAlike_26 : decode cX11_readAlike 26 = .ok (.invokevirtual 58, 3) := by decide +kernel
theorem dX11_readAlike_29 : decode cX11_readAlike 29 = .ok (.if_icmp .ge 36, 3) := by decide +kernel
theorem dX11_readAlike_32 : decode cX11_readAlike 32 = .ok (.iload_n 3, 1) := by decide +kernel
theorem dX11_readAlike_33 : decode cX11_readAlike 33 = .ok (.ifCond .eq 32, 3) := by decide +kernel
theorem dX11_readAlike_36 : decode cX11_readAlike 36 = .ok (.aload_n 0, 1) := by decide +kernel
theorem dX11_readAlike_37 : decode cX11_readAlike 37 = .ok (.iload_n 1, 1) := by decide +kernel
theorem dX11_readAlike_38 : decode cX11_readAlike 38 = .ok (.iload 4, 2) := by decide +kernel
theorem dX11_readAlike_40 : decode cX11_readAlike 40 = .ok (.invokevirtual 64, 3) := by decide +kernel
theorem dX11_readAlike_43 : decode cX11_readAlike 43 = .ok (.aload_n 0, 1) := by decide +kernel
theorem dX11_readAlike_44 : decode cX11_readAlike 44 = .ok (.iload_n 2, 1) := by decide +kernel
theorem dX11_readAlike_45 : decode cX11_readAlike 45 = .ok (.iload 4, 2) := by decide +kernel
theorem dX11_readAlike_47 : decode cX11_readAlike 47 = .ok (.invokevirtual 64, 3) := by decide +kernel
theorem dX11_readAlike_50 : decode cX11_readAlike 50 = .ok (.if_icmp .ne 7, 3) := by decide +kernel
theorem dX11_readAlike_53 : decode cX11_readAlike 53 = .ok (.iconst 1, 1) := by decide +kernel
theorem dX11_readAlike_54 : decode cX11_readAlike 54 = .ok (.goto 4, 3) := by decide +kernel
theorem dX11_readAlike_57 : decode cX11_readAlike 57 = .ok (.iconst 0, 1) := by decide +kernel
theorem dX11_readAlike_58 : decode cX11_readAlike 58 = .ok (.istore_n 3, 1) := by decide +kernel
theorem dX11_readAlike_59 : decode cX11_readAlike 59 = .ok (.iinc 4 1, 3) := by decide +kernel
theorem dX11_readAlike_62 : decode cX11_readAlike 62 = .ok (.goto (-40), 3) := by decide +kernel
theorem dX11_readAlike_65 : decode cX11_readAlike 65 = .ok (.iload_n 3, 1) := by decide +kernel
theorem dX11_readAlike_66 : decode cX11_readAlike 66 = .ok (.ireturn, 1) := by decide +kernel
theorem dX11_cordOn_0 : decode cX11_cordOn 0 = .ok (.iconst 0, 1) := by decide +kernel
theorem dX11_cordOn_1 : decode cX11_cordOn 1 = .ok (.istore_n 2, 1) := by decide +kernel
theorem dX11_cordOn_2 : decode cX11_cordOn 2 = .ok (.iconst 0, 1) := by decide +kernel
theorem dX11_cordOn_3 : decode cX11_cordOn 3 = .ok (.istore_n 3, 1) := by decide +kernel
theorem dX11_cordOn_4 : decode cX11_cordOn 4 = .ok (.iload_n 3, 1) := by decide +kernel
theorem dX11_cordOn_5 : decode cX11_cordOn 5 = .ok (.aload_n 0, 1) := by decide +kernel
theorem dX11_cordOn_6 : decode cX11_cordOn 6 = .ok (.iload_n 1, 1) := by decide +kernel
theorem dX11_cordOn_7 : decode cX11_cordOn 7 = .ok (.iconst 1, 1) := by decide +kernel
theorem dX11_cordOn_8 : decode cX11_cordOn 8 = .ok (.invokevirtual 34, 3) := by decide +kernel
theorem dX11_cordOn_11 : decode cX11_cordOn 11 = .ok (.if_icmp .ge 21, 3) := by decide +kernel
theorem dX11_cordOn_14 : decode cX11_cordOn 14 = .ok (.iload_n 2, 1) := by decide +kernel
theorem dX11_cordOn_15 : decode cX11_cordOn 15 = .ok (.aload_n 0, 1) := by decide +kernel
theorem dX11_cordOn_16 : decode cX11_cordOn 16 = .ok (.iload_n 1, 1) := by decide +kernel
theorem dX11_cordOn_17 : decode cX11_cordOn 17 = .ok (.iload_n 3, 1) := by decide +kernel
theorem dX11_cordOn_18 : decode cX11_cordOn 18 = .ok (.invokestatic 76, 3) := by decide +kernel
theorem dX11_cordOn_21 : decode cX11_cordOn 21 = .ok (.invokevirtual 79, 3) := by decide +kernel
theorem dX11_cordOn_24 : decode cX11_cordOn 24 = .ok (.iadd, 1) := by decide +kernel
theorem dX11_cordOn_25 : decode cX11_cordOn 25 = .ok (.istore_n 2, 1) := by decide +kernel
theorem dX11_cordOn_26 : decode cX11_cordOn 26 = .ok (.iinc 3 1, 3) := by decide +kernel
theorem dX11_cordOn_29 : decode cX11_cordOn 29 = .ok (.goto (-25), 3) := by decide +kernel
theorem dX11_cordOn_32 : decode cX11_cordOn 32 = .ok (.iload_n 2, 1) := by decide +kernel
theorem dX11_cordOn_33 : decode cX11_cordOn 33 = .ok (.ireturn, 1) := by decide +kernel
theorem dX11_left_0 : decode cX11_left 0 = .ok (.aload_n 0, 1) := by decide +kernel
theorem dX11_left_1 : decode cX11_left 1 = .ok (.iload_n 1, 1) := by decide +kernel
theorem dX11_left_2 : decode cX11_left 2 = .ok (.iconst 0, 1) := by decide +kernel
theorem dX11_left_3 : decode cX11_left 3 = .ok (.invokevirtual 34, 3) := by decide +kernel
theorem dX11_left_6 : decode cX11_left 6 = .ok (.aload_n 0, 1) := by decide +kernel
theorem dX11_left_7 : decode cX11_left 7 = .ok (.iload_n 1, 1) := by decide +kernel
theorem dX11_left_8 : decode cX11_left 8 = .ok (.invokevirtual 82, 3) := by decide +kernel
theorem dX11_left_11 : decode cX11_left 11 = .ok (.isub, 1) := by decide +kernel
theorem dX11_left_12 : decode cX11_left 12 = .ok (.ireturn, 1) := by decide +kernel
theorem dX11_reason_0 : decode cX11_reason 0 = .ok (.aload_n 0, 1) := by decide +kernel
theorem dX11_reason_1 : decode cX11_reason 1 = .ok (.iload_n 1, 1) := by decide +kernel
theorem dX11_reason_2 : decode cX11_reason 2 = .ok (.iconst 1, 1) := by decide +kernel
theorem dX11_reason_3 : decode cX11_reason 3 = .ok (.invokevirtual 34, 3) := by decide +kernel
theorem dX11_reason_6 : decode cX11_reason 6 = .ok (.bipush 6, 2) := by decide +kernel
theorem dX11_reason_8 : decode cX11_reason 8 = .ok (.if_icmp .ne 5, 3) := by decide +kernel
theorem dX11_reason_11 : decode cX11_reason 11 = .ok (.iconst 1, 1) := by decide +kernel
theorem dX11_reason_12 : decode cX11_reason 12 = .ok (.ireturn, 1) := by decide +kernel
theorem dX11_reason_13 : decode cX11_reason 13 = .ok (.iload_n 2, 1) := by decide +kernel
theorem dX11_reason_14 : decode cX11_reason 14 = .ok (.iload_n 3, 1) := by decide +kernel
theorem dX11_reason_15 : decode cX11_reason 15 = .ok (.invokestatic 61, 3) := by decide +kernel
theorem dX11_reason_18 : decode cX11_reason 18 = .ok (.aload_n 0, 1) := by decide +kernel
theorem dX11_reason_19 : decode cX11_reason 19 = .ok (.iload_n 1, 1) := by decide +kernel
theorem dX11_reason_20 : decode cX11_reason 20 = .ok (.invokevirtual 85, 3) := by decide +kernel
theorem dX11_reason_23 : decode cX11_reason 23 = .ok (.if_icmp .le 5, 3) := by decide +kernel
theorem dX11_reason_26 : decode cX11_reason 26 = .ok (.iconst 2, 1) := by decide +kernel
theorem dX11_reason_27 : decode cX11_reason 27 = .ok (.ireturn, 1) := by decide +kernel
theorem dX11_reason_28 : decode cX11_reason 28 = .ok (.iconst 0, 1) := by decide +kernel
theorem dX11_reason_29 : decode cX11_reason 29 = .ok (.istore 4, 2) := by decide +kernel
theorem dX11_reason_31 : decode cX11_reason 31 = .ok (.iload 4, 2) := by decide +kernel
theorem dX11_reason_33 : decode cX11_reason 33 = .ok (.aload_n 0, 1) := by decide +kernel
theorem dX11_reason_34 : decode cX11_reason 34 = .ok (.iload_n 1, 1) := by decide +kernel
theorem dX11_reason_35 : decode cX11_reason 35 = .ok (.iconst 1, 1) := by decide +kernel
theorem dX11_reason_36 : decode cX11_reason 36 = .ok (.invokevirtual 34, 3) := by decide +kernel
theorem dX11_reason_39 : decode cX11_reason 39 = .ok (.if_icmp .ge 26, 3) := by decide +kernel
theorem dX11_reason_42 : decode cX11_reason 42 = .ok (.aload_n 0, 1) := by decide +kernel
theorem dX11_reason_43 : decode cX11_reason 43 = .ok (.iload_n 1, 1) := by decide +kernel
theorem dX11_reason_44 : decode cX11_reason 44 = .ok (.iload 4, 2) := by decide +kernel
theorem dX11_reason_46 : decode cX11_reason 46 = .ok (.invokestatic 76, 3) := by decide +kernel
theorem dX11_reason_49 : decode cX11_reason 49 = .ok (.iload_n 2, 1) := by decide +kernel
theorem dX11_reason_50 : decode cX11_reason 50 = .ok (.iload_n 3, 1) := by decide +kernel
theorem dX11_reason_51 : decode cX11_reason 51 = .ok (.invokevirtual 88, 3) := by decide +kernel
theorem dX11_reason_54 : decode cX11_reason 54 = .ok (.ifCond .eq 5, 3) := by decide +kernel
theorem dX11_reason_57 : decode cX11_reason 57 = .ok (.iconst 3, 1) := by decide +kernel
theorem dX11_reason_58 : decode cX11_reason 58 = .ok (.ireturn, 1) := by decide +kernel
theorem dX11_reason_59 : decode cX11_reason 59 = .ok (.iinc 4 1, 3) := by decide +kernel
theorem dX11_reason_62 : decode cX11_reason 62 = .ok (.goto (-31), 3) := by decide +kernel
theorem dX11_reason_65 : decode cX11_reason 65 = .ok (.iconst 0, 1) := by decide +kernel
theorem dX11_reason_66 : decode cX11_reason 66 = .ok (.ireturn, 1) := by decide +kernel
theorem dX11_doTie_0 : decode cX11_doTie 0 = .ok (.iload_n 1, 1) := by decide +kernel
theorem dX11_doTie_1 : decode cX11_doTie 1 = .ok (.aload_n 0, 1) := by decide +kernel
theorem dX11_doTie_2 : decode cX11_doTie 2 = .ok (.iload_n 1, 1) := by decide +kernel
theorem dX11_doTie_3 : decode cX11_doTie 3 = .ok (.iconst 1, 1) := by decide +kernel
theorem dX11_doTie_4 : decode cX11_doTie 4 = .ok (.invokevirtual 34, 3) := by decide +kernel
theorem dX11_doTie_7 : decode cX11_doTie 7 = .ok (.invokestatic 76, 3) := by decide +kernel
theorem dX11_doTie_10 : decode cX11_doTie 10 = .ok (.istore 4, 2) := by decide +kernel
theorem dX11_doTie_12 : decode cX11_doTie 12 = .ok (.aload_n 0, 1) := by decide +kernel
theorem dX11_doTie_13 : decode cX11_doTie 13 = .ok (.getfield 7, 3) := by decide +kernel
theorem dX11_doTie_16 : decode cX11_doTie 16 = .ok (.iload 4, 2) := by decide +kernel
theorem dX11_doTie_18 : decode cX11_doTie 18 = .ok (.iconst 0, 1) := by decide +kernel
theorem dX11_doTie_19 : decode cX11_doTie 19 = .ok (.iadd, 1) := by decide +kernel
theorem dX11_doTie_20 : decode cX11_doTie 20 = .ok (.iload_n 3, 1) := by decide +kernel
theorem dX11_doTie_21 : decode cX11_doTie 21 = .ok (.iastore, 1) := by decide +kernel
theorem dX11_doTie_22 : decode cX11_doTie 22 = .ok (.aload_n 0, 1) := by decide +kernel
theorem dX11_doTie_23 : decode cX11_doTie 23 = .ok (.getfield 7, 3) := by decide +kernel
theorem dX11_doTie_26 : decode cX11_doTie 26 = .ok (.iload 4, 2) := by decide +kernel
theorem dX11_doTie_28 : decode cX11_doTie 28 = .ok (.iconst 1, 1) := by decide +kernel
theorem dX11_doTie_29 : decode cX11_doTie 29 = .ok (.iadd, 1) := by decide +kernel
theorem dX11_doTie_30 : decode cX11_doTie 30 = .ok (.iload_n 2, 1) := by decide +kernel
theorem dX11_doTie_31 : decode cX11_doTie 31 = .ok (.iload_n 3, 1) := by decide +kernel
theorem dX11_doTie_32 : decode cX11_doTie 32 = .ok (.invokestatic 73, 3) := by decide +kernel
theorem dX11_doTie_35 : decode cX11_doTie 35 = .ok (.iastore, 1) := by decide +kernel
theorem dX11_doTie_36 : decode cX11_doTie 36 = .ok (.aload_n 0, 1) := by decide +kernel
theorem dX11_doTie_37 : decode cX11_doTie 37 = .ok (.getfield 7, 3) := by decide +kernel
theorem dX11_doTie_40 : decode cX11_doTie 40 = .ok (.iload 4, 2) := by decide +kernel
theorem dX11_doTie_42 : decode cX11_doTie 42 = .ok (.iconst 2, 1) := by decide +kernel
theorem dX11_doTie_43 : decode cX11_doTie 43 = .ok (.iadd, 1) := by decide +kernel
theorem dX11_doTie_44 : decode cX11_doTie 44 = .ok (.iload_n 2, 1) := by decide +kernel
theorem dX11_doTie_45 : decode cX11_doTie 45 = .ok (.iload_n 3, 1) := by decide +kernel
theorem dX11_doTie_46 : decode cX11_doTie 46 = .ok (.invokestatic 73, 3) := by decide +kernel
theorem dX11_doTie_49 : decode cX11_doTie 49 = .ok (.iastore, 1) := by decide +kernel
theorem dX11_doTie_50 : decode cX11_doTie 50 = .ok (.iconst 0, 1) := by decide +kernel
theorem dX11_doTie_51 : decode cX11_doTie 51 = .ok (.istore 5, 2) := by decide +kernel
theorem dX11_doTie_53 : decode cX11_doTie 53 = .ok (.iload 5, 2) := by decide +kernel
theorem dX11_doTie_55 : decode cX11_doTie 55 = .ok (.bipush 8, 2) := by decide +kernel
theorem dX11_doTie_57 : decode cX11_doTie 57 = .ok (.if_icmp .ge 22, 3) := by decide +kernel
theorem dX11_doTie_60 : decode cX11_doTie 60 = .ok (.aload_n 0, 1) := by decide +kernel
theorem dX11_doTie_61 : decode cX11_doTie 61 = .ok (.getfield 7, 3) := by decide +kernel
theorem dX11_doTie_64 : decode cX11_doTie 64 = .ok (.iload 4, 2) := by decide +kernel
theorem dX11_doTie_66 : decode cX11_doTie 66 = .ok (.iconst 3, 1) := by decide +kernel
theorem dX11_doTie_67 : decode cX11_doTie 67 = .ok (.iadd, 1) := by decide +kernel
theorem dX11_doTie_68 : decode cX11_doTie 68 = .ok (.iload 5, 2) := by decide +kernel
theorem dX11_doTie_70 : decode cX11_doTie 70 = .ok (.iadd, 1) := by decide +kernel
theorem dX11_doTie_71 : decode cX11_doTie 71 = .ok (.iconst 0, 1) := by decide +kernel
theorem dX11_doTie_72 : decode cX11_doTie 72 = .ok (.iastore, 1) := by decide +kernel
theorem dX11_doTie_73 : decode cX11_doTie 73 = .ok (.iinc 5 1, 3) := by decide +kernel
theorem dX11_doTie_76 : decode cX11_doTie 76 = .ok (.goto (-23), 3) := by decide +kernel
theorem dX11_doTie_79 : decode cX11_doTie 79 = .ok (.aload_n 0, 1) := by decide +kernel
theorem dX11_doTie_80 : decode cX11_doTie 80 = .ok (.getfield 7, 3) := by decide +kernel
theorem dX11_doTie_83 : decode cX11_doTie 83 = .ok (.iconst 2, 1) := by decide +kernel
theorem dX11_doTie_84 : decode cX11_doTie 84 = .ok (.dup2, 1) := by decide +kernel
theorem dX11_doTie_85 : decode cX11_doTie 85 = .ok (.iaload, 1) := by decide +kernel
theorem dX11_doTie_86 : decode cX11_doTie 86 = .ok (.iload_n 3, 1) := by decide +kernel
theorem dX11_doTie_87 : decode cX11_doTie 87 = .ok (.iadd, 1) := by decide +kernel
theorem dX11_doTie_88 : decode cX11_doTie 88 = .ok (.iastore, 1) := by decide +kernel
theorem dX11_doTie_89 : decode cX11_doTie 89 = .ok (.aload_n 0, 1) := by decide +kernel
theorem dX11_doTie_90 : decode cX11_doTie 90 = .ok (.getfield 7, 3) := by decide +kernel
theorem dX11_doTie_93 : decode cX11_doTie 93 = .ok (.iconst 3, 1) := by decide +kernel
theorem dX11_doTie_94 : decode cX11_doTie 94 = .ok (.dup2, 1) := by decide +kernel
theorem dX11_doTie_95 : decode cX11_doTie 95 = .ok (.iaload, 1) := by decide +kernel
theorem dX11_doTie_96 : decode cX11_doTie 96 = .ok (.aload_n 0, 1) := by decide +kernel
theorem dX11_doTie_97 : decode cX11_doTie 97 = .ok (.iload 4, 2) := by decide +kernel
theorem dX11_doTie_99 : decode cX11_doTie 99 = .ok (.invokevirtual 79, 3) := by decide +kernel
theorem dX11_doTie_102 : decode cX11_doTie 102 = .ok (.iadd, 1) := by decide +kernel
theorem dX11_doTie_103 : decode cX11_doTie 103 = .ok (.iastore, 1) := by decide +kernel
theorem dX11_doTie_104 : decode cX11_doTie 104 = .ok (.aload_n 0, 1) := by decide +kernel
theorem dX11_doTie_105 : decode cX11_doTie 105 = .ok (.iload_n 1, 1) := by decide +kernel
theorem dX11_doTie_106 : decode cX11_doTie 106 = .ok (.iconst 1, 1) := by decide +kernel
theorem dX11_doTie_107 : decode cX11_doTie 107 = .ok (.iconst 1, 1) := by decide +kernel
theorem dX11_doTie_108 : decode cX11_doTie 108 = .ok (.invokevirtual 91, 3) := by decide +kernel
theorem dX11_doTie_111 : decode cX11_doTie 111 = .ok (.aload_n 0, 1) := by decide +kernel
theorem dX11_doTie_112 : decode cX11_doTie 112 = .ok (.iload_n 1, 1) := by decide +kernel
theorem dX11_doTie_113 : decode cX11_doTie 113 = .ok (.iconst 1, 1) := by decide +kernel
theorem dX11_doTie_114 : decode cX11_doTie 114 = .ok (.invokevirtual 34, 3) := by decide +kernel
theorem dX11_doTie_117 : decode cX11_doTie 117 = .ok (.iconst 1, 1) := by decide +kernel
theorem dX11_doTie_118 : decode cX11_doTie 118 = .ok (.isub, 1) := by decide +kernel
theorem dX11_doTie_119 : decode cX11_doTie 119 = .ok (.ireturn, 1) := by decide +kernel
theorem dX11_takeOff_0 : decode cX11_takeOff 0 = .ok (.aload_n 0, 1) := by decide +kernel
theorem dX11_takeOff_1 : decode cX11_takeOff 1 = .ok (.iload_n 1, 1) := by decide +kernel
theorem dX11_takeOff_2 : decode cX11_takeOff 2 = .ok (.iload_n 2, 1) := by decide +kernel
theorem dX11_takeOff_3 : decode cX11_takeOff 3 = .ok (.invokestatic 76, 3) := by decide +kernel
theorem dX11_takeOff_6 : decode cX11_takeOff 6 = .ok (.invokevirtual 79, 3) := by decide +kernel
theorem dX11_takeOff_9 : decode cX11_takeOff 9 = .ok (.istore_n 3, 1) := by decide +kernel
theorem dX11_takeOff_10 : decode cX11_takeOff 10 = .ok (.aload_n 0, 1) := by decide +kernel
theorem dX11_takeOff_11 : decode cX11_takeOff 11 = .ok (.iload_n 1, 1) := by decide +kernel
theorem dX11_takeOff_12 : decode cX11_takeOff 12 = .ok (.iconst 1, 1) := by decide +kernel
theorem dX11_takeOff_13 : decode cX11_takeOff 13 = .ok (.iconst (-1), 1) := by decide +kernel
theorem dX11_takeOff_14 : decode cX11_takeOff 14 = .ok (.invokevirtual 91, 3) := by decide +kernel
theorem dX11_takeOff_17 : decode cX11_takeOff 17 = .ok (.iload_n 1, 1) := by decide +kernel
theorem dX11_takeOff_18 : decode cX11_takeOff 18 = .ok (.iload_n 2, 1) := by decide +kernel
theorem dX11_takeOff_19 : decode cX11_takeOff 19 = .ok (.invokestatic 76, 3) := by decide +kernel
theorem dX11_takeOff_22 : decode cX11_takeOff 22 = .ok (.istore 4, 2) := by decide +kernel
theorem dX11_takeOff_24 : decode cX11_takeOff 24 = .ok (.iload 4, 2) := by decide +kernel
theorem dX11_takeOff_26 : decode cX11_takeOff 26 = .ok (.iload_n 1, 1) := by decide +kernel
theorem dX11_takeOff_27 : decode cX11_takeOff 27 = .ok (.aload_n 0, 1) := by decide +kernel
theorem dX11_takeOff_28 : decode cX11_takeOff 28 = .ok (.iload_n 1, 1) := by decide +kernel
theorem dX11_takeOff_29 : decode cX11_takeOff 29 = .ok (.iconst 1, 1) := by decide +kernel
theorem dX11_takeOff_30 : decode cX11_takeOff 30 = .ok (.invokevirtual 34, 3) := by decide +kernel
theorem dX11_takeOff_33 : decode cX11_takeOff 33 = .ok (.invokestatic 76, 3) := by decide +kernel
theorem dX11_takeOff_36 : decode cX11_takeOff 36 = .ok (.if_icmp .ge 26, 3) := by decide +kernel
theorem dX11_takeOff_39 : decode cX11_takeOff 39 = .ok (.aload_n 0, 1) := by decide +kernel
theorem dX11_takeOff_40 : decode cX11_takeOff 40 = .ok (.getfield 7, 3) := by decide +kernel
theorem dX11_takeOff_43 : decode cX11_takeOff 43 = .ok (.iload 4, 2) := by decide +kernel
theorem dX11_takeOff_45 : decode cX11_takeOff 45 = .ok (.aload_n 0, 1) := by decide +kernel
theorem dX11_takeOff_46 : decode cX11_takeOff 46 = .ok (.getfield 7, 3) := by decide +kernel
theorem dX11_takeOff_49 : decode cX11_takeOff 49 = .ok (.iload 4, 2) := by decide +kernel
theorem dX11_takeOff_51 : decode cX11_takeOff 51 = .ok (.bipush 11, 2) := by decide +kernel
theorem dX11_takeOff_53 : decode cX11_takeOff 53 = .ok (.iadd, 1) := by decide +kernel
theorem dX11_takeOff_54 : decode cX11_takeOff 54 = .ok (.iaload, 1) := by decide +kernel
theorem dX11_takeOff_55 : decode cX11_takeOff 55 = .ok (.iastore, 1) := by decide +kernel
theorem dX11_takeOff_56 : decode cX11_takeOff 56 = .ok (.iinc 4 1, 3) := by decide +kernel
theorem dX11_takeOff_59 : decode cX11_takeOff 59 = .ok (.goto (-35), 3) := by decide +kernel
theorem dX11_takeOff_62 : decode cX11_takeOff 62 = .ok (.aload_n 0, 1) := by decide +kernel
theorem dX11_takeOff_63 : decode cX11_takeOff 63 = .ok (.getfield 7, 3) := by decide +kernel
theorem dX11_takeOff_66 : decode cX11_takeOff 66 = .ok (.iconst 3, 1) := by decide +kernel
theorem dX11_takeOff_67 : decode cX11_takeOff 67 = .ok (.dup2, 1) := by decide +kernel
theorem dX11_takeOff_68 : decode cX11_takeOff 68 = .ok (.iaload, 1) := by decide +kernel
theorem dX11_takeOff_69 : decode cX11_takeOff 69 = .ok (.iload_n 3, 1) := by decide +kernel
theorem dX11_takeOff_70 : decode cX11_takeOff 70 = .ok (.isub, 1) := by decide +kernel
theorem dX11_takeOff_71 : decode cX11_takeOff 71 = .ok (.iastore, 1) := by decide +kernel
theorem dX11_takeOff_72 : decode cX11_takeOff 72 = .ok (.iload_n 3, 1) := by decide +kernel
theorem dX11_takeOff_73 : decode cX11_takeOff 73 = .ok (.ireturn, 1) := by decide +kernel
theorem dX11_gift_0 : decode cX11_gift 0 = .ok (.iload_n 1, 1) := by decide +kernel
theorem dX11_gift_1 : decode cX11_gift 1 = .ok (.iload_n 2, 1) := by decide +kernel
theorem dX11_gift_2 : decode cX11_gift 2 = .ok (.invokestatic 76, 3) := by decide +kernel
theorem dX11_gift_5 : decode cX11_gift 5 = .ok (.istore 4, 2) := by decide +kernel
theorem dX11_gift_7 : decode cX11_gift 7 = .ok (.iload_n 1, 1) := by decide +kernel
theorem dX11_gift_8 : decode cX11_gift 8 = .ok (.iload_n 3, 1) := by decide +kernel
theorem dX11_gift_9 : decode cX11_gift 9 = .ok (.if_icmp .ne 7, 3) := by decide +kernel
theorem dX11_gift_12 : decode cX11_gift 12 = .ok (.iconst 5, 1) := by decide +kernel
theorem dX11_gift_13 : decode cX11_gift 13 = .ok (.goto 34, 3) := by decide +kernel
theorem dX11_gift_16 : decode cX11_gift 16 = .ok (.aload_n 0, 1) := by decide +kernel
theorem dX11_gift_17 : decode cX11_gift 17 = .ok (.iload 4, 2) := by decide +kernel
theorem dX11_gift_19 : decode cX11_gift 19 = .ok (.iconst 2, 1) := by decide +kernel
theorem dX11_gift_20 : decode cX11_gift 20 = .ok (.invokevirtual 67, 3) := by decide +kernel
theorem dX11_gift_23 : decode cX11_gift 23 = .ok (.ifCond .le 7, 3) := by decide +kernel
theorem dX11_gift_26 : decode cX11_gift 26 = .ok (.iconst 4, 1) := by decide +kernel
theorem dX11_gift_27 : decode cX11_gift 27 = .ok (.goto 20, 3) := by decide +kernel
theorem dX11_gift_30 : decode cX11_gift 30 = .ok (.aload_n 0, 1) := by decide +kernel
theorem dX11_gift_31 : decode cX11_gift 31 = .ok (.iload_n 3, 1) := by decide +kernel
theorem dX11_gift_32 : decode cX11_gift 32 = .ok (.aload_n 0, 1) := by decide +kernel
theorem dX11_gift_33 : decode cX11_gift 33 = .ok (.iload 4, 2) := by decide +kernel
theorem dX11_gift_35 : decode cX11_gift 35 = .ok (.invokevirtual 70, 3) := by decide +kernel
theorem dX11_gift_38 : decode cX11_gift 38 = .ok (.aload_n 0, 1) := by decide +kernel
theorem dX11_gift_39 : decode cX11_gift 39 = .ok (.iload 4, 2) := by decide +kernel
theorem dX11_gift_41 : decode cX11_gift 41 = .ok (.invokevirtual 58, 3) := by decide +kernel
theorem dX11_gift_44 : decode cX11_gift 44 = .ok (.invokevirtual 95, 3) := by decide +kernel
theorem dX11_gift_47 : decode cX11_gift 47 = .ok (.ireturn, 1) := by decide +kernel
theorem dX11_doGive_0 : decode cX11_doGive 0 = .ok (.iload_n 1, 1) := by decide +kernel
theorem dX11_doGive_1 : decode cX11_doGive 1 = .ok (.iload_n 2, 1) := by decide +kernel
theorem dX11_doGive_2 : decode cX11_doGive 2 = .ok (.invokestatic 76, 3) := by decide +kernel
theorem dX11_doGive_5 : decode cX11_doGive 5 = .ok (.istore 4, 2) := by decide +kernel
theorem dX11_doGive_7 : decode cX11_doGive 7 = .ok (.aload_n 0, 1) := by decide +kernel
theorem dX11_doGive_8 : decode cX11_doGive 8 = .ok (.iload 4, 2) := by decide +kernel
theorem dX11_doGive_10 : decode cX11_doGive 10 = .ok (.invokevirtual 70, 3) := by decide +kernel
theorem dX11_doGive_13 : decode cX11_doGive 13 = .ok (.istore 5, 2) := by decide +kernel
theorem dX11_doGive_15 : decode cX11_doGive 15 = .ok (.aload_n 0, 1) := by decide +kernel
theorem dX11_doGive_16 : decode cX11_doGive 16 = .ok (.iload 4, 2) := by decide +kernel
theorem dX11_doGive_18 : decode cX11_doGive 18 = .ok (.invokevirtual 58, 3) := by decide +kernel
theorem dX11_doGive_21 : decode cX11_doGive 21 = .ok (.istore 6, 2) := by decide +kernel
theorem dX11_doGive_23 : decode cX11_doGive 23 = .ok (.aload_n 0, 1) := by decide +kernel
theorem dX11_doGive_24 : decode cX11_doGive 24 = .ok (.iload_n 1, 1) := by decide +kernel
theorem dX11_doGive_25 : decode cX11_doGive 25 = .ok (.iload_n 2, 1) := by decide +kernel
theorem dX11_doGive_26 : decode cX11_doGive 26 = .ok (.invokevirtual 99, 3) := by decide +kernel
theorem dX11_doGive_29 : decode cX11_doGive 29 = .ok (.pop, 1) := by decide +kernel
theorem dX11_doGive_30 : decode cX11_doGive 30 = .ok (.aload_n 0, 1) := by decide +kernel
theorem dX11_doGive_31 : decode cX11_doGive 31 = .ok (.iload_n 1, 1) := by decide +kernel
theorem dX11_doGive_32 : decode cX11_doGive 32 = .ok (.iconst 3, 1) := by decide +kernel
theorem dX11_doGive_33 : decode cX11_doGive 33 = .ok (.iconst 1, 1) := by decide +kernel
theorem dX11_doGive_34 : decode cX11_doGive 34 = .ok (.invokevirtual 91, 3) := by decide +kernel
theorem dX11_doGive_37 : decode cX11_doGive 37 = .ok (.aload_n 0, 1) := by decide +kernel
theorem dX11_doGive_38 : decode cX11_doGive 38 = .ok (.iload_n 3, 1) := by decide +kernel
theorem dX11_doGive_39 : decode cX11_doGive 39 = .ok (.iload 5, 2) := by decide +kernel
theorem dX11_doGive_41 : decode cX11_doGive 41 = .ok (.iload 6, 2) := by decide +kernel
theorem dX11_doGive_43 : decode cX11_doGive 43 = .ok (.invokevirtual 102, 3) := by decide +kernel
theorem dX11_doGive_46 : decode cX11_doGive 46 = .ok (.ireturn, 1) := by decide +kernel
theorem dX11_tightened_0 : decode cX11_tightened 0 = .ok (.iload_n 1, 1) := by decide +kernel
theorem dX11_tightened_1 : decode cX11_tightened 1 = .ok (.iload_n 2, 1) := by decide +kernel
theorem dX11_tightened_2 : decode cX11_tightened 2 = .ok (.invokestatic 76, 3) := by decide +kernel
theorem dX11_tightened_5 : decode cX11_tightened 5 = .ok (.istore_n 3, 1) := by decide +kernel
theorem dX11_tightened_6 : decode cX11_tightened 6 = .ok (.aload_n 0, 1) := by decide +kernel
theorem dX11_tightened_7 : decode cX11_tightened 7 = .ok (.iload_n 3, 1) := by decide +kernel
theorem dX11_tightened_8 : decode cX11_tightened 8 = .ok (.iconst 1, 1) := by decide +kernel
theorem dX11_tightened_9 : decode cX11_tightened 9 = .ok (.invokevirtual 67, 3) := by decide +kernel
theorem dX11_tightened_12 : decode cX11_tightened 12 = .ok (.aload_n 0, 1) := by decide +kernel
theorem dX11_tightened_13 : decode cX11_tightened 13 = .ok (.iload_n 3, 1) := by decide +kernel
theorem dX11_tightened_14 : decode cX11_tightened 14 = .ok (.iconst 2, 1) := by decide +kernel
theorem dX11_tightened_15 : decode cX11_tightened 15 = .ok (.invokevirtual 67, 3) := by decide +kernel
theorem dX11_tightened_18 : decode cX11_tightened 18 = .ok (.isub, 1) := by decide +kernel
theorem dX11_tightened_19 : decode cX11_tightened 19 = .ok (.ireturn, 1) := by decide +kernel
theorem dX11_canFasten_0 : decode cX11_canFasten 0 = .ok (.iload_n 1, 1) := by decide +kernel
theorem dX11_canFasten_1 : decode cX11_canFasten 1 = .ok (.iload_n 2, 1) := by decide +kernel
theorem dX11_canFasten_2 : decode cX11_canFasten 2 = .ok (.invokestatic 76, 3) := by decide +kernel
theorem dX11_canFasten_5 : decode cX11_canFasten 5 = .ok (.istore_n 3, 1) := by decide +kernel
theorem dX11_canFasten_6 : decode cX11_canFasten 6 = .ok (.iconst 0, 1) := by decide +kernel
theorem dX11_canFasten_7 : decode cX11_canFasten 7 = .ok (.istore 4, 2) := by decide +kernel
theorem dX11_canFasten_9 : decode cX11_canFasten 9 = .ok (.iconst 0, 1) := by decide +kernel
theorem dX11_canFasten_10 : decode cX11_canFasten 10 = .ok (.istore 5, 2) := by decide +kernel
theorem dX11_canFasten_12 : decode cX11_canFasten 12 = .ok (.iload 5, 2) := by decide +kernel
theorem dX11_canFasten_14 : decode cX11_canFasten 14 = .ok (.aload_n 0, 1) := by decide +kernel
theorem dX11_canFasten_15 : decode cX11_canFasten 15 = .ok (.iload_n 3, 1) := by decide +kernel
theorem dX11_canFasten_16 : decode cX11_canFasten 16 = .ok (.invokevirtual 58, 3) := by decide +kernel
theorem dX11_canFasten_19 : decode cX11_canFasten 19 = .ok (.if_icmp .ge 54, 3) := by decide +kernel
theorem dX11_canFasten_22 : decode cX11_canFasten 22 = .ok (.iload 4, 2) := by decide +kernel
theorem dX11_canFasten_24 : decode cX11_canFasten 24 = .ok (.aload_n 0, 1) := by decide +kernel
theorem dX11_canFasten_25 : decode cX11_canFasten 25 = .ok (.getfield 7, 3) := by decide +kernel
theorem dX11_canFasten_28 : decode cX11_canFasten 28 = .ok (.iload_n 3, 1) := by decide +kernel
theorem dX11_canFasten_29 : decode cX11_canFasten 29 = .ok (.iconst 3, 1) := by decide +kernel
theorem dX11_canFasten_30 : decode cX11_canFasten 30 = .ok (.iadd, 1) := by decide +kernel
theorem dX11_canFasten_31 : decode cX11_canFasten 31 = .ok (.iload 5, 2) := by decide +kernel
theorem dX11_canFasten_33 : decode cX11_canFasten 33 = .ok (.iadd, 1) := by decide +kernel
theorem dX11_canFasten_34 : decode cX11_canFasten 34 = .ok (.iaload, 1) := by decide +kernel
theorem dX11_canFasten_35 : decode cX11_canFasten 35 = .ok (.iconst 1, 1) := by decide +kernel
theorem dX11_canFasten_36 : decode cX11_canFasten 36 = .ok (.if_icmp .ne 27, 3) := by decide +kernel
theorem dX11_canFasten_39 : decode cX11_canFasten 39 = .ok (.aload_n 0, 1) := by decide +kernel
theorem dX11_canFasten_40 : decode cX11_canFasten 40 = .ok (.iload_n 3, 1) := by decide +kernel
theorem dX11_canFasten_41 : decode cX11_canFasten 41 = .ok (.iload 5, 2) := by decide +kernel
theorem dX11_canFasten_43 : decode cX11_canFasten 43 = .ok (.invokevirtual 64, 3) := by decide +kernel
theorem dX11_canFasten_46 : decode cX11_canFasten 46 = .ok (.invokestatic 52, 3) := by decide +kernel
theorem dX11_canFasten_49 : decode cX11_canFasten 49 = .ok (.aload_n 0, 1) := by decide +kernel
theorem dX11_canFasten_50 : decode cX11_canFasten 50 = .ok (.iload_n 3, 1) := by decide +kernel
theorem dX11_canFasten_51 : decode cX11_canFasten 51 = .ok (.iload 5, 2) := by decide +kernel
theorem dX11_canFasten_53 : decode cX11_canFasten 53 = .ok (.invokevirtual 55, 3) := by decide +kernel
theorem dX11_canFasten_56 : decode cX11_canFasten 56 = .ok (.invokestatic 52, 3) := by decide +kernel
theorem dX11_canFasten_59 : decode cX11_canFasten 59 = .ok (.isub, 1) := by decide +kernel
theorem dX11_canFasten_60 : decode cX11_canFasten 60 = .ok (.goto 4, 3) := by decide +kernel
theorem dX11_canFasten_63 : decode cX11_canFasten 63 = .ok (.iconst 0, 1) := by decide +kernel
theorem dX11_canFasten_64 : decode cX11_canFasten 64 = .ok (.iadd, 1) := by decide +kernel
theorem dX11_canFasten_65 : decode cX11_canFasten 65 = .ok (.istore 4, 2) := by decide +kernel
theorem dX11_canFasten_67 : decode cX11_canFasten 67 = .ok (.iinc 5 1, 3) := by decide +kernel
theorem dX11_canFasten_70 : decode cX11_canFasten 70 = .ok (.goto (-58), 3) := by decide +kernel
theorem dX11_canFasten_73 : decode cX11_canFasten 73 = .ok (.iload 4, 2) := by decide +kernel
theorem dX11_canFasten_75 : decode cX11_canFasten 75 = .ok (.aload_n 0, 1) := by decide +kernel
theorem dX11_canFasten_76 : decode cX11_canFasten 76 = .ok (.iload_n 1, 1) := by decide +kernel
theorem dX11_canFasten_77 : decode cX11_canFasten 77 = .ok (.invokevirtual 85, 3) := by decide +kernel
theorem dX11_canFasten_80 : decode cX11_canFasten 80 = .ok (.if_icmp .gt 7, 3) := by decide +kernel
theorem dX11_canFasten_83 : decode cX11_canFasten 83 = .ok (.iconst 1, 1) := by decide +kernel
theorem dX11_canFasten_84 : decode cX11_canFasten 84 = .ok (.goto 4, 3) := by decide +kernel
theorem dX11_canFasten_87 : decode cX11_canFasten 87 = .ok (.iconst 0, 1) := by decide +kernel
theorem dX11_canFasten_88 : decode cX11_canFasten 88 = .ok (.ireturn, 1) := by decide +kernel
theorem dX11_doFast_0 : decode cX11_doFast 0 = .ok (.iload_n 1, 1) := by decide +kernel
theorem dX11_doFast_1 : decode cX11_doFast 1 = .ok (.iload_n 2, 1) := by decide +kernel
theorem dX11_doFast_2 : decode cX11_doFast 2 = .ok (.invokestatic 76, 3) := by decide +kernel
theorem dX11_doFast_5 : decode cX11_doFast 5 = .ok (.istore_n 3, 1) := by decide +kernel
theorem dX11_doFast_6 : decode cX11_doFast 6 = .ok (.aload_n 0, 1) := by decide +kernel
theorem dX11_doFast_7 : decode cX11_doFast 7 = .ok (.iload_n 1, 1) := by decide +kernel
theorem dX11_doFast_8 : decode cX11_doFast 8 = .ok (.iload_n 2, 1) := by decide +kernel
theorem dX11_doFast_9 : decode cX11_doFast 9 = .ok (.invokevirtual 105, 3) := by decide +kernel
theorem dX11_doFast_12 : decode cX11_doFast 12 = .ok (.istore 4, 2) := by decide +kernel
theorem dX11_doFast_14 : decode cX11_doFast 14 = .ok (.aload_n 0, 1) := by decide +kernel
theorem dX11_doFast_15 : decode cX11_doFast 15 = .ok (.getfield 7, 3) := by decide +kernel
theorem dX11_doFast_18 : decode cX11_doFast 18 = .ok (.iconst 3, 1) := by decide +kernel
theorem dX11_doFast_19 : decode cX11_doFast 19 = .ok (.dup2, 1) := by decide +kernel
theorem dX11_doFast_20 : decode cX11_doFast 20 = .ok (.iaload, 1) := by decide +kernel
theorem dX11_doFast_21 : decode cX11_doFast 21 = .ok (.aload_n 0, 1) := by decide +kernel
theorem dX11_doFast_22 : decode cX11_doFast 22 = .ok (.iload_n 3, 1) := by decide +kernel
theorem dX11_doFast_23 : decode cX11_doFast 23 = .ok (.invokevirtual 79, 3) := by decide +kernel
theorem dX11_doFast_26 : decode cX11_doFast 26 = .ok (.isub, 1) := by decide +kernel
theorem dX11_doFast_27 : decode cX11_doFast 27 = .ok (.iastore, 1) := by decide +kernel
theorem dX11_doFast_28 : decode cX11_doFast 28 = .ok (.iconst 0, 1) := by decide +kernel
theorem dX11_doFast_29 : decode cX11_doFast 29 = .ok (.istore 5, 2) := by decide +kernel
theorem dX11_doFast_31 : decode cX11_doFast 31 = .ok (.iload 5, 2) := by decide +kernel
theorem dX11_doFast_33 : decode cX11_doFast 33 = .ok (.aload_n 0, 1) := by decide +kernel
theorem dX11_doFast_34 : decode cX11_doFast 34 = .ok (.iload_n 3, 1) := by decide +kernel
theorem dX11_doFast_35 : decode cX11_doFast 35 = .ok (.invokevirtual 58, 3) := by decide +kernel
theorem dX11_doFast_38 : decode cX11_doFast 38 = .ok (.if_icmp .ge 53, 3) := by decide +kernel
theorem dX11_doFast_41 : decode cX11_doFast 41 = .ok (.aload_n 0, 1) := by decide +kernel
theorem dX11_doFast_42 : decode cX11_doFast 42 = .ok (.getfield 7, 3) := by decide +kernel
theorem dX11_doFast_45 : decode cX11_doFast 45 = .ok (.iload_n 3, 1) := by decide +kernel
theorem dX11_doFast_46 : decode cX11_doFast 46 = .ok (.iconst 3, 1) := by decide +kernel
theorem dX11_doFast_47 : decode cX11_doFast 47 = .ok (.iadd, 1) := by decide +kernel
theorem dX11_doFast_48 : decode cX11_doFast 48 = .ok (.iload 5, 2) := by decide +kernel
theorem dX11_doFast_50 : decode cX11_doFast 50 = .ok (.iadd, 1) := by decide +kernel
theorem dX11_doFast_51 : decode cX11_doFast 51 = .ok (.iaload, 1) := by decide +kernel
theorem dX11_doFast_52 : decode cX11_doFast 52 = .ok (.iconst 1, 1) := by decide +kernel
theorem dX11_doFast_53 : decode cX11_doFast 53 = .ok (.if_icmp .ne 32, 3) := by decide +kernel
theorem dX11_doFast_56 : decode cX11_doFast 56 = .ok (.aload_n 0, 1) := by decide +kernel
theorem dX11_doFast_57 : decode cX11_doFast 57 = .ok (.getfield 7, 3) := by decide +kernel
theorem dX11_doFast_60 : decode cX11_doFast 60 = .ok (.iload_n 3, 1) := by decide +kernel
theorem dX11_doFast_61 : decode cX11_doFast 61 = .ok (.iconst 2, 1) := by decide +kernel
theorem dX11_doFast_62 : decode cX11_doFast 62 = .ok (.iadd, 1) := by decide +kernel
theorem dX11_doFast_63 : decode cX11_doFast 63 = .ok (.dup2, 1) := by decide +kernel
theorem dX11_doFast_64 : decode cX11_doFast 64 = .ok (.iaload, 1) := by decide +kernel
theorem dX11_doFast_65 : decode cX11_doFast 65 = .ok (.iconst 1, 1) := by decide +kernel
theorem dX11_doFast_66 : decode cX11_doFast 66 = .ok (.iconst 4, 1) := by decide +kernel
theorem dX11_doFast_67 : decode cX11_doFast 67 = .ok (.iload 5, 2) := by decide +kernel
theorem dX11_doFast_69 : decode cX11_doFast 69 = .ok (.imul, 1) := by decide +kernel
theorem dX11_doFast_70 : decode cX11_doFast 70 = .ok (.ishl, 1) := by decide +kernel
theorem dX11_doFast_71 : decode cX11_doFast 71 = .ok (.iadd, 1) := by decide +kernel
theorem dX11_doFast_72 : decode cX11_doFast 72 = .ok (.iastore, 1) := by decide +kernel
theorem dX11_doFast_73 : decode cX11_doFast 73 = .ok (.aload_n 0, 1) := by decide +kernel
theorem dX11_doFast_74 : decode cX11_doFast 74 = .ok (.getfield 7, 3) := by decide +kernel
theorem dX11_doFast_77 : decode cX11_doFast 77 = .ok (.iload_n 3, 1) := by decide +kernel
theorem dX11_doFast_78 : decode cX11_doFast 78 = .ok (.iconst 3, 1) := by decide +kernel
theorem dX11_doFast_79 : decode cX11_doFast 79 = .ok (.iadd, 1) := by decide +kernel
theorem dX11_doFast_80 : decode cX11_doFast 80 = .ok (.iload 5, 2) := by decide +kernel
theorem dX11_doFast_82 : decode cX11_doFast 82 = .ok (.iadd, 1) := by decide +kernel
theorem dX11_doFast_83 : decode cX11_doFast 83 = .ok (.iconst 0, 1) := by decide +kernel
theorem dX11_doFast_84 : decode cX11_doFast 84 = .ok (.iastore, 1) := by decide +kernel
theorem dX11_doFast_85 : decode cX11_doFast 85 = .ok (.iinc 5 1, 3) := by decide +kernel
theorem dX11_doFast_88 : decode cX11_doFast 88 = .ok (.goto (-57), 3) := by decide +kernel
theorem dX11_doFast_91 : decode cX11_doFast 91 = .ok (.aload_n 0, 1) := by decide +kernel
theorem dX11_doFast_92 : decode cX11_doFast 92 = .ok (.getfield 7, 3) := by decide +kernel
theorem dX11_doFast_95 : decode cX11_doFast 95 = .ok (.iconst 3, 1) := by decide +kernel
theorem dX11_doFast_96 : decode cX11_doFast 96 = .ok (.dup2, 1) := by decide +kernel
theorem dX11_doFast_97 : decode cX11_doFast 97 = .ok (.iaload, 1) := by decide +kernel
theorem dX11_doFast_98 : decode cX11_doFast 98 = .ok (.aload_n 0, 1) := by decide +kernel
theorem dX11_doFast_99 : decode cX11_doFast 99 = .ok (.iload_n 3, 1) := by decide +kernel
theorem dX11_doFast_100 : decode cX11_doFast 100 = .ok (.invokevirtual 79, 3) := by decide +kernel
theorem dX11_doFast_103 : decode cX11_doFast 103 = .ok (.iadd, 1) := by decide +kernel
theorem dX11_doFast_104 : decode cX11_doFast 104 = .ok (.iastore, 1) := by decide +kernel
theorem dX11_doFast_105 : decode cX11_doFast 105 = .ok (.iload 4, 2) := by decide +kernel
theorem dX11_doFast_107 : decode cX11_doFast 107 = .ok (.ireturn, 1) := by decide +kernel
theorem dX11_loosens_0 : decode cX11_loosens 0 = .ok (.aload_n 0, 1) := by decide +kernel
theorem dX11_loosens_1 : decode cX11_loosens 1 = .ok (.iload_n 1, 1) := by decide +kernel
theorem dX11_loosens_2 : decode cX11_loosens 2 = .ok (.iload_n 2, 1) := by decide +kernel
theorem dX11_loosens_3 : decode cX11_loosens 3 = .ok (.invokevirtual 55, 3) := by decide +kernel
theorem dX11_loosens_6 : decode cX11_loosens 6 = .ok (.invokestatic 108, 3) := by decide +kernel
theorem dX11_loosens_9 : decode cX11_loosens 9 = .ok (.ifCond .eq 22, 3) := by decide +kernel
theorem dX11_loosens_12 : decode cX11_loosens 12 = .ok (.iload_n 2, 1) := by decide +kernel
theorem dX11_loosens_13 : decode cX11_loosens 13 = .ok (.iconst 1, 1) := by decide +kernel
theorem dX11_loosens_14 : decode cX11_loosens 14 = .ok (.iadd, 1) := by decide +kernel
theorem dX11_loosens_15 : decode cX11_loosens 15 = .ok (.iload_n 3, 1) := by decide +kernel
theorem dX11_loosens_16 : decode cX11_loosens 16 = .ok (.iadd, 1) := by decide +kernel
theorem dX11_loosens_17 : decode cX11_loosens 17 = .ok (.aload_n 0, 1) := by decide +kernel
theorem dX11_loosens_18 : decode cX11_loosens 18 = .ok (.getfield 7, 3) := by decide +kernel
theorem dX11_loosens_21 : decode cX11_loosens 21 = .ok (.iconst 4, 1) := by decide +kernel
theorem dX11_loosens_22 : decode cX11_loosens 22 = .ok (.iaload, 1) := by decide +kernel
theorem dX11_loosens_23 : decode cX11_loosens 23 = .ok (.irem, 1) := by decide +kernel
theorem dX11_loosens_24 : decode cX11_loosens 24 = .ok (.ifCond .ne 7, 3) := by decide +kernel
theorem dX11_loosens_27 : decode cX11_loosens 27 = .ok (.iconst 1, 1) := by decide +kernel
theorem dX11_loosens_28 : decode cX11_loosens 28 = .ok (.goto 4, 3) := by decide +kernel
theorem dX11_loosens_31 : decode cX11_loosens 31 = .ok (.iconst 0, 1) := by decide +kernel
theorem dX11_loosens_32 : decode cX11_loosens 32 = .ok (.ireturn, 1) := by decide +kernel
theorem dX11_drown_0 : decode cX11_drown 0 = .ok (.aload_n 0, 1) := by decide +kernel
theorem dX11_drown_1 : decode cX11_drown 1 = .ok (.getfield 7, 3) := by decide +kernel
theorem dX11_drown_4 : decode cX11_drown 4 = .ok (.iconst 1, 1) := by decide +kernel
theorem dX11_drown_5 : decode cX11_drown 5 = .ok (.iaload, 1) := by decide +kernel
theorem dX11_drown_6 : decode cX11_drown 6 = .ok (.bipush 12, 2) := by decide +kernel
theorem dX11_drown_8 : decode cX11_drown 8 = .ok (.if_icmp .ne 44, 3) := by decide +kernel
theorem dX11_drown_11 : decode cX11_drown 11 = .ok (.sipush 358, 3) := by decide +kernel
theorem dX11_drown_14 : decode cX11_drown 14 = .ok (.istore_n 3, 1) := by decide +kernel
theorem dX11_drown_15 : decode cX11_drown 15 = .ok (.iload_n 3, 1) := by decide +kernel
theorem dX11_drown_16 : decode cX11_drown 16 = .ok (.sipush 402, 3) := by decide +kernel
theorem dX11_drown_19 : decode cX11_drown 19 = .ok (.if_icmp .ge 23, 3) := by decide +kernel
theorem dX11_drown_22 : decode cX11_drown 22 = .ok (.aload_n 0, 1) := by decide +kernel
theorem dX11_drown_23 : decode cX11_drown 23 = .ok (.getfield 7, 3) := by decide +kernel
theorem dX11_drown_26 : decode cX11_drown 26 = .ok (.iload_n 3, 1) := by decide +kernel
theorem dX11_drown_27 : decode cX11_drown 27 = .ok (.aload_n 0, 1) := by decide +kernel
theorem dX11_drown_28 : decode cX11_drown 28 = .ok (.getfield 7, 3) := by decide +kernel
theorem dX11_drown_31 : decode cX11_drown 31 = .ok (.iload_n 3, 1) := by decide +kernel
theorem dX11_drown_32 : decode cX11_drown 32 = .ok (.iconst 4, 1) := by decide +kernel
theorem dX11_drown_33 : decode cX11_drown 33 = .ok (.iadd, 1) := by decide +kernel
theorem dX11_drown_34 : decode cX11_drown 34 = .ok (.iaload, 1) := by decide +kernel
theorem dX11_drown_35 : decode cX11_drown 35 = .ok (.iastore, 1) := by decide +kernel
theorem dX11_drown_36 : decode cX11_drown 36 = .ok (.iinc 3 1, 3) := by decide +kernel
theorem dX11_drown_39 : decode cX11_drown 39 = .ok (.goto (-24), 3) := by decide +kernel
theorem dX11_drown_42 : decode cX11_drown 42 = .ok (.aload_n 0, 1) := by decide +kernel
theorem dX11_drown_43 : decode cX11_drown 43 = .ok (.getfield 7, 3) := by decide +kernel
theorem dX11_drown_46 : decode cX11_drown 46 = .ok (.iconst 1, 1) := by decide +kernel
theorem dX11_drown_47 : decode cX11_drown 47 = .ok (.dup2, 1) := by decide +kernel
theorem dX11_drown_48 : decode cX11_drown 48 = .ok (.iaload, 1) := by decide +kernel
theorem dX11_drown_49 : decode cX11_drown 49 = .ok (.iconst 1, 1) := by decide +kernel
theorem dX11_drown_50 : decode cX11_drown 50 = .ok (.isub, 1) := by decide +kernel
theorem dX11_drown_51 : decode cX11_drown 51 = .ok (.iastore, 1) := by decide +kernel
theorem dX11_drown_52 : decode cX11_drown 52 = .ok (.sipush 358, 3) := by decide +kernel
theorem dX11_drown_55 : decode cX11_drown 55 = .ok (.iconst 4, 1) := by decide +kernel
theorem dX11_drown_56 : decode cX11_drown 56 = .ok (.aload_n 0, 1) := by decide +kernel
theorem dX11_drown_57 : decode cX11_drown 57 = .ok (.getfield 7, 3) := by decide +kernel
theorem dX11_drown_60 : decode cX11_drown 60 = .ok (.iconst 1, 1) := by decide +kernel
theorem dX11_drown_61 : decode cX11_drown 61 = .ok (.iaload, 1) := by decide +kernel
theorem dX11_drown_62 : decode cX11_drown 62 = .ok (.imul, 1) := by decide +kernel
theorem dX11_drown_63 : decode cX11_drown 63 = .ok (.iadd, 1) := by decide +kernel
theorem dX11_drown_64 : decode cX11_drown 64 = .ok (.istore_n 3, 1) := by decide +kernel
theorem dX11_drown_65 : decode cX11_drown 65 = .ok (.iload_n 1, 1) := by decide +kernel
theorem dX11_drown_66 : decode cX11_drown 66 = .ok (.iload_n 2, 1) := by decide +kernel
theorem dX11_drown_67 : decode cX11_drown 67 = .ok (.invokestatic 76, 3) := by decide +kernel
theorem dX11_drown_70 : decode cX11_drown 70 = .ok (.istore 4, 2) := by decide +kernel
theorem dX11_drown_72 : decode cX11_drown 72 = .ok (.aload_n 0, 1) := by decide +kernel
theorem dX11_drown_73 : decode cX11_drown 73 = .ok (.getfield 7, 3) := by decide +kernel
theorem dX11_drown_76 : decode cX11_drown 76 = .ok (.iload_n 3, 1) := by decide +kernel
theorem dX11_drown_77 : decode cX11_drown 77 = .ok (.aload_n 0, 1) := by decide +kernel
theorem dX11_drown_78 : decode cX11_drown 78 = .ok (.iload 4, 2) := by decide +kernel
theorem dX11_drown_80 : decode cX11_drown 80 = .ok (.invokevirtual 58, 3) := by decide +kernel
theorem dX11_drown_83 : decode cX11_drown 83 = .ok (.iastore, 1) := by decide +kernel
theorem dX11_drown_84 : decode cX11_drown 84 = .ok (.aload_n 0, 1) := by decide +kernel
theorem dX11_drown_85 : decode cX11_drown 85 = .ok (.getfield 7, 3) := by decide +kernel
theorem dX11_drown_88 : decode cX11_drown 88 = .ok (.iload_n 3, 1) := by decide +kernel
theorem dX11_drown_89 : decode cX11_drown 89 = .ok (.iconst 1, 1) := by decide +kernel
theorem dX11_drown_90 : decode cX11_drown 90 = .ok (.iadd, 1) := by decide +kernel
theorem dX11_drown_91 : decode cX11_drown 91 = .ok (.iload_n 1, 1) := by decide +kernel
theorem dX11_drown_92 : decode cX11_drown 92 = .ok (.iastore, 1) := by decide +kernel
theorem dX11_drown_93 : decode cX11_drown 93 = .ok (.aload_n 0, 1) := by decide +kernel
theorem dX11_drown_94 : decode cX11_drown 94 = .ok (.getfield 7, 3) := by decide +kernel
theorem dX11_drown_97 : decode cX11_drown 97 = .ok (.iload_n 3, 1) := by decide +kernel
theorem dX11_drown_98 : decode cX11_drown 98 = .ok (.iconst 2, 1) := by decide +kernel
theorem dX11_drown_99 : decode cX11_drown 99 = .ok (.iadd, 1) := by decide +kernel
theorem dX11_drown_100 : decode cX11_drown 100 = .ok (.aload_n 0, 1) := by decide +kernel
theorem dX11_drown_101 : decode cX11_drown 101 = .ok (.getfield 7, 3) := by decide +kernel
theorem dX11_drown_104 : decode cX11_drown 104 = .ok (.iconst 0, 1) := by decide +kernel
theorem dX11_drown_105 : decode cX11_drown 105 = .ok (.iaload, 1) := by decide +kernel
theorem dX11_drown_106 : decode cX11_drown 106 = .ok (.iastore, 1) := by decide +kernel
theorem dX11_drown_107 : decode cX11_drown 107 = .ok (.aload_n 0, 1) := by decide +kernel
theorem dX11_drown_108 : decode cX11_drown 108 = .ok (.getfield 7, 3) := by decide +kernel
theorem dX11_drown_111 : decode cX11_drown 111 = .ok (.iload_n 3, 1) := by decide +kernel
theorem dX11_drown_112 : decode cX11_drown 112 = .ok (.iconst 3, 1) := by decide +kernel
theorem dX11_drown_113 : decode cX11_drown 113 = .ok (.iadd, 1) := by decide +kernel
theorem dX11_drown_114 : decode cX11_drown 114 = .ok (.aload_n 0, 1) := by decide +kernel
theorem dX11_drown_115 : decode cX11_drown 115 = .ok (.getfield 7, 3) := by decide +kernel
theorem dX11_drown_118 : decode cX11_drown 118 = .ok (.iload 4, 2) := by decide +kernel
theorem dX11_drown_120 : decode cX11_drown 120 = .ok (.iconst 1, 1) := by decide +kernel
theorem dX11_drown_121 : decode cX11_drown 121 = .ok (.iadd, 1) := by decide +kernel
theorem dX11_drown_122 : decode cX11_drown 122 = .ok (.iaload, 1) := by decide +kernel
theorem dX11_drown_123 : decode cX11_drown 123 = .ok (.iastore, 1) := by decide +kernel
theorem dX11_drown_124 : decode cX11_drown 124 = .ok (.aload_n 0, 1) := by decide +kernel
theorem dX11_drown_125 : decode cX11_drown 125 = .ok (.getfield 7, 3) := by decide +kernel
theorem dX11_drown_128 : decode cX11_drown 128 = .ok (.iconst 1, 1) := by decide +kernel
theorem dX11_drown_129 : decode cX11_drown 129 = .ok (.dup2, 1) := by decide +kernel
theorem dX11_drown_130 : decode cX11_drown 130 = .ok (.iaload, 1) := by decide +kernel
theorem dX11_drown_131 : decode cX11_drown 131 = .ok (.iconst 1, 1) := by decide +kernel
theorem dX11_drown_132 : decode cX11_drown 132 = .ok (.iadd, 1) := by decide +kernel
theorem dX11_drown_133 : decode cX11_drown 133 = .ok (.iastore, 1) := by decide +kernel
theorem dX11_drown_134 : decode cX11_drown 134 = .ok (.aload_n 0, 1) := by decide +kernel
theorem dX11_drown_135 : decode cX11_drown 135 = .ok (.iload_n 1, 1) := by decide +kernel
theorem dX11_drown_136 : decode cX11_drown 136 = .ok (.iconst 2, 1) := by decide +kernel
theorem dX11_drown_137 : decode cX11_drown 137 = .ok (.iconst 1, 1) := by decide +kernel
theorem dX11_drown_138 : decode cX11_drown 138 = .ok (.invokevirtual 91, 3) := by decide +kernel
theorem dX11_drown_141 : decode cX11_drown 141 = .ok (.aload_n 0, 1) := by decide +kernel
theorem dX11_drown_142 : decode cX11_drown 142 = .ok (.iload_n 1, 1) := by decide +kernel
theorem dX11_drown_143 : decode cX11_drown 143 = .ok (.iload_n 2, 1) := by decide +kernel
theorem dX11_drown_144 : decode cX11_drown 144 = .ok (.invokevirtual 99, 3) := by decide +kernel
theorem dX11_drown_147 : decode cX11_drown 147 = .ok (.pop, 1) := by decide +kernel
theorem dX11_drown_148 : decode cX11_drown 148 = .ok (.return_, 1) := by decide +kernel
theorem dX11_doStorm_0 : decode cX11_doStorm 0 = .ok (.aload_n 0, 1) := by decide +kernel
theorem dX11_doStorm_1 : decode cX11_doStorm 1 = .ok (.getfield 7, 3) := by decide +kernel
theorem dX11_doStorm_4 : decode cX11_doStorm 4 = .ok (.iconst 0, 1) := by decide +kernel
theorem dX11_doStorm_5 : decode cX11_doStorm 5 = .ok (.dup2, 1) := by decide +kernel
theorem dX11_doStorm_6 : decode cX11_doStorm 6 = .ok (.iaload, 1) := by decide +kernel
theorem dX11_doStorm_7 : decode cX11_doStorm 7 = .ok (.iconst 1, 1) := by decide +kernel
theorem dX11_doStorm_8 : decode cX11_doStorm 8 = .ok (.iadd, 1) := by decide +kernel
theorem dX11_doStorm_9 : decode cX11_doStorm 9 = .ok (.iastore, 1) := by decide +kernel
theorem dX11_doStorm_10 : decode cX11_doStorm 10 = .ok (.iconst 0, 1) := by decide +kernel
theorem dX11_doStorm_11 : decode cX11_doStorm 11 = .ok (.istore_n 2, 1) := by decide +kernel
theorem dX11_doStorm_12 : decode cX11_doStorm 12 = .ok (.iconst 0, 1) := by decide +kernel
theorem dX11_doStorm_13 : decode cX11_doStorm 13 = .ok (.istore_n 3, 1) := by decide +kernel
theorem dX11_doStorm_14 : decode cX11_doStorm 14 = .ok (.iload_n 3, 1) := by decide +kernel
theorem dX11_doStorm_15 : decode cX11_doStorm 15 = .ok (.aload_n 0, 1) := by decide +kernel
theorem dX11_doStorm_16 : decode cX11_doStorm 16 = .ok (.iload_n 1, 1) := by decide +kernel
theorem dX11_doStorm_17 : decode cX11_doStorm 17 = .ok (.iconst 1, 1) := by decide +kernel
theorem dX11_doStorm_18 : decode cX11_doStorm 18 = .ok (.invokevirtual 34, 3) := by decide +kernel
theorem dX11_doStorm_21 : decode cX11_doStorm 21 = .ok (.if_icmp .ge 101, 3) := by decide +kernel
theorem dX11_doStorm_24 : decode cX11_doStorm 24 = .ok (.iload_n 1, 1) := by decide +kernel
theorem dX11_doStorm_25 : decode cX11_doStorm 25 = .ok (.iload_n 3, 1) := by decide +kernel
theorem dX11_doStorm_26 : decode cX11_doStorm 26 = .ok (.invokestatic 76, 3) := by decide +kernel
theorem dX11_doStorm_29 : decode cX11_doStorm 29 = .ok (.istore 4, 2) := by decide +kernel
theorem dX11_doStorm_31 : decode cX11_doStorm 31 = .ok (.iconst 0, 1) := by decide +kernel
theorem dX11_doStorm_32 : decode cX11_doStorm 32 = .ok (.istore 5, 2) := by decide +kernel
theorem dX11_doStorm_34 : decode cX11_doStorm 34 = .ok (.iload 5, 2) := by decide +kernel
theorem dX11_doStorm_36 : decode cX11_doStorm 36 = .ok (.aload_n 0, 1) := by decide +kernel
theorem dX11_doStorm_37 : decode cX11_doStorm 37 = .ok (.iload 4, 2) := by decide +kernel
theorem dX11_doStorm_39 : decode cX11_doStorm 39 = .ok (.invokevirtual 58, 3) := by decide +kernel
theorem dX11_doStorm_42 : decode cX11_doStorm 42 = .ok (.if_icmp .ge 46, 3) := by decide +kernel
theorem dX11_doStorm_45 : decode cX11_doStorm 45 = .ok (.aload_n 0, 1) := by decide +kernel
theorem dX11_doStorm_46 : decode cX11_doStorm 46 = .ok (.getfield 7, 3) := by decide +kernel
theorem dX11_doStorm_49 : decode cX11_doStorm 49 = .ok (.iload 4, 2) := by decide +kernel
theorem dX11_doStorm_51 : decode cX11_doStorm 51 = .ok (.iconst 3, 1) := by decide +kernel
theorem dX11_doStorm_52 : decode cX11_doStorm 52 = .ok (.iadd, 1) := by decide +kernel
theorem dX11_doStorm_53 : decode cX11_doStorm 53 = .ok (.iload 5, 2) := by decide +kernel
theorem dX11_doStorm_55 : decode cX11_doStorm 55 = .ok (.iadd, 1) := by decide +kernel
theorem dX11_doStorm_56 : decode cX11_doStorm 56 = .ok (.dup2, 1) := by decide +kernel
theorem dX11_doStorm_57 : decode cX11_doStorm 57 = .ok (.iaload, 1) := by decide +kernel
theorem dX11_doStorm_58 : decode cX11_doStorm 58 = .ok (.aload_n 0, 1) := by decide +kernel
theorem dX11_doStorm_59 : decode cX11_doStorm 59 = .ok (.iload 4, 2) := by decide +kernel
theorem dX11_doStorm_61 : decode cX11_doStorm 61 = .ok (.iload 5, 2) := by decide +kernel
theorem dX11_doStorm_63 : decode cX11_doStorm 63 = .ok (.aload_n 0, 1) := by decide +kernel
theorem dX11_doStorm_64 : decode cX11_doStorm 64 = .ok (.getfield 7, 3) := by decide +kernel
theorem dX11_doStorm_67 : decode cX11_doStorm 67 = .ok (.iconst 0, 1) := by decide +kernel
theorem dX11_doStorm_68 : decode cX11_doStorm 68 = .ok (.iaload, 1) := by decide +kernel
theorem dX11_doStorm_69 : decode cX11_doStorm 69 = .ok (.invokevirtual 111, 3) := by decide +kernel
theorem dX11_doStorm_72 : decode cX11_doStorm 72 = .ok (.ifCond .eq 7, 3) := by decide +kernel
theorem dX11_doStorm_75 : decode cX11_doStorm 75 = .ok (.iconst 1, 1) := by decide +kernel
theorem dX11_doStorm_76 : decode cX11_doStorm 76 = .ok (.goto 4, 3) := by decide +kernel
theorem dX11_doStorm_79 : decode cX11_doStorm 79 = .ok (.iconst 0, 1) := by decide +kernel
theorem dX11_doStorm_80 : decode cX11_doStorm 80 = .ok (.iadd, 1) := by decide +kernel
theorem dX11_doStorm_81 : decode cX11_doStorm 81 = .ok (.iastore, 1) := by decide +kernel
theorem dX11_doStorm_82 : decode cX11_doStorm 82 = .ok (.iinc 5 1, 3) := by decide +kernel
theorem dX11_doStorm_85 : decode cX11_doStorm 85 = .ok (.goto (-51), 3) := by decide +kernel
theorem dX11_doStorm_88 : decode cX11_doStorm 88 = .ok (.aload_n 0, 1) := by decide +kernel
theorem dX11_doStorm_89 : decode cX11_doStorm 89 = .ok (.iload 4, 2) := by decide +kernel
theorem dX11_doStorm_91 : decode cX11_doStorm 91 = .ok (.iconst 2, 1) := by decide +kernel
theorem dX11_doStorm_92 : decode cX11_doStorm 92 = .ok (.invokevirtual 67, 3) := by decide +kernel
theorem dX11_doStorm_95 : decode cX11_doStorm 95 = .ok (.aload_n 0, 1) := by decide +kernel
theorem dX11_doStorm_96 : decode cX11_doStorm 96 = .ok (.getfield 7, 3) := by decide +kernel
theorem dX11_doStorm_99 : decode cX11_doStorm 99 = .ok (.iconst 5, 1) := by decide +kernel
theorem dX11_doStorm_100 : decode cX11_doStorm 100 = .ok (.iaload, 1) := by decide +kernel
theorem dX11_doStorm_101 : decode cX11_doStorm 101 = .ok (.if_icmp .le 15, 3) := by decide +kernel
theorem dX11_doStorm_104 : decode cX11_doStorm 104 = .ok (.aload_n 0, 1) := by decide +kernel
theorem dX11_doStorm_105 : decode cX11_doStorm 105 = .ok (.iload_n 1, 1) := by decide +kernel
theorem dX11_doStorm_106 : decode cX11_doStorm 106 = .ok (.iload_n 3, 1) := by decide +kernel
theorem dX11_doStorm_107 : decode cX11_doStorm 107 = .ok (.invokevirtual 114, 3) := by decide +kernel
theorem dX11_doStorm_110 : decode cX11_doStorm 110 = .ok (.iinc 2 1, 3) := by decide +kernel
theorem dX11_doStorm_113 : decode cX11_doStorm 113 = .ok (.goto 6, 3) := by decide +kernel
theorem dX11_doStorm_116 : decode cX11_doStorm 116 = .ok (.iinc 3 1, 3) := by decide +kernel
theorem dX11_doStorm_119 : decode cX11_doStorm 119 = .ok (.goto (-105), 3) := by decide +kernel
theorem dX11_doStorm_122 : decode cX11_doStorm 122 = .ok (.iload_n 2, 1) := by decide +kernel
theorem dX11_doStorm_123 : decode cX11_doStorm 123 = .ok (.ireturn, 1) := by decide +kernel
theorem dX11_isSpelt_0 : decode cX11_isSpelt 0 = .ok (.iload_n 2, 1) := by decide +kernel
theorem dX11_isSpelt_1 : decode cX11_isSpelt 1 = .ok (.iload_n 1, 1) := by decide +kernel
theorem dX11_isSpelt_2 : decode cX11_isSpelt 2 = .ok (.isub, 1) := by decide +kernel
theorem dX11_isSpelt_3 : decode cX11_isSpelt 3 = .ok (.iconst 1, 1) := by decide +kernel
theorem dX11_isSpelt_4 : decode cX11_isSpelt 4 = .ok (.bipush 8, 2) := by decide +kernel
theorem dX11_isSpelt_6 : decode cX11_isSpelt 6 = .ok (.invokestatic 26, 3) := by decide +kernel
theorem dX11_isSpelt_9 : decode cX11_isSpelt 9 = .ok (.istore_n 3, 1) := by decide +kernel
theorem dX11_isSpelt_10 : decode cX11_isSpelt 10 = .ok (.aload_n 0, 1) := by decide +kernel
theorem dX11_isSpelt_11 : decode cX11_isSpelt 11 = .ok (.iconst 0, 1) := by decide +kernel
theorem dX11_isSpelt_12 : decode cX11_isSpelt 12 = .ok (.putfield 118, 3) := by decide +kernel
theorem dX11_isSpelt_15 : decode cX11_isSpelt 15 = .ok (.aload_n 0, 1) := by decide +kernel
theorem dX11_isSpelt_16 : decode cX11_isSpelt 16 = .ok (.iload_n 2, 1) := by decide +kernel
theorem dX11_isSpelt_17 : decode cX11_isSpelt 17 = .ok (.iload_n 1, 1) := by decide +kernel
theorem dX11_isSpelt_18 : decode cX11_isSpelt 18 = .ok (.isub, 1) := by decide +kernel
theorem dX11_isSpelt_19 : decode cX11_isSpelt 19 = .ok (.putfield 121, 3) := by decide +kernel
theorem dX11_isSpelt_22 : decode cX11_isSpelt 22 = .ok (.iload_n 1, 1) := by decide +kernel
theorem dX11_isSpelt_23 : decode cX11_isSpelt 23 = .ok (.istore 4, 2) := by decide +kernel
theorem dX11_isSpelt_25 : decode cX11_isSpelt 25 = .ok (.iload 4, 2) := by decide +kernel
theorem dX11_isSpelt_27 : decode cX11_isSpelt 27 = .ok (.iload_n 2, 1) := by decide +kernel
theorem dX11_isSpelt_28 : decode cX11_isSpelt 28 = .ok (.if_icmp .ge 62, 3) := by decide +kernel
theorem dX11_isSpelt_31 : decode cX11_isSpelt 31 = .ok (.iload_n 3, 1) := by decide +kernel
theorem dX11_isSpelt_32 : decode cX11_isSpelt 32 = .ok (.ifCond .eq 58, 3) := by decide +kernel
theorem dX11_isSpelt_35 : decode cX11_isSpelt 35 = .ok (.aload_n 0, 1) := by decide +kernel
theorem dX11_isSpelt_36 : decode cX11_isSpelt 36 = .ok (.getfield 19, 3) := by decide +kernel
theorem dX11_isSpelt_39 : decode cX11_isSpelt 39 = .ok (.iload 4, 2) := by decide +kernel
theorem dX11_isSpelt_41 : decode cX11_isSpelt 41 = .ok (.iaload, 1) := by decide +kernel
theorem dX11_isSpelt_42 : decode cX11_isSpelt 42 = .ok (.bipush 97, 2) := by decide +kernel
theorem dX11_isSpelt_44 : decode cX11_isSpelt 44 = .ok (.bipush 112, 2) := by decide +kernel
theorem dX11_isSpelt_46 : decode cX11_isSpelt 46 = .ok (.invokestatic 26, 3) := by decide +kernel
theorem dX11_isSpelt_49 : decode cX11_isSpelt 49 = .ok (.istore_n 3, 1) := by decide +kernel
theorem dX11_isSpelt_50 : decode cX11_isSpelt 50 = .ok (.aload_n 0, 1) := by decide +kernel
theorem dX11_isSpelt_51 : decode cX11_isSpelt 51 = .ok (.dup, 1) := by decide +kernel
theorem dX11_isSpelt_52 : decode cX11_isSpelt 52 = .ok (.getfield 118, 3) := by decide +kernel
theorem dX11_isSpelt_55 : decode cX11_isSpelt 55 = .ok (.iload_n 3, 1) := by decide +kernel
theorem dX11_isSpelt_56 : decode cX11_isSpelt 56 = .ok (.ifCond .eq 23, 3) := by decide +kernel
theorem dX11_isSpelt_59 : decode cX11_isSpelt 59 = .ok (.aload_n 0, 1) := by decide +kernel
theorem dX11_isSpelt_60 : decode cX11_isSpelt 60 = .ok (.getfield 19, 3) := by decide +kernel
theorem dX11_isSpelt_63 : decode cX11_isSpelt 63 = .ok (.iload 4, 2) := by decide +kernel
theorem dX11_isSpelt_65 : decode cX11_isSpelt 65 = .ok (.iaload, 1) := by decide +kernel
theorem dX11_isSpelt_66 : decode cX11_isSpelt 66 = .ok (.bipush 97, 2) := by decide +kernel
theorem dX11_isSpelt_68 : decode cX11_isSpelt 68 = .ok (.isub, 1) := by decide +kernel
theorem dX11_isSpelt_69 : decode cX11_isSpelt 69 = .ok (.iconst 4, 1) := by decide +kernel
theorem dX11_isSpelt_70 : decode cX11_isSpelt 70 = .ok (.iload 4, 2) := by decide +kernel
theorem dX11_isSpelt_72 : decode cX11_isSpelt 72 = .ok (.iload_n 1, 1) := by decide +kernel
theorem dX11_isSpelt_73 : decode cX11_isSpelt 73 = .ok (.isub, 1) := by decide +kernel
theorem dX11_isSpelt_74 : decode cX11_isSpelt 74 = .ok (.imul, 1) := by decide +kernel
theorem dX11_isSpelt_75 : decode cX11_isSpelt 75 = .ok (.ishl, 1) := by decide +kernel
theorem dX11_isSpelt_76 : decode cX11_isSpelt 76 = .ok (.goto 4, 3) := by decide +kernel
theorem dX11_isSpelt_79 : decode cX11_isSpelt 79 = .ok (.iconst 0, 1) := by decide +kernel
theorem dX11_isSpelt_80 : decode cX11_isSpelt 80 = .ok (.ior, 1) := by decide +kernel
theorem dX11_isSpelt_81 : decode cX11_isSpelt 81 = .ok (.putfield 118, 3) := by decide +kernel
theorem dX11_isSpelt_84 : decode cX11_isSpelt 84 = .ok (.iinc 4 1, 3) := by decide +kernel
theorem dX11_isSpelt_87 : decode cX11_isSpelt 87 = .ok (.goto (-62), 3) := by decide +kernel
theorem dX11_isSpelt_90 : decode cX11_isSpelt 90 = .ok (.iload_n 3, 1) := by decide +kernel
theorem dX11_isSpelt_91 : decode cX11_isSpelt 91 = .ok (.ireturn, 1) := by decide +kernel
theorem dX11_tie_0 : decode cX11_tie 0 = .ok (.aload_n 0, 1) := by decide +kernel
theorem dX11_tie_1 : decode cX11_tie 1 = .ok (.iconst 0, 1) := by decide +kernel
theorem dX11_tie_2 : decode cX11_tie 2 = .ok (.aload_n 0, 1) := by decide +kernel
theorem dX11_tie_3 : decode cX11_tie 3 = .ok (.getfield 124, 3) := by decide +kernel
theorem dX11_tie_6 : decode cX11_tie 6 = .ok (.invokevirtual 127, 3) := by decide +kernel
theorem dX11_tie_9 : decode cX11_tie 9 = .ok (.istore_n 2, 1) := by decide +kernel
theorem dX11_tie_10 : decode cX11_tie 10 = .ok (.aload_n 0, 1) := by decide +kernel
theorem dX11_tie_11 : decode cX11_tie 11 = .ok (.iload_n 1, 1) := by decide +kernel
theorem dX11_tie_12 : decode cX11_tie 12 = .ok (.invokestatic 30, 3) := by decide +kernel
theorem dX11_tie_15 : decode cX11_tie 15 = .ok (.ifCond .ne 7, 3) := by decide +kernel
theorem dX11_tie_18 : decode cX11_tie 18 = .ok (.iconst 1, 1) := by decide +kernel
theorem dX11_tie_19 : decode cX11_tie 19 = .ok (.goto 32, 3) := by decide +kernel
theorem dX11_tie_22 : decode cX11_tie 22 = .ok (.iload_n 2, 1) := by decide +kernel
theorem dX11_tie_23 : decode cX11_tie 23 = .ok (.ifCond .ne 7, 3) := by decide +kernel
theorem dX11_tie_26 : decode cX11_tie 26 = .ok (.iconst 2, 1) := by decide +kernel
theorem dX11_tie_27 : decode cX11_tie 27 = .ok (.goto 24, 3) := by decide +kernel
theorem dX11_tie_30 : decode cX11_tie 30 = .ok (.aload_n 0, 1) := by decide +kernel
theorem dX11_tie_31 : decode cX11_tie 31 = .ok (.iload_n 1, 1) := by decide +kernel
theorem dX11_tie_32 : decode cX11_tie 32 = .ok (.aload_n 0, 1) := by decide +kernel
theorem dX11_tie_33 : decode cX11_tie 33 = .ok (.getfield 118, 3) := by decide +kernel
theorem dX11_tie_36 : decode cX11_tie 36 = .ok (.aload_n 0, 1) := by decide +kernel
theorem dX11_tie_37 : decode cX11_tie 37 = .ok (.getfield 121, 3) := by decide +kernel
theorem dX11_tie_40 : decode cX11_tie 40 = .ok (.invokevirtual 95, 3) := by decide +kernel
theorem dX11_tie_43 : decode cX11_tie 43 = .ok (.ifCond .le 7, 3) := by decide +kernel
theorem dX11_tie_46 : decode cX11_tie 46 = .ok (.iconst 3, 1) := by decide +kernel
theorem dX11_tie_47 : decode cX11_tie 47 = .ok (.goto 4, 3) := by decide +kernel
theorem dX11_tie_50 : decode cX11_tie 50 = .ok (.iconst 0, 1) := by decide +kernel
theorem dX11_tie_51 : decode cX11_tie 51 = .ok (.invokevirtual 131, 3) := by decide +kernel
theorem dX11_tie_54 : decode cX11_tie 54 = .ok (.ifCond .ne 5, 3) := by decide +kernel
theorem dX11_tie_57 : decode cX11_tie 57 = .ok (.iconst 0, 1) := by decide +kernel
theorem dX11_tie_58 : decode cX11_tie 58 = .ok (.ireturn, 1) := by decide +kernel
theorem dX11_tie_59 : decode cX11_tie 59 = .ok (.aload_n 0, 1) := by decide +kernel
theorem dX11_tie_60 : decode cX11_tie 60 = .ok (.invokevirtual 134, 3) := by decide +kernel
theorem dX11_tie_63 : decode cX11_tie 63 = .ok (.aload_n 0, 1) := by decide +kernel
theorem dX11_tie_64 : decode cX11_tie 64 = .ok (.iconst 0, 1) := by decide +kernel
theorem dX11_tie_65 : decode cX11_tie 65 = .ok (.putfield 124, 3) := by decide +kernel
theorem dX11_tie_68 : decode cX11_tie 68 = .ok (.aload_n 0, 1) := by decide +kernel
theorem dX11_tie_69 : decode cX11_tie 69 = .ok (.iload_n 1, 1) := by decide +kernel
theorem dX11_tie_70 : decode cX11_tie 70 = .ok (.aload_n 0, 1) := by decide +kernel
theorem dX11_tie_71 : decode cX11_tie 71 = .ok (.getfield 118, 3) := by decide +kernel
theorem dX11_tie_74 : decode cX11_tie 74 = .ok (.aload_n 0, 1) := by decide +kernel
theorem dX11_tie_75 : decode cX11_tie 75 = .ok (.getfield 121, 3) := by decide +kernel
theorem dX11_tie_78 : decode cX11_tie 78 = .ok (.invokevirtual 102, 3) := by decide +kernel
theorem dX11_tie_81 : decode cX11_tie 81 = .ok (.ireturn, 1) := by decide +kernel
theorem dX11_cut_0 : decode cX11_cut 0 = .ok (.aload_n 0, 1) := by decide +kernel
theorem dX11_cut_1 : decode cX11_cut 1 = .ok (.aload_n 0, 1) := by decide +kernel
theorem dX11_cut_2 : decode cX11_cut 2 = .ok (.iload_n 1, 1) := by decide +kernel
theorem dX11_cut_3 : decode cX11_cut 3 = .ok (.iload_n 2, 1) := by decide +kernel
theorem dX11_cut_4 : decode cX11_cut 4 = .ok (.invokevirtual 137, 3) := by decide +kernel
theorem dX11_cut_7 : decode cX11_cut 7 = .ok (.ifCond .eq 7, 3) := by decide +kernel
theorem dX11_cut_10 : decode cX11_cut 10 = .ok (.iconst 0, 1) := by decide +kernel
theorem dX11_cut_11 : decode cX11_cut 11 = .ok (.goto 4, 3) := by decide +kernel
theorem dX11_cut_14 : decode cX11_cut 14 = .ok (.iconst 1, 1) := by decide +kernel
theorem dX11_cut_15 : decode cX11_cut 15 = .ok (.invokevirtual 131, 3) := by decide +kernel
theorem dX11_cut_18 : decode cX11_cut 18 = .ok (.ifCond .ne 5, 3) := by decide +kernel
theorem dX11_cut_21 : decode cX11_cut 21 = .ok (.iconst 0, 1) := by decide +kernel
theorem dX11_cut_22 : decode cX11_cut 22 = .ok (.ireturn, 1) := by decide +kernel
theorem dX11_cut_23 : decode cX11_cut 23 = .ok (.aload_n 0, 1) := by decide +kernel
theorem dX11_cut_24 : decode cX11_cut 24 = .ok (.invokevirtual 134, 3) := by decide +kernel
theorem dX11_cut_27 : decode cX11_cut 27 = .ok (.aload_n 0, 1) := by decide +kernel
theorem dX11_cut_28 : decode cX11_cut 28 = .ok (.iload_n 1, 1) := by decide +kernel
theorem dX11_cut_29 : decode cX11_cut 29 = .ok (.iload_n 2, 1) := by decide +kernel
theorem dX11_cut_30 : decode cX11_cut 30 = .ok (.invokevirtual 99, 3) := by decide +kernel
theorem dX11_cut_33 : decode cX11_cut 33 = .ok (.ireturn, 1) := by decide +kernel
theorem dX11_fast_0 : decode cX11_fast 0 = .ok (.aload_n 0, 1) := by decide +kernel
theorem dX11_fast_1 : decode cX11_fast 1 = .ok (.aload_n 0, 1) := by decide +kernel
theorem dX11_fast_2 : decode cX11_fast 2 = .ok (.iload_n 1, 1) := by decide +kernel
theorem dX11_fast_3 : decode cX11_fast 3 = .ok (.iload_n 2, 1) := by decide +kernel
theorem dX11_fast_4 : decode cX11_fast 4 = .ok (.invokevirtual 137, 3) := by decide +kernel
theorem dX11_fast_7 : decode cX11_fast 7 = .ok (.ifCond .ne 7, 3) := by decide +kernel
theorem dX11_fast_10 : decode cX11_fast 10 = .ok (.iconst 1, 1) := by decide +kernel
theorem dX11_fast_11 : decode cX11_fast 11 = .ok (.goto 17, 3) := by decide +kernel
theorem dX11_fast_14 : decode cX11_fast 14 = .ok (.aload_n 0, 1) := by decide +kernel
theorem dX11_fast_15 : decode cX11_fast 15 = .ok (.iload_n 1, 1) := by decide +kernel
theorem dX11_fast_16 : decode cX11_fast 16 = .ok (.iload_n 2, 1) := by decide +kernel
theorem dX11_fast_17 : decode cX11_fast 17 = .ok (.invokevirtual 140, 3) := by decide +kernel
theorem dX11_fast_20 : decode cX11_fast 20 = .ok (.ifCond .eq 7, 3) := by decide +kernel
theorem dX11_fast_23 : decode cX11_fast 23 = .ok (.iconst 0, 1) := by decide +kernel
theorem dX11_fast_24 : decode cX11_fast 24 = .ok (.goto 4, 3) := by decide +kernel
theorem dX11_fast_27 : decode cX11_fast 27 = .ok (.iconst 2, 1) := by decide +kernel
theorem dX11_fast_28 : decode cX11_fast 28 = .ok (.invokevirtual 131, 3) := by decide +kernel
theorem dX11_fast_31 : decode cX11_fast 31 = .ok (.ifCond .ne 5, 3) := by decide +kernel
theorem dX11_fast_34 : decode cX11_fast 34 = .ok (.iconst 0, 1) := by decide +kernel
theorem dX11_fast_35 : decode cX11_fast 35 = .ok (.ireturn, 1) := by decide +kernel
theorem dX11_fast_36 : decode cX11_fast 36 = .ok (.aload_n 0, 1) := by decide +kernel
theorem dX11_fast_37 : decode cX11_fast 37 = .ok (.invokevirtual 134, 3) := by decide +kernel
theorem dX11_fast_40 : decode cX11_fast 40 = .ok (.aload_n 0, 1) := by decide +kernel
theorem dX11_fast_41 : decode cX11_fast 41 = .ok (.iload_n 1, 1) := by decide +kernel
theorem dX11_fast_42 : decode cX11_fast 42 = .ok (.iload_n 2, 1) := by decide +kernel
theorem dX11_fast_43 : decode cX11_fast 43 = .ok (.invokevirtual 143, 3) := by decide +kernel
theorem dX11_fast_46 : decode cX11_fast 46 = .ok (.ireturn, 1) := by decide +kernel
theorem dX11_give_0 : decode cX11_give 0 = .ok (.aload_n 0, 1) := by decide +kernel
theorem dX11_give_1 : decode cX11_give 1 = .ok (.aload_n 0, 1) := by decide +kernel
theorem dX11_give_2 : decode cX11_give 2 = .ok (.iload_n 1, 1) := by decide +kernel
theorem dX11_give_3 : decode cX11_give 3 = .ok (.iload_n 2, 1) := by decide +kernel
theorem dX11_give_4 : decode cX11_give 4 = .ok (.invokevirtual 137, 3) := by decide +kernel
theorem dX11_give_7 : decode cX11_give 7 = .ok (.ifCond .eq 10, 3) := by decide +kernel
theorem dX11_give_10 : decode cX11_give 10 = .ok (.iload_n 3, 1) := by decide +kernel
theorem dX11_give_11 : decode cX11_give 11 = .ok (.invokestatic 30, 3) := by decide +kernel
theorem dX11_give_14 : decode cX11_give 14 = .ok (.ifCond .ne 7, 3) := by decide +kernel
theorem dX11_give_17 : decode cX11_give 17 = .ok (.iconst 1, 1) := by decide +kernel
theorem dX11_give_18 : decode cX11_give 18 = .ok (.goto 18, 3) := by decide +kernel
theorem dX11_give_21 : decode cX11_give 21 = .ok (.aload_n 0, 1) := by decide +kernel
theorem dX11_give_22 : decode cX11_give 22 = .ok (.iload_n 1, 1) := by decide +kernel
theorem dX11_give_23 : decode cX11_give 23 = .ok (.iload_n 2, 1) := by decide +kernel
theorem dX11_give_24 : decode cX11_give 24 = .ok (.iload_n 3, 1) := by decide +kernel
theorem dX11_give_25 : decode cX11_give 25 = .ok (.invokevirtual 146, 3) := by decide +kernel
theorem dX11_give_28 : decode cX11_give 28 = .ok (.ifCond .le 7, 3) := by decide +kernel
theorem dX11_give_31 : decode cX11_give 31 = .ok (.iconst 2, 1) := by decide +kernel
theorem dX11_give_32 : decode cX11_give 32 = .ok (.goto 4, 3) := by decide +kernel
theorem dX11_give_35 : decode cX11_give 35 = .ok (.iconst 0, 1) := by decide +kernel
theorem dX11_give_36 : decode cX11_give 36 = .ok (.invokevirtual 131, 3) := by decide +kernel
theorem dX11_give_39 : decode cX11_give 39 = .ok (.ifCond .ne 5, 3) := by decide +kernel
theorem dX11_give_42 : decode cX11_give 42 = .ok (.iconst 0, 1) := by decide +kernel
theorem dX11_give_43 : decode cX11_give 43 = .ok (.ireturn, 1) := by decide +kernel
theorem dX11_give_44 : decode cX11_give 44 = .ok (.aload_n 0, 1) := by decide +kernel
theorem dX11_give_45 : decode cX11_give 45 = .ok (.invokevirtual 134, 3) := by decide +kernel
theorem dX11_give_48 : decode cX11_give 48 = .ok (.aload_n 0, 1) := by decide +kernel
theorem dX11_give_49 : decode cX11_give 49 = .ok (.iload_n 1, 1) := by decide +kernel
theorem dX11_give_50 : decode cX11_give 50 = .ok (.iload_n 2, 1) := by decide +kernel
theorem dX11_give_51 : decode cX11_give 51 = .ok (.iload_n 3, 1) := by decide +kernel
theorem dX11_give_52 : decode cX11_give 52 = .ok (.invokevirtual 149, 3) := by decide +kernel
theorem dX11_give_55 : decode cX11_give 55 = .ok (.ireturn, 1) := by decide +kernel
theorem dX11_storm_0 : decode cX11_storm 0 = .ok (.aload_n 0, 1) := by decide +kernel
theorem dX11_storm_1 : decode cX11_storm 1 = .ok (.iload_n 1, 1) := by decide +kernel
theorem dX11_storm_2 : decode cX11_storm 2 = .ok (.invokestatic 30, 3) := by decide +kernel
theorem dX11_storm_5 : decode cX11_storm 5 = .ok (.ifCond .eq 7, 3) := by decide +kernel
theorem dX11_storm_8 : decode cX11_storm 8 = .ok (.iconst 0, 1) := by decide +kernel
theorem dX11_storm_9 : decode cX11_storm 9 = .ok (.goto 4, 3) := by decide +kernel
theorem dX11_storm_12 : decode cX11_storm 12 = .ok (.iconst 1, 1) := by decide +kernel
theorem dX11_storm_13 : decode cX11_storm 13 = .ok (.invokevirtual 131, 3) := by decide +kernel
theorem dX11_storm_16 : decode cX11_storm 16 = .ok (.ifCond .ne 5, 3) := by decide +kernel
theorem dX11_storm_19 : decode cX11_storm 19 = .ok (.iconst 0, 1) := by decide +kernel
theorem dX11_storm_20 : decode cX11_storm 20 = .ok (.ireturn, 1) := by decide +kernel
theorem dX11_storm_21 : decode cX11_storm 21 = .ok (.aload_n 0, 1) := by decide +kernel
theorem dX11_storm_22 : decode cX11_storm 22 = .ok (.invokevirtual 134, 3) := by decide +kernel
theorem dX11_storm_25 : decode cX11_storm 25 = .ok (.aload_n 0, 1) := by decide +kernel
theorem dX11_storm_26 : decode cX11_storm 26 = .ok (.iload_n 1, 1) := by decide +kernel
theorem dX11_storm_27 : decode cX11_storm 27 = .ok (.invokevirtual 152, 3) := by decide +kernel
theorem dX11_storm_30 : decode cX11_storm 30 = .ok (.ireturn, 1) := by decide +kernel
theorem dX11_belt_0 : decode cX11_belt 0 = .ok (.aload_n 0, 1) := by decide +kernel
theorem dX11_belt_1 : decode cX11_belt 1 = .ok (.iload_n 1, 1) := by decide +kernel
theorem dX11_belt_2 : decode cX11_belt 2 = .ok (.invokestatic 30, 3) := by decide +kernel
theorem dX11_belt_5 : decode cX11_belt 5 = .ok (.ifCond .ne 7, 3) := by decide +kernel
theorem dX11_belt_8 : decode cX11_belt 8 = .ok (.iconst 1, 1) := by decide +kernel
theorem dX11_belt_9 : decode cX11_belt 9 = .ok (.goto 32, 3) := by decide +kernel
theorem dX11_belt_12 : decode cX11_belt 12 = .ok (.iload_n 2, 1) := by decide +kernel
theorem dX11_belt_13 : decode cX11_belt 13 = .ok (.bipush 20, 2) := by decide +kernel
theorem dX11_belt_15 : decode cX11_belt 15 = .ok (.bipush 120, 2) := by decide +kernel
theorem dX11_belt_17 : decode cX11_belt 17 = .ok (.invokestatic 26, 3) := by decide +kernel
theorem dX11_belt_20 : decode cX11_belt 20 = .ok (.ifCond .ne 7, 3) := by decide +kernel
theorem dX11_belt_23 : decode cX11_belt 23 = .ok (.iconst 2, 1) := by decide +kernel
theorem dX11_belt_24 : decode cX11_belt 24 = .ok (.goto 17, 3) := by decide +kernel
theorem dX11_belt_27 : decode cX11_belt 27 = .ok (.aload_n 0, 1) := by decide +kernel
theorem dX11_belt_28 : decode cX11_belt 28 = .ok (.iload_n 1, 1) := by decide +kernel
theorem dX11_belt_29 : decode cX11_belt 29 = .ok (.invokevirtual 82, 3) := by decide +kernel
theorem dX11_belt_32 : decode cX11_belt 32 = .ok (.iload_n 2, 1) := by decide +kernel
theorem dX11_belt_33 : decode cX11_belt 33 = .ok (.if_icmp .le 7, 3) := by decide +kernel
theorem dX11_belt_36 : decode cX11_belt 36 = .ok (.iconst 3, 1) := by decide +kernel
theorem dX11_belt_37 : decode cX11_belt 37 = .ok (.goto 4, 3) := by decide +kernel
theorem dX11_belt_40 : decode cX11_belt 40 = .ok (.iconst 0, 1) := by decide +kernel
theorem dX11_belt_41 : decode cX11_belt 41 = .ok (.invokevirtual 131, 3) := by decide +kernel
theorem dX11_belt_44 : decode cX11_belt 44 = .ok (.ifCond .ne 5, 3) := by decide +kernel
theorem dX11_belt_47 : decode cX11_belt 47 = .ok (.iconst 0, 1) := by decide +kernel
theorem dX11_belt_48 : decode cX11_belt 48 = .ok (.ireturn, 1) := by decide +kernel
theorem dX11_belt_49 : decode cX11_belt 49 = .ok (.aload_n 0, 1) := by decide +kernel
theorem dX11_belt_50 : decode cX11_belt 50 = .ok (.invokevirtual 134, 3) := by decide +kernel
theorem dX11_belt_53 : decode cX11_belt 53 = .ok (.aload_n 0, 1) := by decide +kernel
theorem dX11_belt_54 : decode cX11_belt 54 = .ok (.iload_n 1, 1) := by decide +kernel
theorem dX11_belt_55 : decode cX11_belt 55 = .ok (.iconst 0, 1) := by decide +kernel
theorem dX11_belt_56 : decode cX11_belt 56 = .ok (.invokevirtual 34, 3) := by decide +kernel
theorem dX11_belt_59 : decode cX11_belt 59 = .ok (.istore_n 3, 1) := by decide +kernel
theorem dX11_belt_60 : decode cX11_belt 60 = .ok (.aload_n 0, 1) := by decide +kernel
theorem dX11_belt_61 : decode cX11_belt 61 = .ok (.iload_n 1, 1) := by decide +kernel
theorem dX11_belt_62 : decode cX11_belt 62 = .ok (.iconst 0, 1) := by decide +kernel
theorem dX11_belt_63 : decode cX11_belt 63 = .ok (.iload_n 2, 1) := by decide +kernel
theorem dX11_belt_64 : decode cX11_belt 64 = .ok (.iload_n 3, 1) := by decide +kernel
theorem dX11_belt_65 : decode cX11_belt 65 = .ok (.isub, 1) := by decide +kernel
theorem dX11_belt_66 : decode cX11_belt 66 = .ok (.invokevirtual 91, 3) := by decide +kernel
theorem dX11_belt_69 : decode cX11_belt 69 = .ok (.iload_n 3, 1) := by decide +kernel
theorem dX11_belt_70 : decode cX11_belt 70 = .ok (.ireturn, 1) := by decide +kernel
theorem dX11_set_0 : decode cX11_set 0 = .ok (.iload_n 1, 1) := by decide +kernel
theorem dX11_set_1 : decode cX11_set 1 = .ok (.ifCond .ne 13, 3) := by decide +kernel
theorem dX11_set_4 : decode cX11_set 4 = .ok (.iload_n 2, 1) := by decide +kernel
theorem dX11_set_5 : decode cX11_set 5 = .ok (.iconst 1, 1) := by decide +kernel
theorem dX11_set_6 : decode cX11_set 6 = .ok (.bipush 9, 2) := by decide +kernel
theorem dX11_set_8 : decode cX11_set 8 = .ok (.invokestatic 26, 3) := by decide +kernel
theorem dX11_set_11 : decode cX11_set 11 = .ok (.goto 10, 3) := by decide +kernel
theorem dX11_set_14 : decode cX11_set 14 = .ok (.iload_n 2, 1) := by decide +kernel
theorem dX11_set_15 : decode cX11_set 15 = .ok (.iconst 0, 1) := by decide +kernel
theorem dX11_set_16 : decode cX11_set 16 = .ok (.bipush 8, 2) := by decide +kernel
theorem dX11_set_18 : decode cX11_set 18 = .ok (.invokestatic 26, 3) := by decide +kernel
theorem dX11_set_21 : decode cX11_set 21 = .ok (.istore_n 3, 1) := by decide +kernel
theorem dX11_set_22 : decode cX11_set 22 = .ok (.aload_n 0, 1) := by decide +kernel
theorem dX11_set_23 : decode cX11_set 23 = .ok (.iload_n 1, 1) := by decide +kernel
theorem dX11_set_24 : decode cX11_set 24 = .ok (.iconst 0, 1) := by decide +kernel
theorem dX11_set_25 : decode cX11_set 25 = .ok (.iconst 1, 1) := by decide +kernel
theorem dX11_set_26 : decode cX11_set 26 = .ok (.invokestatic 26, 3) := by decide +kernel
theorem dX11_set_29 : decode cX11_set 29 = .ok (.ifCond .ne 7, 3) := by decide +kernel
theorem dX11_set_32 : decode cX11_set 32 = .ok (.iconst 1, 1) := by decide +kernel
theorem dX11_set_33 : decode cX11_set 33 = .ok (.goto 12, 3) := by decide +kernel
theorem dX11_set_36 : decode cX11_set 36 = .ok (.iload_n 3, 1) := by decide +kernel
theorem dX11_set_37 : decode cX11_set 37 = .ok (.ifCond .eq 7, 3) := by decide +kernel
theorem dX11_set_40 : decode cX11_set 40 = .ok (.iconst 0, 1) := by decide +kernel
theorem dX11_set_41 : decode cX11_set 41 = .ok (.goto 4, 3) := by decide +kernel
theorem dX11_set_44 : decode cX11_set 44 = .ok (.iconst 2, 1) := by decide +kernel
theorem dX11_set_45 : decode cX11_set 45 = .ok (.invokevirtual 131, 3) := by decide +kernel
theorem dX11_set_48 : decode cX11_set 48 = .ok (.ifCond .ne 5, 3) := by decide +kernel
theorem dX11_set_51 : decode cX11_set 51 = .ok (.iconst 0, 1) := by decide +kernel
theorem dX11_set_52 : decode cX11_set 52 = .ok (.ireturn, 1) := by decide +kernel
theorem dX11_set_53 : decode cX11_set 53 = .ok (.aload_n 0, 1) := by decide +kernel
theorem dX11_set_54 : decode cX11_set 54 = .ok (.invokevirtual 134, 3) := by decide +kernel
theorem dX11_set_57 : decode cX11_set 57 = .ok (.aload_n 0, 1) := by decide +kernel
theorem dX11_set_58 : decode cX11_set 58 = .ok (.getfield 7, 3) := by decide +kernel
theorem dX11_set_61 : decode cX11_set 61 = .ok (.iconst 4, 1) := by decide +kernel
theorem dX11_set_62 : decode cX11_set 62 = .ok (.iload_n 1, 1) := by decide +kernel
theorem dX11_set_63 : decode cX11_set 63 = .ok (.iadd, 1) := by decide +kernel
theorem dX11_set_64 : decode cX11_set 64 = .ok (.iaload, 1) := by decide +kernel
theorem dX11_set_65 : decode cX11_set 65 = .ok (.istore 4, 2) := by decide +kernel
theorem dX11_set_67 : decode cX11_set 67 = .ok (.aload_n 0, 1) := by decide +kernel
theorem dX11_set_68 : decode cX11_set 68 = .ok (.getfield 7, 3) := by decide +kernel
theorem dX11_set_71 : decode cX11_set 71 = .ok (.iconst 4, 1) := by decide +kernel
theorem dX11_set_72 : decode cX11_set 72 = .ok (.iload_n 1, 1) := by decide +kernel
theorem dX11_set_73 : decode cX11_set 73 = .ok (.iadd, 1) := by decide +kernel
theorem dX11_set_74 : decode cX11_set 74 = .ok (.iload_n 2, 1) := by decide +kernel
theorem dX11_set_75 : decode cX11_set 75 = .ok (.iastore, 1) := by decide +kernel
theorem dX11_set_76 : decode cX11_set 76 = .ok (.iload 4, 2) := by decide +kernel
theorem dX11_set_78 : decode cX11_set 78 = .ok (.ireturn, 1) := by decide +kernel
theorem dX11_append_0 : decode cX11_append 0 = .ok (.aload_n 0, 1) := by decide +kernel
theorem dX11_append_1 : decode cX11_append 1 = .ok (.iload_n 1, 1) := by decide +kernel
theorem dX11_append_2 : decode cX11_append 2 = .ok (.bipush 33, 2) := by decide +kernel
theorem dX11_append_4 : decode cX11_append 4 = .ok (.bipush 126, 2) := by decide +kernel
theorem dX11_append_6 : decode cX11_append 6 = .ok (.invokestatic 26, 3) := by decide +kernel
theorem dX11_append_9 : decode cX11_append 9 = .ok (.ifCond .ne 7, 3) := by decide +kernel
theorem dX11_append_12 : decode cX11_append 12 = .ok (.iconst 1, 1) := by decide +kernel
theorem dX11_append_13 : decode cX11_append 13 = .ok (.goto 17, 3) := by decide +kernel
theorem dX11_append_16 : decode cX11_append 16 = .ok (.aload_n 0, 1) := by decide +kernel
theorem dX11_append_17 : decode cX11_append 17 = .ok (.getfield 124, 3) := by decide +kernel
theorem dX11_append_20 : decode cX11_append 20 = .ok (.bipush 60, 2) := by decide +kernel
theorem dX11_append_22 : decode cX11_append 22 = .ok (.if_icmp .ne 7, 3) := by decide +kernel
theorem dX11_append_25 : decode cX11_append 25 = .ok (.iconst 2, 1) := by decide +kernel
theorem dX11_append_26 : decode cX11_append 26 = .ok (.goto 4, 3) := by decide +kernel
theorem dX11_append_29 : decode cX11_append 29 = .ok (.iconst 0, 1) := by decide +kernel
theorem dX11_append_30 : decode cX11_append 30 = .ok (.invokevirtual 131, 3) := by decide +kernel
theorem dX11_append_33 : decode cX11_append 33 = .ok (.ifCond .ne 5, 3) := by decide +kernel
theorem dX11_append_36 : decode cX11_append 36 = .ok (.iconst 0, 1) := by decide +kernel
theorem dX11_append_37 : decode cX11_append 37 = .ok (.ireturn, 1) := by decide +kernel
theorem dX11_append_38 : decode cX11_append 38 = .ok (.aload_n 0, 1) := by decide +kernel
theorem dX11_append_39 : decode cX11_append 39 = .ok (.getfield 19, 3) := by decide +kernel
theorem dX11_append_42 : decode cX11_append 42 = .ok (.aload_n 0, 1) := by decide +kernel
theorem dX11_append_43 : decode cX11_append 43 = .ok (.getfield 124, 3) := by decide +kernel
theorem dX11_append_46 : decode cX11_append 46 = .ok (.iload_n 1, 1) := by decide +kernel
theorem dX11_append_47 : decode cX11_append 47 = .ok (.iastore, 1) := by decide +kernel
theorem dX11_append_48 : decode cX11_append 48 = .ok (.aload_n 0, 1) := by decide +kernel
theorem dX11_append_49 : decode cX11_append 49 = .ok (.dup, 1) := by decide +kernel
theorem dX11_append_50 : decode cX11_append 50 = .ok (.getfield 124, 3) := by decide +kernel
theorem dX11_append_53 : decode cX11_append 53 = .ok (.iconst 1, 1) := by decide +kernel
theorem dX11_append_54 : decode cX11_append 54 = .ok (.iadd, 1) := by decide +kernel
theorem dX11_append_55 : decode cX11_append 55 = .ok (.putfield 124, 3) := by decide +kernel
theorem dX11_append_58 : decode cX11_append 58 = .ok (.aload_n 0, 1) := by decide +kernel
theorem dX11_append_59 : decode cX11_append 59 = .ok (.getfield 124, 3) := by decide +kernel
theorem dX11_append_62 : decode cX11_append 62 = .ok (.ireturn, 1) := by decide +kernel
theorem dX11_clearBuffer_0 : decode cX11_clearBuffer 0 = .ok (.aload_n 0, 1) := by decide +kernel
theorem dX11_clearBuffer_1 : decode cX11_clearBuffer 1 = .ok (.getfield 124, 3) := by decide +kernel
theorem dX11_clearBuffer_4 : decode cX11_clearBuffer 4 = .ok (.istore_n 1, 1) := by decide +kernel
theorem dX11_clearBuffer_5 : decode cX11_clearBuffer 5 = .ok (.aload_n 0, 1) := by decide +kernel
theorem dX11_clearBuffer_6 : decode cX11_clearBuffer 6 = .ok (.iconst 0, 1) := by decide +kernel
theorem dX11_clearBuffer_7 : decode cX11_clearBuffer 7 = .ok (.putfield 124, 3) := by decide +kernel
theorem dX11_clearBuffer_10 : decode cX11_clearBuffer 10 = .ok (.aload_n 0, 1) := by decide +kernel
theorem dX11_clearBuffer_11 : decode cX11_clearBuffer 11 = .ok (.iload_n 1, 1) := by decide +kernel
theorem dX11_clearBuffer_12 : decode cX11_clearBuffer 12 = .ok (.invokevirtual 155, 3) := by decide +kernel
theorem dX11_clearBuffer_15 : decode cX11_clearBuffer 15 = .ok (.ireturn, 1) := by decide +kernel
theorem dX11_isNext_0 : decode cX11_isNext 0 = .ok (.aload_n 0, 1) := by decide +kernel
theorem dX11_isNext_1 : decode cX11_isNext 1 = .ok (.getfield 158, 3) := by decide +kernel
theorem dX11_isNext_4 : decode cX11_isNext 4 = .ok (.aload_n 0, 1) := by decide +kernel
theorem dX11_isNext_5 : decode cX11_isNext 5 = .ok (.getfield 124, 3) := by decide +kernel
theorem dX11_isNext_8 : decode cX11_isNext 8 = .ok (.if_icmp .ge 24, 3) := by decide +kernel
theorem dX11_isNext_11 : decode cX11_isNext 11 = .ok (.aload_n 0, 1) := by decide +kernel
theorem dX11_isNext_12 : decode cX11_isNext 12 = .ok (.getfield 19, 3) := by decide +kernel
theorem dX11_isNext_15 : decode cX11_isNext 15 = .ok (.aload_n 0, 1) := by decide +kernel
theorem dX11_isNext_16 : decode cX11_isNext 16 = .ok (.getfield 158, 3) := by decide +kernel
theorem dX11_isNext_19 : decode cX11_isNext 19 = .ok (.iaload, 1) := by decide +kernel
theorem dX11_isNext_20 : decode cX11_isNext 20 = .ok (.iload_n 1, 1) := by decide +kernel
theorem dX11_isNext_21 : decode cX11_isNext 21 = .ok (.iload_n 2, 1) := by decide +kernel
theorem dX11_isNext_22 : decode cX11_isNext 22 = .ok (.invokestatic 26, 3) := by decide +kernel
theorem dX11_isNext_25 : decode cX11_isNext 25 = .ok (.ifCond .eq 7, 3) := by decide +kernel
theorem dX11_isNext_28 : decode cX11_isNext 28 = .ok (.iconst 1, 1) := by decide +kernel
theorem dX11_isNext_29 : decode cX11_isNext 29 = .ok (.goto 4, 3) := by decide +kernel
theorem dX11_isNext_32 : decode cX11_isNext 32 = .ok (.iconst 0, 1) := by decide +kernel
theorem dX11_isNext_33 : decode cX11_isNext 33 = .ok (.ireturn, 1) := by decide +kernel
theorem dX11_takes_0 : decode cX11_takes 0 = .ok (.aload_n 0, 1) := by decide +kernel
theorem dX11_takes_1 : decode cX11_takes 1 = .ok (.iload_n 1, 1) := by decide +kernel
theorem dX11_takes_2 : decode cX11_takes 2 = .ok (.iload_n 1, 1) := by decide +kernel
theorem dX11_takes_3 : decode cX11_takes 3 = .ok (.invokevirtual 161, 3) := by decide +kernel
theorem dX11_takes_6 : decode cX11_takes 6 = .ok (.istore_n 2, 1) := by decide +kernel
theorem dX11_takes_7 : decode cX11_takes 7 = .ok (.aload_n 0, 1) := by decide +kernel
theorem dX11_takes_8 : decode cX11_takes 8 = .ok (.dup, 1) := by decide +kernel
theorem dX11_takes_9 : decode cX11_takes 9 = .ok (.getfield 158, 3) := by decide +kernel
theorem dX11_takes_12 : decode cX11_takes 12 = .ok (.iload_n 2, 1) := by decide +kernel
theorem dX11_takes_13 : decode cX11_takes 13 = .ok (.ifCond .eq 7, 3) := by decide +kernel
theorem dX11_takes_16 : decode cX11_takes 16 = .ok (.iconst 1, 1) := by decide +kernel
theorem dX11_takes_17 : decode cX11_takes 17 = .ok (.goto 4, 3) := by decide +kernel
theorem dX11_takes_20 : decode cX11_takes 20 = .ok (.iconst 0, 1) := by decide +kernel
theorem dX11_takes_21 : decode cX11_takes 21 = .ok (.iadd, 1) := by decide +kernel
theorem dX11_takes_22 : decode cX11_takes 22 = .ok (.putfield 158, 3) := by decide +kernel
theorem dX11_takes_25 : decode cX11_takes 25 = .ok (.iload_n 2, 1) := by decide +kernel
theorem dX11_takes_26 : decode cX11_takes 26 = .ok (.ireturn, 1) := by decide +kernel
theorem dX11_digit_0 : decode cX11_digit 0 = .ok (.aload_n 0, 1) := by decide +kernel
theorem dX11_digit_1 : decode cX11_digit 1 = .ok (.bipush 48, 2) := by decide +kernel
theorem dX11_digit_3 : decode cX11_digit 3 = .ok (.bipush 48, 2) := by decide +kernel
theorem dX11_digit_5 : decode cX11_digit 5 = .ok (.iload_n 1, 1) := by decide +kernel
theorem dX11_digit_6 : decode cX11_digit 6 = .ok (.iadd, 1) := by decide +kernel
theorem dX11_digit_7 : decode cX11_digit 7 = .ok (.invokevirtual 161, 3) := by decide +kernel
theorem dX11_digit_10 : decode cX11_digit 10 = .ok (.ifCond .eq 18, 3) := by decide +kernel
theorem dX11_digit_13 : decode cX11_digit 13 = .ok (.aload_n 0, 1) := by decide +kernel
theorem dX11_digit_14 : decode cX11_digit 14 = .ok (.getfield 19, 3) := by decide +kernel
theorem dX11_digit_17 : decode cX11_digit 17 = .ok (.aload_n 0, 1) := by decide +kernel
theorem dX11_digit_18 : decode cX11_digit 18 = .ok (.getfield 158, 3) := by decide +kernel
theorem dX11_digit_21 : decode cX11_digit 21 = .ok (.iaload, 1) := by decide +kernel
theorem dX11_digit_22 : decode cX11_digit 22 = .ok (.bipush 48, 2) := by decide +kernel
theorem dX11_digit_24 : decode cX11_digit 24 = .ok (.isub, 1) := by decide +kernel
theorem dX11_digit_25 : decode cX11_digit 25 = .ok (.goto 4, 3) := by decide +kernel
theorem dX11_digit_28 : decode cX11_digit 28 = .ok (.iconst (-1), 1) := by decide +kernel
theorem dX11_digit_29 : decode cX11_digit 29 = .ok (.istore_n 2, 1) := by decide +kernel
theorem dX11_digit_30 : decode cX11_digit 30 = .ok (.aload_n 0, 1) := by decide +kernel
theorem dX11_digit_31 : decode cX11_digit 31 = .ok (.dup, 1) := by decide +kernel
theorem dX11_digit_32 : decode cX11_digit 32 = .ok (.getfield 158, 3) := by decide +kernel
theorem dX11_digit_35 : decode cX11_digit 35 = .ok (.iload_n 2, 1) := by decide +kernel
theorem dX11_digit_36 : decode cX11_digit 36 = .ok (.iconst (-1), 1) := by decide +kernel
theorem dX11_digit_37 : decode cX11_digit 37 = .ok (.if_icmp .ne 7, 3) := by decide +kernel
theorem dX11_digit_40 : decode cX11_digit 40 = .ok (.iconst 0, 1) := by decide +kernel
theorem dX11_digit_41 : decode cX11_digit 41 = .ok (.goto 4, 3) := by decide +kernel
theorem dX11_digit_44 : decode cX11_digit 44 = .ok (.iconst 1, 1) := by decide +kernel
theorem dX11_digit_45 : decode cX11_digit 45 = .ok (.iadd, 1) := by decide +kernel
theorem dX11_digit_46 : decode cX11_digit 46 = .ok (.putfield 158, 3) := by decide +kernel
theorem dX11_digit_49 : decode cX11_digit 49 = .ok (.iload_n 2, 1) := by decide +kernel
theorem dX11_digit_50 : decode cX11_digit 50 = .ok (.ireturn, 1) := by decide +kernel
theorem dX11_takesWord_0 : decode cX11_takesWord 0 = .ok (.aload_n 0, 1) := by decide +kernel
theorem dX11_takesWord_1 : decode cX11_takesWord 1 = .ok (.aload_n 0, 1) := by decide +kernel
theorem dX11_takesWord_2 : decode cX11_takesWord 2 = .ok (.getfield 158, 3) := by decide +kernel
theorem dX11_takesWord_5 : decode cX11_takesWord 5 = .ok (.aload_n 0, 1) := by decide +kernel
theorem dX11_takesWord_6 : decode cX11_takesWord 6 = .ok (.getfield 124, 3) := by decide +kernel
theorem dX11_takesWord_9 : decode cX11_takesWord 9 = .ok (.if_icmp .ge 15, 3) := by decide +kernel
theorem dX11_takesWord_12 : decode cX11_takesWord 12 = .ok (.aload_n 0, 1) := by decide +kernel
theorem dX11_takesWord_13 : decode cX11_takesWord 13 = .ok (.getfield 19, 3) := by decide +kernel
theorem dX11_takesWord_16 : decode cX11_takesWord 16 = .ok (.aload_n 0, 1) := by decide +kernel
theorem dX11_takesWord_17 : decode cX11_takesWord 17 = .ok (.getfield 158, 3) := by decide +kernel
theorem dX11_takesWord_20 : decode cX11_takesWord 20 = .ok (.iaload, 1) := by decide +kernel
theorem dX11_takesWord_21 : decode cX11_takesWord 21 = .ok (.goto 4, 3) := by decide +kernel
theorem dX11_takesWord_24 : decode cX11_takesWord 24 = .ok (.iconst 0, 1) := by decide +kernel
theorem dX11_takesWord_25 : decode cX11_takesWord 25 = .ok (.putfield 164, 3) := by decide +kernel
theorem dX11_takesWord_28 : decode cX11_takesWord 28 = .ok (.aload_n 0, 1) := by decide +kernel
theorem dX11_takesWord_29 : decode cX11_takesWord 29 = .ok (.getfield 164, 3) := by decide +kernel
theorem dX11_takesWord_32 : decode cX11_takesWord 32 = .ok (.lookupswitch 253 #[(99, 220), (102, 178), (103, 136), (115, 85), (116, 52)], 52) := by decide +kernel
theorem dX11_takesWord_84 : decode cX11_takesWord 84 = .ok (.aload_n 0, 1) := by decide +kernel
theorem dX11_takesWord_85 : decode cX11_takesWord 85 = .ok (.bipush 116, 2) := by decide +kernel
theorem dX11_takesWord_87 : decode cX11_takesWord 87 = .ok (.invokevirtual 167, 3) := by decide +kernel
theorem dX11_takesWord_90 : decode cX11_takesWord 90 = .ok (.ifCond .eq 25, 3) := by decide +kernel
theorem dX11_takesWord_93 : decode cX11_takesWord 93 = .ok (.aload_n 0, 1) := by decide +kernel
theorem dX11_takesWord_94 : decode cX11_takesWord 94 = .ok (.bipush 105, 2) := by decide +kernel
theorem dX11_takesWord_96 : decode cX11_takesWord 96 = .ok (.invokevirtual 167, 3) := by decide +kernel
theorem dX11_takesWord_99 : decode cX11_takesWord 99 = .ok (.ifCond .eq 16, 3) := by decide +kernel
theorem dX11_takesWord_102 : decode cX11_takesWord 102 = .ok (.aload_n 0, 1) := by decide +kernel
theorem dX11_takesWord_103 : decode cX11_takesWord 103 = .ok (.bipush 101, 2) := by decide +kernel
theorem dX11_takesWord_105 : decode cX11_takesWord 105 = .ok (.invokevirtual 167, 3) := by decide +kernel
theorem dX11_takesWord_108 : decode cX11_takesWord 108 = .ok (.ifCond .eq 7, 3) := by decide +kernel
theorem dX11_takesWord_111 : decode cX11_takesWord 111 = .ok (.iconst 1, 1) := by decide +kernel
theorem dX11_takesWord_112 : decode cX11_takesWord 112 = .ok (.goto 4, 3) := by decide +kernel
theorem dX11_takesWord_115 : decode cX11_takesWord 115 = .ok (.iconst 0, 1) := by decide +kernel
theorem dX11_takesWord_116 : decode cX11_takesWord 116 = .ok (.ireturn, 1) := by decide +kernel
theorem dX11_takesWord_117 : decode cX11_takesWord 117 = .ok (.aload_n 0, 1) := by decide +kernel
theorem dX11_takesWord_118 : decode cX11_takesWord 118 = .ok (.bipush 115, 2) := by decide +kernel
theorem dX11_takesWord_120 : decode cX11_takesWord 120 = .ok (.invokevirtual 167, 3) := by decide +kernel
theorem dX11_takesWord_123 : decode cX11_takesWord 123 = .ok (.ifCond .eq 43, 3) := by decide +kernel
theorem dX11_takesWord_126 : decode cX11_takesWord 126 = .ok (.aload_n 0, 1) := by decide +kernel
theorem dX11_takesWord_127 : decode cX11_takesWord 127 = .ok (.bipush 116, 2) := by decide +kernel
theorem dX11_takesWord_129 : decode cX11_takesWord 129 = .ok (.invokevirtual 167, 3) := by decide +kernel
theorem dX11_takesWord_132 : decode cX11_takesWord 132 = .ok (.ifCond .eq 34, 3) := by decide +kernel
theorem dX11_takesWord_135 : decode cX11_takesWord 135 = .ok (.aload_n 0, 1) := by decide +kernel
theorem dX11_takesWord_136 : decode cX11_takesWord 136 = .ok (.bipush 111, 2) := by decide +kernel
theorem dX11_takesWord_138 : decode cX11_takesWord 138 = .ok (.invokevirtual 167, 3) := by decide +kernel
theorem dX11_takesWord_141 : decode cX11_takesWord 141 = .ok (.ifCond .eq 25, 3) := by decide +kernel
theorem dX11_takesWord_144 : decode cX11_takesWord 144 = .ok (.aload_n 0, 1) := by decide +kernel
theorem dX11_takesWord_145 : decode cX11_takesWord 145 = .ok (.bipush 114, 2) := by decide +kernel
theorem dX11_takesWord_147 : decode cX11_takesWord 147 = .ok (.invokevirtual 167, 3) := by decide +kernel
theorem dX11_takesWord_150 : decode cX11_takesWord 150 = .ok (.ifCond .eq 16, 3) := by decide +kernel
theorem dX11_takesWord_153 : decode cX11_takesWord 153 = .ok (.aload_n 0, 1) := by decide +kernel
theorem dX11_takesWord_154 : decode cX11_takesWord 154 = .ok (.bipush 109, 2) := by decide +kernel
theorem dX11_takesWord_156 : decode cX11_takesWord 156 = .ok (.invokevirtual 167, 3) := by decide +kernel
theorem dX11_takesWord_159 : decode cX11_takesWord 159 = .ok (.ifCond .eq 7, 3) := by decide +kernel
theorem dX11_takesWord_162 : decode cX11_takesWord 162 = .ok (.iconst 1, 1) := by decide +kernel
theorem dX11_takesWord_163 : decode cX11_takesWord 163 = .ok (.goto 4, 3) := by decide +kernel
theorem dX11_takesWord_166 : decode cX11_takesWord 166 = .ok (.iconst 0, 1) := by decide +kernel
theorem dX11_takesWord_167 : decode cX11_takesWord 167 = .ok (.ireturn, 1) := by decide +kernel
theorem dX11_takesWord_168 : decode cX11_takesWord 168 = .ok (.aload_n 0, 1) := by decide +kernel
theorem dX11_takesWord_169 : decode cX11_takesWord 169 = .ok (.bipush 103, 2) := by decide +kernel
theorem dX11_takesWord_171 : decode cX11_takesWord 171 = .ok (.invokevirtual 167, 3) := by decide +kernel
theorem dX11_takesWord_174 : decode cX11_takesWord 174 = .ok (.ifCond .eq 34, 3) := by decide +kernel
theorem dX11_takesWord_177 : decode cX11_takesWord 177 = .ok (.aload_n 0, 1) := by decide +kernel
theorem dX11_takesWord_178 : decode cX11_takesWord 178 = .ok (.bipush 105, 2) := by decide +kernel
theorem dX11_takesWord_180 : decode cX11_takesWord 180 = .ok (.invokevirtual 167, 3) := by decide +kernel
theorem dX11_takesWord_183 : decode cX11_takesWord 183 = .ok (.ifCond .eq 25, 3) := by decide +kernel
theorem dX11_takesWord_186 : decode cX11_takesWord 186 = .ok (.aload_n 0, 1) := by decide +kernel
theorem dX11_takesWord_187 : decode cX11_takesWord 187 = .ok (.bipush 118, 2) := by decide +kernel
theorem dX11_takesWord_189 : decode cX11_takesWord 189 = .ok (.invokevirtual 167, 3) := by decide +kernel
theorem dX11_takesWord_192 : decode cX11_takesWord 192 = .ok (.ifCond .eq 16, 3) := by decide +kernel
theorem dX11_takesWord_195 : decode cX11_takesWord 195 = .ok (.aload_n 0, 1) := by decide +kernel
theorem dX11_takesWord_196 : decode cX11_takesWord 196 = .ok (.bipush 101, 2) := by decide +kernel
theorem dX11_takesWord_198 : decode cX11_takesWord 198 = .ok (.invokevirtual 167, 3) := by decide +kernel
theorem dX11_takesWord_201 : decode cX11_takesWord 201 = .ok (.ifCond .eq 7, 3) := by decide +kernel
theorem dX11_takesWord_204 : decode cX11_takesWord 204 = .ok (.iconst 1, 1) := by decide +kernel
theorem dX11_takesWord_205 : decode cX11_takesWord 205 = .ok (.goto 4, 3) := by decide +kernel
theorem dX11_takesWord_208 : decode cX11_takesWord 208 = .ok (.iconst 0, 1) := by decide +kernel
theorem dX11_takesWord_209 : decode cX11_takesWord 209 = .ok (.ireturn, 1) := by decide +kernel
theorem dX11_takesWord_210 : decode cX11_takesWord 210 = .ok (.aload_n 0, 1) := by decide +kernel
theorem dX11_takesWord_211 : decode cX11_takesWord 211 = .ok (.bipush 102, 2) := by decide +kernel
theorem dX11_takesWord_213 : decode cX11_takesWord 213 = .ok (.invokevirtual 167, 3) := by decide +kernel
theorem dX11_takesWord_216 : decode cX11_takesWord 216 = .ok (.ifCond .eq 34, 3) := by decide +kernel
theorem dX11_takesWord_219 : decode cX11_takesWord 219 = .ok (.aload_n 0, 1) := by decide +kernel
theorem dX11_takesWord_220 : decode cX11_takesWord 220 = .ok (.bipush 97, 2) := by decide +kernel
theorem dX11_takesWord_222 : decode cX11_takesWord 222 = .ok (.invokevirtual 167, 3) := by decide +kernel
theorem dX11_takesWord_225 : decode cX11_takesWord 225 = .ok (.ifCond .eq 25, 3) := by decide +kernel
theorem dX11_takesWord_228 : decode cX11_takesWord 228 = .ok (.aload_n 0, 1) := by decide +kernel
theorem dX11_takesWord_229 : decode cX11_takesWord 229 = .ok (.bipush 115, 2) := by decide +kernel
theorem dX11_takesWord_231 : decode cX11_takesWord 231 = .ok (.invokevirtual 167, 3) := by decide +kernel
theorem dX11_takesWord_234 : decode cX11_takesWord 234 = .ok (.ifCond .eq 16, 3) := by decide +kernel
theorem dX11_takesWord_237 : decode cX11_takesWord 237 = .ok (.aload_n 0, 1) := by decide +kernel
theorem dX11_takesWord_238 : decode cX11_takesWord 238 = .ok (.bipush 116, 2) := by decide +kernel
theorem dX11_takesWord_240 : decode cX11_takesWord 240 = .ok (.invokevirtual 167, 3) := by decide +kernel
theorem dX11_takesWord_243 : decode cX11_takesWord 243 = .ok (.ifCond .eq 7, 3) := by decide +kernel
theorem dX11_takesWord_246 : decode cX11_takesWord 246 = .ok (.iconst 1, 1) := by decide +kernel
theorem dX11_takesWord_247 : decode cX11_takesWord 247 = .ok (.goto 4, 3) := by decide +kernel
theorem dX11_takesWord_250 : decode cX11_takesWord 250 = .ok (.iconst 0, 1) := by decide +kernel
theorem dX11_takesWord_251 : decode cX11_takesWord 251 = .ok (.ireturn, 1) := by decide +kernel
theorem dX11_takesWord_252 : decode cX11_takesWord 252 = .ok (.aload_n 0, 1) := by decide +kernel
theorem dX11_takesWord_253 : decode cX11_takesWord 253 = .ok (.bipush 99, 2) := by decide +kernel
theorem dX11_takesWord_255 : decode cX11_takesWord 255 = .ok (.invokevirtual 167, 3) := by decide +kernel
theorem dX11_takesWord_258 : decode cX11_takesWord 258 = .ok (.ifCond .eq 25, 3) := by decide +kernel
theorem dX11_takesWord_261 : decode cX11_takesWord 261 = .ok (.aload_n 0, 1) := by decide +kernel
theorem dX11_takesWord_262 : decode cX11_takesWord 262 = .ok (.bipush 117, 2) := by decide +kernel
theorem dX11_takesWord_264 : decode cX11_takesWord 264 = .ok (.invokevirtual 167, 3) := by decide +kernel
theorem dX11_takesWord_267 : decode cX11_takesWord 267 = .ok (.ifCond .eq 16, 3) := by decide +kernel
theorem dX11_takesWord_270 : decode cX11_takesWord 270 = .ok (.aload_n 0, 1) := by decide +kernel
theorem dX11_takesWord_271 : decode cX11_takesWord 271 = .ok (.bipush 116, 2) := by decide +kernel
theorem dX11_takesWord_273 : decode cX11_takesWord 273 = .ok (.invokevirtual 167, 3) := by decide +kernel
theorem dX11_takesWord_276 : decode cX11_takesWord 276 = .ok (.ifCond .eq 7, 3) := by decide +kernel
theorem dX11_takesWord_279 : decode cX11_takesWord 279 = .ok (.iconst 1, 1) := by decide +kernel
theorem dX11_takesWord_280 : decode cX11_takesWord 280 = .ok (.goto 4, 3) := by decide +kernel
theorem dX11_takesWord_283 : decode cX11_takesWord 283 = .ok (.iconst 0, 1) := by decide +kernel
theorem dX11_takesWord_284 : decode cX11_takesWord 284 = .ok (.ireturn, 1) := by decide +kernel
theorem dX11_takesWord_285 : decode cX11_takesWord 285 = .ok (.iconst 0, 1) := by decide +kernel
theorem dX11_takesWord_286 : decode cX11_takesWord 286 = .ok (.ireturn, 1) := by decide +kernel
theorem dX11_readLettersOfName_0 : decode cX11_readLettersOfName 0 = .ok (.aload_n 0, 1) := by decide +kernel
theorem dX11_readLettersOfName_1 : decode cX11_readLettersOfName 1 = .ok (.aload_n 0, 1) := by decide +kernel
theorem dX11_readLettersOfName_2 : decode cX11_readLettersOfName 2 = .ok (.getfield 158, 3) := by decide +kernel
theorem dX11_readLettersOfName_5 : decode cX11_readLettersOfName 5 = .ok (.putfield 170, 3) := by decide +kernel
theorem dX11_readLettersOfName_8 : decode cX11_readLettersOfName 8 = .ok (.aload_n 0, 1) := by decide +kernel
theorem dX11_readLettersOfName_9 : decode cX11_readLettersOfName 9 = .ok (.bipush 97, 2) := by decide +kernel
theorem dX11_readLettersOfName_11 : decode cX11_readLettersOfName 11 = .ok (.bipush 112, 2) := by decide +kernel
theorem dX11_readLettersOfName_13 : decode cX11_readLettersOfName 13 = .ok (.invokevirtual 161, 3) := by decide +kernel
theorem dX11_readLettersOfName_16 : decode cX11_readLettersOfName 16 = .ok (.ifCond .eq 30, 3) := by decide +kernel
theorem dX11_readLettersOfName_19 : decode cX11_readLettersOfName 19 = .ok (.aload_n 0, 1) := by decide +kernel
theorem dX11_readLettersOfName_20 : decode cX11_readLettersOfName 20 = .ok (.getfield 158, 3) := by decide +kernel
theorem dX11_readLettersOfName_23 : decode cX11_readLettersOfName 23 = .ok (.aload_n 0, 1) := by decide +kernel
theorem dX11_readLettersOfName_24 : decode cX11_readLettersOfName 24 = .ok (.getfield 170, 3) := by decide +kernel
theorem dX11_readLettersOfName_27 : decode cX11_readLettersOfName 27 = .ok (.bipush 8, 2) := by decide +kernel
theorem dX11_readLettersOfName_29 : decode cX11_readLettersOfName 29 = .ok (.iadd, 1) := by decide +kernel
theorem dX11_readLettersOfName_30 : decode cX11_readLettersOfName 30 = .ok (.if_icmp .ge 16, 3) := by decide +kernel
theorem dX11_readLettersOfName_33 : decode cX11_readLettersOfName 33 = .ok (.aload_n 0, 1) := by decide +kernel
theorem dX11_readLettersOfName_34 : decode cX11_readLettersOfName 34 = .ok (.dup, 1) := by decide +kernel
theorem dX11_readLettersOfName_35 : decode cX11_readLettersOfName 35 = .ok (.getfield 158, 3) := by decide +kernel
theorem dX11_readLettersOfName_38 : decode cX11_readLettersOfName 38 = .ok (.iconst 1, 1) := by decide +kernel
theorem dX11_readLettersOfName_39 : decode cX11_readLettersOfName 39 = .ok (.iadd, 1) := by decide +kernel
theorem dX11_readLettersOfName_40 : decode cX11_readLettersOfName 40 = .ok (.putfield 158, 3) := by decide +kernel
theorem dX11_readLettersOfName_43 : decode cX11_readLettersOfName 43 = .ok (.goto (-35), 3) := by decide +kernel
theorem dX11_readLettersOfName_46 : decode cX11_readLettersOfName 46 = .ok (.aload_n 0, 1) := by decide +kernel
theorem dX11_readLettersOfName_47 : decode cX11_readLettersOfName 47 = .ok (.getfield 158, 3) := by decide +kernel
theorem dX11_readLettersOfName_50 : decode cX11_readLettersOfName 50 = .ok (.aload_n 0, 1) := by decide +kernel
theorem dX11_readLettersOfName_51 : decode cX11_readLettersOfName 51 = .ok (.getfield 170, 3) := by decide +kernel
theorem dX11_readLettersOfName_54 : decode cX11_readLettersOfName 54 = .ok (.if_icmp .le 7, 3) := by decide +kernel
theorem dX11_readLettersOfName_57 : decode cX11_readLettersOfName 57 = .ok (.iconst 1, 1) := by decide +kernel
theorem dX11_readLettersOfName_58 : decode cX11_readLettersOfName 58 = .ok (.goto 4, 3) := by decide +kernel
theorem dX11_readLettersOfName_61 : decode cX11_readLettersOfName 61 = .ok (.iconst 0, 1) := by decide +kernel
theorem dX11_readLettersOfName_62 : decode cX11_readLettersOfName 62 = .ok (.ireturn, 1) := by decide +kernel
theorem dX11_readPart_0 : decode cX11_readPart 0 = .ok (.aload_n 0, 1) := by decide +kernel
theorem dX11_readPart_1 : decode cX11_readPart 1 = .ok (.invokevirtual 173, 3) := by decide +kernel
theorem dX11_readPart_4 : decode cX11_readPart 4 = .ok (.ifCond .ne 5, 3) := by decide +kernel
theorem dX11_readPart_7 : decode cX11_readPart 7 = .ok (.iconst 0, 1) := by decide +kernel
theorem dX11_readPart_8 : decode cX11_readPart 8 = .ok (.ireturn, 1) := by decide +kernel
theorem dX11_readPart_9 : decode cX11_readPart 9 = .ok (.aload_n 0, 1) := by decide +kernel
theorem dX11_readPart_10 : decode cX11_readPart 10 = .ok (.aload_n 0, 1) := by decide +kernel
theorem dX11_readPart_11 : decode cX11_readPart 11 = .ok (.iconst 4, 1) := by decide +kernel
theorem dX11_readPart_12 : decode cX11_readPart 12 = .ok (.invokevirtual 177, 3) := by decide +kernel
theorem dX11_readPart_15 : decode cX11_readPart 15 = .ok (.putfield 180, 3) := by decide +kernel
theorem dX11_readPart_18 : decode cX11_readPart 18 = .ok (.aload_n 0, 1) := by decide +kernel
theorem dX11_readPart_19 : decode cX11_readPart 19 = .ok (.getfield 180, 3) := by decide +kernel
theorem dX11_readPart_22 : decode cX11_readPart 22 = .ok (.iconst (-1), 1) := by decide +kernel
theorem dX11_readPart_23 : decode cX11_readPart 23 = .ok (.if_icmp .ne 5, 3) := by decide +kernel
theorem dX11_readPart_26 : decode cX11_readPart 26 = .ok (.iconst 0, 1) := by decide +kernel
theorem dX11_readPart_27 : decode cX11_readPart 27 = .ok (.ireturn, 1) := by decide +kernel
theorem dX11_readPart_28 : decode cX11_readPart 28 = .ok (.aload_n 0, 1) := by decide +kernel
theorem dX11_readPart_29 : decode cX11_readPart 29 = .ok (.getfield 164, 3) := by decide +kernel
theorem dX11_readPart_32 : decode cX11_readPart 32 = .ok (.bipush 115, 2) := by decide +kernel
theorem dX11_readPart_34 : decode cX11_readPart 34 = .ok (.if_icmp .ne 5, 3) := by decide +kernel
theorem dX11_readPart_37 : decode cX11_readPart 37 = .ok (.iconst 1, 1) := by decide +kernel
theorem dX11_readPart_38 : decode cX11_readPart 38 = .ok (.ireturn, 1) := by decide +kernel
theorem dX11_readPart_39 : decode cX11_readPart 39 = .ok (.aload_n 0, 1) := by decide +kernel
theorem dX11_readPart_40 : decode cX11_readPart 40 = .ok (.getfield 164, 3) := by decide +kernel
theorem dX11_readPart_43 : decode cX11_readPart 43 = .ok (.bipush 116, 2) := by decide +kernel
theorem dX11_readPart_45 : decode cX11_readPart 45 = .ok (.if_icmp .ne 25, 3) := by decide +kernel
theorem dX11_readPart_48 : decode cX11_readPart 48 = .ok (.aload_n 0, 1) := by decide +kernel
theorem dX11_readPart_49 : decode cX11_readPart 49 = .ok (.bipush 58, 2) := by decide +kernel
theorem dX11_readPart_51 : decode cX11_readPart 51 = .ok (.invokevirtual 167, 3) := by decide +kernel
theorem dX11_readPart_54 : decode cX11_readPart 54 = .ok (.ifCond .eq 14, 3) := by decide +kernel
theorem dX11_readPart_57 : decode cX11_readPart 57 = .ok (.aload_n 0, 1) := by decide +kernel
theorem dX11_readPart_58 : decode cX11_readPart 58 = .ok (.invokevirtual 183, 3) := by decide +kernel
theorem dX11_readPart_61 : decode cX11_readPart 61 = .ok (.ifCond .eq 7, 3) := by decide +kernel
theorem dX11_readPart_64 : decode cX11_readPart 64 = .ok (.iconst 1, 1) := by decide +kernel
theorem dX11_readPart_65 : decode cX11_readPart 65 = .ok (.goto 4, 3) := by decide +kernel
theorem dX11_readPart_68 : decode cX11_readPart 68 = .ok (.iconst 0, 1) := by decide +kernel
theorem dX11_readPart_69 : decode cX11_readPart 69 = .ok (.ireturn, 1) := by decide +kernel
theorem dX11_readPart_70 : decode cX11_readPart 70 = .ok (.aload_n 0, 1) := by decide +kernel
theorem dX11_readPart_71 : decode cX11_readPart 71 = .ok (.aload_n 0, 1) := by decide +kernel
theorem dX11_readPart_72 : decode cX11_readPart 72 = .ok (.bipush 47, 2) := by decide +kernel
theorem dX11_readPart_74 : decode cX11_readPart 74 = .ok (.invokevirtual 167, 3) := by decide +kernel
theorem dX11_readPart_77 : decode cX11_readPart 77 = .ok (.ifCond .eq 11, 3) := by decide +kernel
theorem dX11_readPart_80 : decode cX11_readPart 80 = .ok (.aload_n 0, 1) := by decide +kernel
theorem dX11_readPart_81 : decode cX11_readPart 81 = .ok (.iconst 5, 1) := by decide +kernel
theorem dX11_readPart_82 : decode cX11_readPart 82 = .ok (.invokevirtual 177, 3) := by decide +kernel
theorem dX11_readPart_85 : decode cX11_readPart 85 = .ok (.goto 4, 3) := by decide +kernel
theorem dX11_readPart_88 : decode cX11_readPart 88 = .ok (.iconst (-1), 1) := by decide +kernel
theorem dX11_readPart_89 : decode cX11_readPart 89 = .ok (.putfield 186, 3) := by decide +kernel
theorem dX11_readPart_92 : decode cX11_readPart 92 = .ok (.aload_n 0, 1) := by decide +kernel
theorem dX11_readPart_93 : decode cX11_readPart 93 = .ok (.getfield 186, 3) := by decide +kernel
theorem dX11_readPart_96 : decode cX11_readPart 96 = .ok (.iconst (-1), 1) := by decide +kernel
theorem dX11_readPart_97 : decode cX11_readPart 97 = .ok (.if_icmp .eq 12, 3) := by decide +kernel
theorem dX11_readPart_100 : decode cX11_readPart 100 = .ok (.aload_n 0, 1) := by decide +kernel
theorem dX11_readPart_101 : decode cX11_readPart 101 = .ok (.getfield 164, 3) := by decide +kernel
theorem dX11_readPart_104 : decode cX11_readPart 104 = .ok (.bipush 103, 2) := by decide +kernel
theorem dX11_readPart_106 : decode cX11_readPart 106 = .ok (.if_icmp .eq 17, 3) := by decide +kernel
theorem dX11_readPart_109 : decode cX11_readPart 109 = .ok (.aload_n 0, 1) := by decide +kernel
theorem dX11_readPart_110 : decode cX11_readPart 110 = .ok (.getfield 186, 3) := by decide +kernel
theorem dX11_readPart_113 : decode cX11_readPart 113 = .ok (.iconst (-1), 1) := by decide +kernel
theorem dX11_readPart_114 : decode cX11_readPart 114 = .ok (.if_icmp .eq 7, 3) := by decide +kernel
theorem dX11_readPart_117 : decode cX11_readPart 117 = .ok (.iconst 1, 1) := by decide +kernel
theorem dX11_readPart_118 : decode cX11_readPart 118 = .ok (.goto 4, 3) := by decide +kernel
theorem dX11_readPart_121 : decode cX11_readPart 121 = .ok (.iconst 0, 1) := by decide +kernel
theorem dX11_readPart_122 : decode cX11_readPart 122 = .ok (.ireturn, 1) := by decide +kernel
theorem dX11_readPart_123 : decode cX11_readPart 123 = .ok (.aload_n 0, 1) := by decide +kernel
theorem dX11_readPart_124 : decode cX11_readPart 124 = .ok (.aload_n 0, 1) := by decide +kernel
theorem dX11_readPart_125 : decode cX11_readPart 125 = .ok (.bipush 62, 2) := by decide +kernel
theorem dX11_readPart_127 : decode cX11_readPart 127 = .ok (.invokevirtual 167, 3) := by decide +kernel
theorem dX11_readPart_130 : decode cX11_readPart 130 = .ok (.ifCond .eq 11, 3) := by decide +kernel
theorem dX11_readPart_133 : decode cX11_readPart 133 = .ok (.aload_n 0, 1) := by decide +kernel
theorem dX11_readPart_134 : decode cX11_readPart 134 = .ok (.iconst 4, 1) := by decide +kernel
theorem dX11_readPart_135 : decode cX11_readPart 135 = .ok (.invokevirtual 177, 3) := by decide +kernel
theorem dX11_readPart_138 : decode cX11_readPart 138 = .ok (.goto 4, 3) := by decide +kernel
theorem dX11_readPart_141 : decode cX11_readPart 141 = .ok (.iconst (-1), 1) := by decide +kernel
theorem dX11_readPart_142 : decode cX11_readPart 142 = .ok (.putfield 189, 3) := by decide +kernel
theorem dX11_readPart_145 : decode cX11_readPart 145 = .ok (.aload_n 0, 1) := by decide +kernel
theorem dX11_readPart_146 : decode cX11_readPart 146 = .ok (.getfield 189, 3) := by decide +kernel
theorem dX11_readPart_149 : decode cX11_readPart 149 = .ok (.iconst (-1), 1) := by decide +kernel
theorem dX11_readPart_150 : decode cX11_readPart 150 = .ok (.if_icmp .eq 7, 3) := by decide +kernel
theorem dX11_readPart_153 : decode cX11_readPart 153 = .ok (.iconst 1, 1) := by decide +kernel
theorem dX11_readPart_154 : decode cX11_readPart 154 = .ok (.goto 4, 3) := by decide +kernel
theorem dX11_readPart_157 : decode cX11_readPart 157 = .ok (.iconst 0, 1) := by decide +kernel
theorem dX11_readPart_158 : decode cX11_readPart 158 = .ok (.ireturn, 1) := by decide +kernel
theorem dX11_stopOfPart_0 : decode cX11_stopOfPart 0 = .ok (.aload_n 0, 1) := by decide +kernel
theorem dX11_stopOfPart_1 : decode cX11_stopOfPart 1 = .ok (.getfield 164, 3) := by decide +kernel
theorem dX11_stopOfPart_4 : decode cX11_stopOfPart 4 = .ok (.lookupswitch 160 #[(102, 119), (103, 82), (115, 44), (116, 46)], 44) := by decide +kernel
theorem dX11_stopOfPart_48 : decode cX11_stopOfPart 48 = .ok (.iconst 0, 1) := by decide +kernel
theorem dX11_stopOfPart_49 : decode cX11_stopOfPart 49 = .ok (.ireturn, 1) := by decide +kernel
theorem dX11_stopOfPart_50 : decode cX11_stopOfPart 50 = .ok (.aload_n 0, 1) := by decide +kernel
theorem dX11_stopOfPart_51 : decode cX11_stopOfPart 51 = .ok (.aload_n 0, 1) := by decide +kernel
theorem dX11_stopOfPart_52 : decode cX11_stopOfPart 52 = .ok (.getfield 170, 3) := by decide +kernel
theorem dX11_stopOfPart_55 : decode cX11_stopOfPart 55 = .ok (.aload_n 0, 1) := by decide +kernel
theorem dX11_stopOfPart_56 : decode cX11_stopOfPart 56 = .ok (.getfield 158, 3) := by decide +kernel
theorem dX11_stopOfPart_59 : decode cX11_stopOfPart 59 = .ok (.invokevirtual 127, 3) := by decide +kernel
theorem dX11_stopOfPart_62 : decode cX11_stopOfPart 62 = .ok (.ifCond .eq 22, 3) := by decide +kernel
theorem dX11_stopOfPart_65 : decode cX11_stopOfPart 65 = .ok (.aload_n 0, 1) := by decide +kernel
theorem dX11_stopOfPart_66 : decode cX11_stopOfPart 66 = .ok (.aload_n 0, 1) := by decide +kernel
theorem dX11_stopOfPart_67 : decode cX11_stopOfPart 67 = .ok (.getfield 180, 3) := by decide +kernel
theorem dX11_stopOfPart_70 : decode cX11_stopOfPart 70 = .ok (.aload_n 0, 1) := by decide +kernel
theorem dX11_stopOfPart_71 : decode cX11_stopOfPart 71 = .ok (.getfield 118, 3) := by decide +kernel
theorem dX11_stopOfPart_74 : decode cX11_stopOfPart 74 = .ok (.aload_n 0, 1) := by decide +kernel
theorem dX11_stopOfPart_75 : decode cX11_stopOfPart 75 = .ok (.getfield 121, 3) := by decide +kernel
theorem dX11_stopOfPart_78 : decode cX11_stopOfPart 78 = .ok (.invokevirtual 95, 3) := by decide +kernel
theorem dX11_stopOfPart_81 : decode cX11_stopOfPart 81 = .ok (.goto 4, 3) := by decide +kernel
theorem dX11_stopOfPart_84 : decode cX11_stopOfPart 84 = .ok (.iconst 0, 1) := by decide +kernel
theorem dX11_stopOfPart_85 : decode cX11_stopOfPart 85 = .ok (.ireturn, 1) := by decide +kernel
theorem dX11_stopOfPart_86 : decode cX11_stopOfPart 86 = .ok (.aload_n 0, 1) := by decide +kernel
theorem dX11_stopOfPart_87 : decode cX11_stopOfPart 87 = .ok (.aload_n 0, 1) := by decide +kernel
theorem dX11_stopOfPart_88 : decode cX11_stopOfPart 88 = .ok (.getfield 180, 3) := by decide +kernel
theorem dX11_stopOfPart_91 : decode cX11_stopOfPart 91 = .ok (.aload_n 0, 1) := by decide +kernel
theorem dX11_stopOfPart_92 : decode cX11_stopOfPart 92 = .ok (.getfield 186, 3) := by decide +kernel
theorem dX11_stopOfPart_95 : decode cX11_stopOfPart 95 = .ok (.invokevirtual 137, 3) := by decide +kernel
theorem dX11_stopOfPart_98 : decode cX11_stopOfPart 98 = .ok (.ifCond .eq 22, 3) := by decide +kernel
theorem dX11_stopOfPart_101 : decode cX11_stopOfPart 101 = .ok (.aload_n 0, 1) := by decide +kernel
theorem dX11_stopOfPart_102 : decode cX11_stopOfPart 102 = .ok (.aload_n 0, 1) := by decide +kernel
theorem dX11_stopOfPart_103 : decode cX11_stopOfPart 103 = .ok (.getfield 180, 3) := by decide +kernel
theorem dX11_stopOfPart_106 : decode cX11_stopOfPart 106 = .ok (.aload_n 0, 1) := by decide +kernel
theorem dX11_stopOfPart_107 : decode cX11_stopOfPart 107 = .ok (.getfield 186, 3) := by decide +kernel
theorem dX11_stopOfPart_110 : decode cX11_stopOfPart 110 = .ok (.aload_n 0, 1) := by decide +kernel
theorem dX11_stopOfPart_111 : decode cX11_stopOfPart 111 = .ok (.getfield 189, 3) := by decide +kernel
theorem dX11_stopOfPart_114 : decode cX11_stopOfPart 114 = .ok (.invokevirtual 146, 3) := by decide +kernel
theorem dX11_stopOfPart_117 : decode cX11_stopOfPart 117 = .ok (.goto 5, 3) := by decide +kernel
theorem dX11_stopOfPart_120 : decode cX11_stopOfPart 120 = .ok (.bipush 6, 2) := by decide +kernel
theorem dX11_stopOfPart_122 : decode cX11_stopOfPart 122 = .ok (.ireturn, 1) := by decide +kernel
theorem dX11_stopOfPart_123 : decode cX11_stopOfPart 123 = .ok (.aload_n 0, 1) := by decide +kernel
theorem dX11_stopOfPart_124 : decode cX11_stopOfPart 124 = .ok (.aload_n 0, 1) := by decide +kernel
theorem dX11_stopOfPart_125 : decode cX11_stopOfPart 125 = .ok (.getfield 180, 3) := by decide +kernel
theorem dX11_stopOfPart_128 : decode cX11_stopOfPart 128 = .ok (.aload_n 0, 1) := by decide +kernel
theorem dX11_stopOfPart_129 : decode cX11_stopOfPart 129 = .ok (.getfield 186, 3) := by decide +kernel
theorem dX11_stopOfPart_132 : decode cX11_stopOfPart 132 = .ok (.invokevirtual 137, 3) := by decide +kernel
theorem dX11_stopOfPart_135 : decode cX11_stopOfPart 135 = .ok (.ifCond .ne 8, 3) := by decide +kernel
theorem dX11_stopOfPart_138 : decode cX11_stopOfPart 138 = .ok (.bipush 6, 2) := by decide +kernel
theorem dX11_stopOfPart_140 : decode cX11_stopOfPart 140 = .ok (.goto 23, 3) := by decide +kernel
theorem dX11_stopOfPart_143 : decode cX11_stopOfPart 143 = .ok (.aload_n 0, 1) := by decide +kernel
theorem dX11_stopOfPart_144 : decode cX11_stopOfPart 144 = .ok (.aload_n 0, 1) := by decide +kernel
theorem dX11_stopOfPart_145 : decode cX11_stopOfPart 145 = .ok (.getfield 180, 3) := by decide +kernel
theorem dX11_stopOfPart_148 : decode cX11_stopOfPart 148 = .ok (.aload_n 0, 1) := by decide +kernel
theorem dX11_stopOfPart_149 : decode cX11_stopOfPart 149 = .ok (.getfield 186, 3) := by decide +kernel
theorem dX11_stopOfPart_152 : decode cX11_stopOfPart 152 = .ok (.invokevirtual 140, 3) := by decide +kernel
theorem dX11_stopOfPart_155 : decode cX11_stopOfPart 155 = .ok (.ifCond .eq 7, 3) := by decide +kernel
theorem dX11_stopOfPart_158 : decode cX11_stopOfPart 158 = .ok (.iconst 0, 1) := by decide +kernel
theorem dX11_stopOfPart_159 : decode cX11_stopOfPart 159 = .ok (.goto 4, 3) := by decide +kernel
theorem dX11_stopOfPart_162 : decode cX11_stopOfPart 162 = .ok (.iconst 2, 1) := by decide +kernel
theorem dX11_stopOfPart_163 : decode cX11_stopOfPart 163 = .ok (.ireturn, 1) := by decide +kernel
theorem dX11_stopOfPart_164 : decode cX11_stopOfPart 164 = .ok (.aload_n 0, 1) := by decide +kernel
theorem dX11_stopOfPart_165 : decode cX11_stopOfPart 165 = .ok (.aload_n 0, 1) := by decide +kernel
theorem dX11_stopOfPart_166 : decode cX11_stopOfPart 166 = .ok (.getfield 180, 3) := by decide +kernel
theorem dX11_stopOfPart_169 : decode cX11_stopOfPart 169 = .ok (.aload_n 0, 1) := by decide +kernel
theorem dX11_stopOfPart_170 : decode cX11_stopOfPart 170 = .ok (.getfield 186, 3) := by decide +kernel
theorem dX11_stopOfPart_173 : decode cX11_stopOfPart 173 = .ok (.invokevirtual 137, 3) := by decide +kernel
theorem dX11_stopOfPart_176 : decode cX11_stopOfPart 176 = .ok (.ifCond .eq 7, 3) := by decide +kernel
theorem dX11_stopOfPart_179 : decode cX11_stopOfPart 179 = .ok (.iconst 0, 1) := by decide +kernel
theorem dX11_stopOfPart_180 : decode cX11_stopOfPart 180 = .ok (.goto 5, 3) := by decide +kernel
theorem dX11_stopOfPart_183 : decode cX11_stopOfPart 183 = .ok (.bipush 6, 2) := by decide +kernel
theorem dX11_stopOfPart_185 : decode cX11_stopOfPart 185 = .ok (.ireturn, 1) := by decide +kernel
theorem dX11_does_0 : decode cX11_does 0 = .ok (.aload_n 0, 1) := by decide +kernel
theorem dX11_does_1 : decode cX11_does 1 = .ok (.getfield 164, 3) := by decide +kernel
theorem dX11_does_4 : decode cX11_does 4 = .ok (.lookupswitch 100 #[(102, 87), (103, 70), (115, 44), (116, 53)], 44) := by decide +kernel
theorem dX11_does_48 : decode cX11_does 48 = .ok (.aload_n 0, 1) := by decide +kernel
theorem dX11_does_49 : decode cX11_does 49 = .ok (.aload_n 0, 1) := by decide +kernel
theorem dX11_does_50 : decode cX11_does 50 = .ok (.getfield 180, 3) := by decide +kernel
theorem dX11_does_53 : decode cX11_does 53 = .ok (.invokevirtual 152, 3) := by decide +kernel
theorem dX11_does_56 : decode cX11_does 56 = .ok (.ireturn, 1) := by decide +kernel
theorem dX11_does_57 : decode cX11_does 57 = .ok (.aload_n 0, 1) := by decide +kernel
theorem dX11_does_58 : decode cX11_does 58 = .ok (.aload_n 0, 1) := by decide +kernel
theorem dX11_does_59 : decode cX11_does 59 = .ok (.getfield 180, 3) := by decide +kernel
theorem dX11_does_62 : decode cX11_does 62 = .ok (.aload_n 0, 1) := by decide +kernel
theorem dX11_does_63 : decode cX11_does 63 = .ok (.getfield 118, 3) := by decide +kernel
theorem dX11_does_66 : decode cX11_does 66 = .ok (.aload_n 0, 1) := by decide +kernel
theorem dX11_does_67 : decode cX11_does 67 = .ok (.getfield 121, 3) := by decide +kernel
theorem dX11_does_70 : decode cX11_does 70 = .ok (.invokevirtual 102, 3) := by decide +kernel
theorem dX11_does_73 : decode cX11_does 73 = .ok (.ireturn, 1) := by decide +kernel
theorem dX11_does_74 : decode cX11_does 74 = .ok (.aload_n 0, 1) := by decide +kernel
theorem dX11_does_75 : decode cX11_does 75 = .ok (.aload_n 0, 1) := by decide +kernel
theorem dX11_does_76 : decode cX11_does 76 = .ok (.getfield 180, 3) := by decide +kernel
theorem dX11_does_79 : decode cX11_does 79 = .ok (.aload_n 0, 1) := by decide +kernel
theorem dX11_does_80 : decode cX11_does 80 = .ok (.getfield 186, 3) := by decide +kernel
theorem dX11_does_83 : decode cX11_does 83 = .ok (.aload_n 0, 1) := by decide +kernel
theorem dX11_does_84 : decode cX11_does 84 = .ok (.getfield 189, 3) := by decide +kernel
theorem dX11_does_87 : decode cX11_does 87 = .ok (.invokevirtual 149, 3) := by decide +kernel
theorem dX11_does_90 : decode cX11_does 90 = .ok (.ireturn, 1) := by decide +kernel
theorem dX11_does_91 : decode cX11_does 91 = .ok (.aload_n 0, 1) := by decide +kernel
theorem dX11_does_92 : decode cX11_does 92 = .ok (.aload_n 0, 1) := by decide +kernel
theorem dX11_does_93 : decode cX11_does 93 = .ok (.getfield 180, 3) := by decide +kernel
theorem dX11_does_96 : decode cX11_does 96 = .ok (.aload_n 0, 1) := by decide +kernel
theorem dX11_does_97 : decode cX11_does 97 = .ok (.getfield 186, 3) := by decide +kernel
theorem dX11_does_100 : decode cX11_does 100 = .ok (.invokevirtual 143, 3) := by decide +kernel
theorem dX11_does_103 : decode cX11_does 103 = .ok (.ireturn, 1) := by decide +kernel
theorem dX11_does_104 : decode cX11_does 104 = .ok (.aload_n 0, 1) := by decide +kernel
theorem dX11_does_105 : decode cX11_does 105 = .ok (.aload_n 0, 1) := by decide +kernel
theorem dX11_does_106 : decode cX11_does 106 = .ok (.getfield 180, 3) := by decide +kernel
theorem dX11_does_109 : decode cX11_does 109 = .ok (.aload_n 0, 1) := by decide +kernel
theorem dX11_does_110 : decode cX11_does 110 = .ok (.getfield 186, 3) := by decide +kernel
theorem dX11_does_113 : decode cX11_does 113 = .ok (.invokevirtual 99, 3) := by decide +kernel
theorem dX11_does_116 : decode cX11_does 116 = .ok (.ireturn, 1) := by decide +kernel
theorem dX11_readText_0 : decode cX11_readText 0 = .ok (.aload_n 0, 1) := by decide +kernel
theorem dX11_readText_1 : decode cX11_readText 1 = .ok (.iconst 0, 1) := by decide +kernel
theorem dX11_readText_2 : decode cX11_readText 2 = .ok (.putfield 158, 3) := by decide +kernel
theorem dX11_readText_5 : decode cX11_readText 5 = .ok (.aload_n 0, 1) := by decide +kernel
theorem dX11_readText_6 : decode cX11_readText 6 = .ok (.iconst 0, 1) := by decide +kernel
theorem dX11_readText_7 : decode cX11_readText 7 = .ok (.putfield 192, 3) := by decide +kernel
theorem dX11_readText_10 : decode cX11_readText 10 = .ok (.aload_n 0, 1) := by decide +kernel
theorem dX11_readText_11 : decode cX11_readText 11 = .ok (.iconst 0, 1) := by decide +kernel
theorem dX11_readText_12 : decode cX11_readText 12 = .ok (.putfield 195, 3) := by decide +kernel
theorem dX11_readText_15 : decode cX11_readText 15 = .ok (.aload_n 0, 1) := by decide +kernel
theorem dX11_readText_16 : decode cX11_readText 16 = .ok (.invokevirtual 198, 3) := by decide +kernel
theorem dX11_readText_19 : decode cX11_readText 19 = .ok (.istore_n 2, 1) := by decide +kernel
theorem dX11_readText_20 : decode cX11_readText 20 = .ok (.iload_n 2, 1) := by decide +kernel
theorem dX11_readText_21 : decode cX11_readText 21 = .ok (.ifCond .eq 77, 3) := by decide +kernel
theorem dX11_readText_24 : decode cX11_readText 24 = .ok (.iload_n 1, 1) := by decide +kernel
theorem dX11_readText_25 : decode cX11_readText 25 = .ok (.ifCond .eq 25, 3) := by decide +kernel
theorem dX11_readText_28 : decode cX11_readText 28 = .ok (.aload_n 0, 1) := by decide +kernel
theorem dX11_readText_29 : decode cX11_readText 29 = .ok (.aload_n 0, 1) := by decide +kernel
theorem dX11_readText_30 : decode cX11_readText 30 = .ok (.invokevirtual 201, 3) := by decide +kernel
theorem dX11_readText_33 : decode cX11_readText 33 = .ok (.putfield 195, 3) := by decide +kernel
theorem dX11_readText_36 : decode cX11_readText 36 = .ok (.aload_n 0, 1) := by decide +kernel
theorem dX11_readText_37 : decode cX11_readText 37 = .ok (.getfield 195, 3) := by decide +kernel
theorem dX11_readText_40 : decode cX11_readText 40 = .ok (.ifCond .le 5, 3) := by decide +kernel
theorem dX11_readText_43 : decode cX11_readText 43 = .ok (.iconst 1, 1) := by decide +kernel
theorem dX11_readText_44 : decode cX11_readText 44 = .ok (.ireturn, 1) := by decide +kernel
theorem dX11_readText_45 : decode cX11_readText 45 = .ok (.aload_n 0, 1) := by decide +kernel
theorem dX11_readText_46 : decode cX11_readText 46 = .ok (.invokevirtual 205, 3) := by decide +kernel
theorem dX11_readText_49 : decode cX11_readText 49 = .ok (.pop, 1) := by decide +kernel
theorem dX11_readText_50 : decode cX11_readText 50 = .ok (.aload_n 0, 1) := by decide +kernel
theorem dX11_readText_51 : decode cX11_readText 51 = .ok (.dup, 1) := by decide +kernel
theorem dX11_readText_52 : decode cX11_readText 52 = .ok (.getfield 192, 3) := by decide +kernel
theorem dX11_readText_55 : decode cX11_readText 55 = .ok (.iconst 1, 1) := by decide +kernel
theorem dX11_readText_56 : decode cX11_readText 56 = .ok (.iadd, 1) := by decide +kernel
theorem dX11_readText_57 : decode cX11_readText 57 = .ok (.putfield 192, 3) := by decide +kernel
theorem dX11_readText_60 : decode cX11_readText 60 = .ok (.aload_n 0, 1) := by decide +kernel
theorem dX11_readText_61 : decode cX11_readText 61 = .ok (.getfield 158, 3) := by decide +kernel
theorem dX11_readText_64 : decode cX11_readText 64 = .ok (.aload_n 0, 1) := by decide +kernel
theorem dX11_readText_65 : decode cX11_readText 65 = .ok (.getfield 124, 3) := by decide +kernel
theorem dX11_readText_68 : decode cX11_readText 68 = .ok (.if_icmp .ne 5, 3) := by decide +kernel
theorem dX11_readText_71 : decode cX11_readText 71 = .ok (.iconst 1, 1) := by decide +kernel
theorem dX11_readText_72 : decode cX11_readText 72 = .ok (.ireturn, 1) := by decide +kernel
theorem dX11_readText_73 : decode cX11_readText 73 = .ok (.aload_n 0, 1) := by decide +kernel
theorem dX11_readText_74 : decode cX11_readText 74 = .ok (.bipush 59, 2) := by decide +kernel
theorem dX11_readText_76 : decode cX11_readText 76 = .ok (.invokevirtual 167, 3) := by decide +kernel
theorem dX11_readText_79 : decode cX11_readText 79 = .ok (.ifCond .eq 14, 3) := by decide +kernel
theorem dX11_readText_82 : decode cX11_readText 82 = .ok (.aload_n 0, 1) := by decide +kernel
theorem dX11_readText_83 : decode cX11_readText 83 = .ok (.invokevirtual 198, 3) := by decide +kernel
theorem dX11_readText_86 : decode cX11_readText 86 = .ok (.ifCond .eq 7, 3) := by decide +kernel
theorem dX11_readText_89 : decode cX11_readText 89 = .ok (.iconst 1, 1) := by decide +kernel
theorem dX11_readText_90 : decode cX11_readText 90 = .ok (.goto 4, 3) := by decide +kernel
theorem dX11_readText_93 : decode cX11_readText 93 = .ok (.iconst 0, 1) := by decide +kernel
theorem dX11_readText_94 : decode cX11_readText 94 = .ok (.istore_n 2, 1) := by decide +kernel
theorem dX11_readText_95 : decode cX11_readText 95 = .ok (.goto (-75), 3) := by decide +kernel
theorem dX11_readText_98 : decode cX11_readText 98 = .ok (.iconst 0, 1) := by decide +kernel
theorem dX11_readText_99 : decode cX11_readText 99 = .ok (.ireturn, 1) := by decide +kernel
theorem dX11_firstError_0 : decode cX11_firstError 0 = .ok (.aload_n 0, 1) := by decide +kernel
theorem dX11_firstError_1 : decode cX11_firstError 1 = .ok (.aload_n 0, 1) := by decide +kernel
theorem dX11_firstError_2 : decode cX11_firstError 2 = .ok (.iconst 0, 1) := by decide +kernel
theorem dX11_firstError_3 : decode cX11_firstError 3 = .ok (.invokevirtual 208, 3) := by decide +kernel
theorem dX11_firstError_6 : decode cX11_firstError 6 = .ok (.ifCond .eq 10, 3) := by decide +kernel
theorem dX11_firstError_9 : decode cX11_firstError 9 = .ok (.aload_n 0, 1) := by decide +kernel
theorem dX11_firstError_10 : decode cX11_firstError 10 = .ok (.getfield 124, 3) := by decide +kernel
theorem dX11_firstError_13 : decode cX11_firstError 13 = .ok (.goto 7, 3) := by decide +kernel
theorem dX11_firstError_16 : decode cX11_firstError 16 = .ok (.aload_n 0, 1) := by decide +kernel
theorem dX11_firstError_17 : decode cX11_firstError 17 = .ok (.getfield 158, 3) := by decide +kernel
theorem dX11_firstError_20 : decode cX11_firstError 20 = .ok (.invokevirtual 155, 3) := by decide +kernel
theorem dX11_firstError_23 : decode cX11_firstError 23 = .ok (.ireturn, 1) := by decide +kernel
theorem dX11_work_0 : decode cX11_work 0 = .ok (.aload_n 0, 1) := by decide +kernel
theorem dX11_work_1 : decode cX11_work 1 = .ok (.aload_n 0, 1) := by decide +kernel
theorem dX11_work_2 : decode cX11_work 2 = .ok (.iconst 0, 1) := by decide +kernel
theorem dX11_work_3 : decode cX11_work 3 = .ok (.invokevirtual 208, 3) := by decide +kernel
theorem dX11_work_6 : decode cX11_work 6 = .ok (.ifCond .eq 7, 3) := by decide +kernel
theorem dX11_work_9 : decode cX11_work 9 = .ok (.iconst 0, 1) := by decide +kernel
theorem dX11_work_10 : decode cX11_work 10 = .ok (.goto 4, 3) := by decide +kernel
theorem dX11_work_13 : decode cX11_work 13 = .ok (.iconst 1, 1) := by decide +kernel
theorem dX11_work_14 : decode cX11_work 14 = .ok (.invokevirtual 131, 3) := by decide +kernel
theorem dX11_work_17 : decode cX11_work 17 = .ok (.ifCond .ne 5, 3) := by decide +kernel
theorem dX11_work_20 : decode cX11_work 20 = .ok (.iconst 0, 1) := by decide +kernel
theorem dX11_work_21 : decode cX11_work 21 = .ok (.ireturn, 1) := by decide +kernel
theorem dX11_work_22 : decode cX11_work 22 = .ok (.aload_n 0, 1) := by decide +kernel
theorem dX11_work_23 : decode cX11_work 23 = .ok (.invokevirtual 134, 3) := by decide +kernel
theorem dX11_work_26 : decode cX11_work 26 = .ok (.aload_n 0, 1) := by decide +kernel
theorem dX11_work_27 : decode cX11_work 27 = .ok (.iconst 1, 1) := by decide +kernel
theorem dX11_work_28 : decode cX11_work 28 = .ok (.invokevirtual 208, 3) := by decide +kernel
theorem dX11_work_31 : decode cX11_work 31 = .ok (.istore_n 1, 1) := by decide +kernel
theorem dX11_work_32 : decode cX11_work 32 = .ok (.aload_n 0, 1) := by decide +kernel
theorem dX11_work_33 : decode cX11_work 33 = .ok (.getfield 7, 3) := by decide +kernel
theorem dX11_work_36 : decode cX11_work 36 = .ok (.bipush 6, 2) := by decide +kernel
theorem dX11_work_38 : decode cX11_work 38 = .ok (.aload_n 0, 1) := by decide +kernel
theorem dX11_work_39 : decode cX11_work 39 = .ok (.getfield 195, 3) := by decide +kernel
theorem dX11_work_42 : decode cX11_work 42 = .ok (.ifCond .le 10, 3) := by decide +kernel
theorem dX11_work_45 : decode cX11_work 45 = .ok (.aload_n 0, 1) := by decide +kernel
theorem dX11_work_46 : decode cX11_work 46 = .ok (.getfield 192, 3) := by decide +kernel
theorem dX11_work_49 : decode cX11_work 49 = .ok (.goto 4, 3) := by decide +kernel
theorem dX11_work_52 : decode cX11_work 52 = .ok (.iconst (-1), 1) := by decide +kernel
theorem dX11_work_53 : decode cX11_work 53 = .ok (.iastore, 1) := by decide +kernel
theorem dX11_work_54 : decode cX11_work 54 = .ok (.aload_n 0, 1) := by decide +kernel
theorem dX11_work_55 : decode cX11_work 55 = .ok (.getfield 7, 3) := by decide +kernel
theorem dX11_work_58 : decode cX11_work 58 = .ok (.bipush 7, 2) := by decide +kernel
theorem dX11_work_60 : decode cX11_work 60 = .ok (.aload_n 0, 1) := by decide +kernel
theorem dX11_work_61 : decode cX11_work 61 = .ok (.getfield 195, 3) := by decide +kernel
theorem dX11_work_64 : decode cX11_work 64 = .ok (.ifCond .le 10, 3) := by decide +kernel
theorem dX11_work_67 : decode cX11_work 67 = .ok (.aload_n 0, 1) := by decide +kernel
theorem dX11_work_68 : decode cX11_work 68 = .ok (.getfield 195, 3) := by decide +kernel
theorem dX11_work_71 : decode cX11_work 71 = .ok (.goto 4, 3) := by decide +kernel
theorem dX11_work_74 : decode cX11_work 74 = .ok (.iconst (-1), 1) := by decide +kernel
theorem dX11_work_75 : decode cX11_work 75 = .ok (.iastore, 1) := by decide +kernel
theorem dX11_work_76 : decode cX11_work 76 = .ok (.aload_n 0, 1) := by decide +kernel
theorem dX11_work_77 : decode cX11_work 77 = .ok (.iconst 0, 1) := by decide +kernel
theorem dX11_work_78 : decode cX11_work 78 = .ok (.putfield 124, 3) := by decide +kernel
theorem dX11_work_81 : decode cX11_work 81 = .ok (.iload_n 1, 1) := by decide +kernel
theorem dX11_work_82 : decode cX11_work 82 = .ok (.ifCond .eq 10, 3) := by decide +kernel
theorem dX11_work_85 : decode cX11_work 85 = .ok (.aload_n 0, 1) := by decide +kernel
theorem dX11_work_86 : decode cX11_work 86 = .ok (.getfield 192, 3) := by decide +kernel
theorem dX11_work_89 : decode cX11_work 89 = .ok (.goto 4, 3) := by decide +kernel
theorem dX11_work_92 : decode cX11_work 92 = .ok (.iconst 0, 1) := by decide +kernel
theorem dX11_work_93 : decode cX11_work 93 = .ok (.ireturn, 1) := by decide +kernel
theorem dX11_stopped_0 : decode cX11_stopped 0 = .ok (.aload_n 0, 1) := by decide +kernel
theorem dX11_stopped_1 : decode cX11_stopped 1 = .ok (.iload_n 1, 1) := by decide +kernel
theorem dX11_stopped_2 : decode cX11_stopped 2 = .ok (.iconst 0, 1) := by decide +kernel
theorem dX11_stopped_3 : decode cX11_stopped 3 = .ok (.iconst 1, 1) := by decide +kernel
theorem dX11_stopped_4 : decode cX11_stopped 4 = .ok (.invokestatic 26, 3) := by decide +kernel
theorem dX11_stopped_7 : decode cX11_stopped 7 = .ok (.ifCond .eq 7, 3) := by decide +kernel
theorem dX11_stopped_10 : decode cX11_stopped 10 = .ok (.iconst 0, 1) := by decide +kernel
theorem dX11_stopped_11 : decode cX11_stopped 11 = .ok (.goto 4, 3) := by decide +kernel
theorem dX11_stopped_14 : decode cX11_stopped 14 = .ok (.iconst 1, 1) := by decide +kernel
theorem dX11_stopped_15 : decode cX11_stopped 15 = .ok (.invokevirtual 131, 3) := by decide +kernel
theorem dX11_stopped_18 : decode cX11_stopped 18 = .ok (.ifCond .eq 22, 3) := by decide +kernel
theorem dX11_stopped_21 : decode cX11_stopped 21 = .ok (.aload_n 0, 1) := by decide +kernel
theorem dX11_stopped_22 : decode cX11_stopped 22 = .ok (.getfield 7, 3) := by decide +kernel
theorem dX11_stopped_25 : decode cX11_stopped 25 = .ok (.iload_n 1, 1) := by decide +kernel
theorem dX11_stopped_26 : decode cX11_stopped 26 = .ok (.ifCond .ne 8, 3) := by decide +kernel
theorem dX11_stopped_29 : decode cX11_stopped 29 = .ok (.bipush 6, 2) := by decide +kernel
theorem dX11_stopped_31 : decode cX11_stopped 31 = .ok (.goto 5, 3) := by decide +kernel
theorem dX11_stopped_34 : decode cX11_stopped 34 = .ok (.bipush 7, 2) := by decide +kernel
theorem dX11_stopped_36 : decode cX11_stopped 36 = .ok (.iaload, 1) := by decide +kernel
theorem dX11_stopped_37 : decode cX11_stopped 37 = .ok (.goto 4, 3) := by decide +kernel
theorem dX11_stopped_40 : decode cX11_stopped 40 = .ok (.iconst 0, 1) := by decide +kernel
theorem dX11_stopped_41 : decode cX11_stopped 41 = .ok (.ireturn, 1) := by decide +kernel
theorem dX11_characterAt_0 : decode cX11_characterAt 0 = .ok (.iload_n 2, 1) := by decide +kernel
theorem dX11_characterAt_1 : decode cX11_characterAt 1 = .ok (.istore_n 3, 1) := by decide +kernel
theorem dX11_characterAt_2 : decode cX11_characterAt 2 = .ok (.iconst 0, 1) := by decide +kernel
theorem dX11_characterAt_3 : decode cX11_characterAt 3 = .ok (.istore 4, 2) := by decide +kernel
theorem dX11_characterAt_5 : decode cX11_characterAt 5 = .ok (.iload 4, 2) := by decide +kernel
theorem dX11_characterAt_7 : decode cX11_characterAt 7 = .ok (.aload_n 0, 1) := by decide +kernel
theorem dX11_characterAt_8 : decode cX11_characterAt 8 = .ok (.iload_n 1, 1) := by decide +kernel
theorem dX11_characterAt_9 : decode cX11_characterAt 9 = .ok (.iconst 1, 1) := by decide +kernel
theorem dX11_characterAt_10 : decode cX11_characterAt 10 = .ok (.invokevirtual 34, 3) := by decide +kernel
theorem dX11_characterAt_13 : decode cX11_characterAt 13 = .ok (.if_icmp .ge 78, 3) := by decide +kernel
theorem dX11_characterAt_16 : decode cX11_characterAt 16 = .ok (.iload_n 1, 1) := by decide +kernel
theorem dX11_characterAt_17 : decode cX11_characterAt 17 = .ok (.iload 4, 2) := by decide +kernel
theorem dX11_characterAt_19 : decode cX11_characterAt 19 = .ok (.invokestatic 76, 3) := by decide +kernel
theorem dX11_characterAt_22 : decode cX11_characterAt 22 = .ok (.istore 5, 2) := by decide +kernel
theorem dX11_characterAt_24 : decode cX11_characterAt 24 = .ok (.iload 4, 2) := by decide +kernel
theorem dX11_characterAt_26 : decode cX11_characterAt 26 = .ok (.ifCond .le 13, 3) := by decide +kernel
theorem dX11_characterAt_29 : decode cX11_characterAt 29 = .ok (.iload_n 3, 1) := by decide +kernel
theorem dX11_characterAt_30 : decode cX11_characterAt 30 = .ok (.ifCond .ne 6, 3) := by decide +kernel
theorem dX11_characterAt_33 : decode cX11_characterAt 33 = .ok (.bipush 45, 2) := by decide +kernel
theorem dX11_characterAt_35 : decode cX11_characterAt 35 = .ok (.ireturn, 1) := by decide +kernel
theorem dX11_characterAt_36 : decode cX11_characterAt 36 = .ok (.iinc 3 (-1), 3) := by decide +kernel
theorem dX11_characterAt_39 : decode cX11_characterAt 39 = .ok (.iload_n 3, 1) := by decide +kernel
theorem dX11_characterAt_40 : decode cX11_characterAt 40 = .ok (.aload_n 0, 1) := by decide +kernel
theorem dX11_characterAt_41 : decode cX11_characterAt 41 = .ok (.iload 5, 2) := by decide +kernel
theorem dX11_characterAt_43 : decode cX11_characterAt 43 = .ok (.invokevirtual 58, 3) := by decide +kernel
theorem dX11_characterAt_46 : decode cX11_characterAt 46 = .ok (.if_icmp .ge 30, 3) := by decide +kernel
theorem dX11_characterAt_49 : decode cX11_characterAt 49 = .ok (.aload_n 0, 1) := by decide +kernel
theorem dX11_characterAt_50 : decode cX11_characterAt 50 = .ok (.iload 5, 2) := by decide +kernel
theorem dX11_characterAt_52 : decode cX11_characterAt 52 = .ok (.iload_n 3, 1) := by decide +kernel
theorem dX11_characterAt_53 : decode cX11_characterAt 53 = .ok (.invokevirtual 64, 3) := by decide +kernel
theorem dX11_characterAt_56 : decode cX11_characterAt 56 = .ok (.istore 6, 2) := by decide +kernel
theorem dX11_characterAt_58 : decode cX11_characterAt 58 = .ok (.iload 6, 2) := by decide +kernel
theorem dX11_characterAt_60 : decode cX11_characterAt 60 = .ok (.bipush 16, 2) := by decide +kernel
theorem dX11_characterAt_62 : decode cX11_characterAt 62 = .ok (.if_icmp .ne 8, 3) := by decide +kernel
theorem dX11_characterAt_65 : decode cX11_characterAt 65 = .ok (.bipush 63, 2) := by decide +kernel
theorem dX11_characterAt_67 : decode cX11_characterAt 67 = .ok (.goto 8, 3) := by decide +kernel
theorem dX11_characterAt_70 : decode cX11_characterAt 70 = .ok (.bipush 97, 2) := by decide +kernel
theorem dX11_characterAt_72 : decode cX11_characterAt 72 = .ok (.iload 6, 2) := by decide +kernel
theorem dX11_characterAt_74 : decode cX11_characterAt 74 = .ok (.iadd, 1) := by decide +kernel
theorem dX11_characterAt_75 : decode cX11_characterAt 75 = .ok (.ireturn, 1) := by decide +kernel
theorem dX11_characterAt_76 : decode cX11_characterAt 76 = .ok (.iload_n 3, 1) := by decide +kernel
theorem dX11_characterAt_77 : decode cX11_characterAt 77 = .ok (.aload_n 0, 1) := by decide +kernel
theorem dX11_characterAt_78 : decode cX11_characterAt 78 = .ok (.iload 5, 2) := by decide +kernel
theorem dX11_characterAt_80 : decode cX11_characterAt 80 = .ok (.invokevirtual 58, 3) := by decide +kernel
theorem dX11_characterAt_83 : decode cX11_characterAt 83 = .ok (.isub, 1) := by decide +kernel
theorem dX11_characterAt_84 : decode cX11_characterAt 84 = .ok (.istore_n 3, 1) := by decide +kernel
theorem dX11_characterAt_85 : decode cX11_characterAt 85 = .ok (.iinc 4 1, 3) := by decide +kernel
theorem dX11_characterAt_88 : decode cX11_characterAt 88 = .ok (.goto (-83), 3) := by decide +kernel
theorem dX11_characterAt_91 : decode cX11_characterAt 91 = .ok (.iconst (-1), 1) := by decide +kernel
theorem dX11_characterAt_92 : decode cX11_characterAt 92 = .ok (.ireturn, 1) := by decide +kernel
theorem dX11_told_0 : decode cX11_told 0 = .ok (.aload_n 0, 1) := by decide +kernel
theorem dX11_told_1 : decode cX11_told 1 = .ok (.iload_n 1, 1) := by decide +kernel
theorem dX11_told_2 : decode cX11_told 2 = .ok (.invokestatic 30, 3) := by decide +kernel
theorem dX11_told_5 : decode cX11_told 5 = .ok (.ifCond .ne 7, 3) := by decide +kernel
theorem dX11_told_8 : decode cX11_told 8 = .ok (.iconst 1, 1) := by decide +kernel
theorem dX11_told_9 : decode cX11_told 9 = .ok (.goto 12, 3) := by decide +kernel
theorem dX11_told_12 : decode cX11_told 12 = .ok (.iload_n 2, 1) := by decide +kernel
theorem dX11_told_13 : decode cX11_told 13 = .ok (.ifCond .ge 7, 3) := by decide +kernel
theorem dX11_told_16 : decode cX11_told 16 = .ok (.iconst 2, 1) := by decide +kernel
theorem dX11_told_17 : decode cX11_told 17 = .ok (.goto 4, 3) := by decide +kernel
theorem dX11_told_20 : decode cX11_told 20 = .ok (.iconst 0, 1) := by decide +kernel
theorem dX11_told_21 : decode cX11_told 21 = .ok (.invokevirtual 131, 3) := by decide +kernel
theorem dX11_told_24 : decode cX11_told 24 = .ok (.ifCond .eq 12, 3) := by decide +kernel
theorem dX11_told_27 : decode cX11_told 27 = .ok (.aload_n 0, 1) := by decide +kernel
theorem dX11_told_28 : decode cX11_told 28 = .ok (.iload_n 1, 1) := by decide +kernel
theorem dX11_told_29 : decode cX11_told 29 = .ok (.iload_n 2, 1) := by decide +kernel
theorem dX11_told_30 : decode cX11_told 30 = .ok (.invokevirtual 212, 3) := by decide +kernel
theorem dX11_told_33 : decode cX11_told 33 = .ok (.goto 4, 3) := by decide +kernel
theorem dX11_told_36 : decode cX11_told 36 = .ok (.iconst 0, 1) := by decide +kernel
theorem dX11_told_37 : decode cX11_told 37 = .ok (.ireturn, 1) := by decide +kernel
theorem dX11_undo_0 : decode cX11_undo 0 = .ok (.aload_n 0, 1) := by decide +kernel
theorem dX11_undo_1 : decode cX11_undo 1 = .ok (.aload_n 0, 1) := by decide +kernel
theorem dX11_undo_2 : decode cX11_undo 2 = .ok (.getfield 38, 3) := by decide +kernel
theorem dX11_undo_5 : decode cX11_undo 5 = .ok (.ifCond .le 7, 3) := by decide +kernel
theorem dX11_undo_8 : decode cX11_undo 8 = .ok (.iconst 0, 1) := by decide +kernel
theorem dX11_undo_9 : decode cX11_undo 9 = .ok (.goto 4, 3) := by decide +kernel
theorem dX11_undo_12 : decode cX11_undo 12 = .ok (.iconst 1, 1) := by decide +kernel
theorem dX11_undo_13 : decode cX11_undo 13 = .ok (.invokevirtual 131, 3) := by decide +kernel
theorem dX11_undo_16 : decode cX11_undo 16 = .ok (.ifCond .ne 5, 3) := by decide +kernel
theorem dX11_undo_19 : decode cX11_undo 19 = .ok (.iconst 0, 1) := by decide +kernel
theorem dX11_undo_20 : decode cX11_undo 20 = .ok (.ireturn, 1) := by decide +kernel
theorem dX11_undo_21 : decode cX11_undo 21 = .ok (.aload_n 0, 1) := by decide +kernel
theorem dX11_undo_22 : decode cX11_undo 22 = .ok (.dup, 1) := by decide +kernel
theorem dX11_undo_23 : decode cX11_undo 23 = .ok (.getfield 38, 3) := by decide +kernel
theorem dX11_undo_26 : decode cX11_undo 26 = .ok (.iconst 1, 1) := by decide +kernel
theorem dX11_undo_27 : decode cX11_undo 27 = .ok (.isub, 1) := by decide +kernel
theorem dX11_undo_28 : decode cX11_undo 28 = .ok (.putfield 38, 3) := by decide +kernel
theorem dX11_undo_31 : decode cX11_undo 31 = .ok (.aload_n 0, 1) := by decide +kernel
theorem dX11_undo_32 : decode cX11_undo 32 = .ok (.getfield 13, 3) := by decide +kernel
theorem dX11_undo_35 : decode cX11_undo 35 = .ok (.sipush 406, 3) := by decide +kernel
theorem dX11_undo_38 : decode cX11_undo 38 = .ok (.aload_n 0, 1) := by decide +kernel
theorem dX11_undo_39 : decode cX11_undo 39 = .ok (.getfield 38, 3) := by decide +kernel
theorem dX11_undo_42 : decode cX11_undo 42 = .ok (.imul, 1) := by decide +kernel
theorem dX11_undo_43 : decode cX11_undo 43 = .ok (.aload_n 0, 1) := by decide +kernel
theorem dX11_undo_44 : decode cX11_undo 44 = .ok (.getfield 7, 3) := by decide +kernel
theorem dX11_undo_47 : decode cX11_undo 47 = .ok (.iconst 0, 1) := by decide +kernel
theorem dX11_undo_48 : decode cX11_undo 48 = .ok (.invokestatic 41, 3) := by decide +kernel
theorem dX11_undo_51 : decode cX11_undo 51 = .ok (.aload_n 0, 1) := by decide +kernel
theorem dX11_undo_52 : decode cX11_undo 52 = .ok (.getfield 38, 3) := by decide +kernel
theorem dX11_undo_55 : decode cX11_undo 55 = .ok (.ireturn, 1) := by decide +kernel
theorem dX11_sumOf_0 : decode cX11_sumOf 0 = .ok (.iconst 0, 1) := by decide +kernel
theorem dX11_sumOf_1 : decode cX11_sumOf 1 = .ok (.istore_n 2, 1) := by decide +kernel
theorem dX11_sumOf_2 : decode cX11_sumOf 2 = .ok (.iconst 0, 1) := by decide +kernel
theorem dX11_sumOf_3 : decode cX11_sumOf 3 = .ok (.istore_n 3, 1) := by decide +kernel
theorem dX11_sumOf_4 : decode cX11_sumOf 4 = .ok (.iload_n 3, 1) := by decide +kernel
theorem dX11_sumOf_5 : decode cX11_sumOf 5 = .ok (.iconst 5, 1) := by decide +kernel
theorem dX11_sumOf_6 : decode cX11_sumOf 6 = .ok (.if_icmp .ge 18, 3) := by decide +kernel
theorem dX11_sumOf_9 : decode cX11_sumOf 9 = .ok (.iload_n 2, 1) := by decide +kernel
theorem dX11_sumOf_10 : decode cX11_sumOf 10 = .ok (.aload_n 0, 1) := by decide +kernel
theorem dX11_sumOf_11 : decode cX11_sumOf 11 = .ok (.iload_n 3, 1) := by decide +kernel
theorem dX11_sumOf_12 : decode cX11_sumOf 12 = .ok (.iload_n 1, 1) := by decide +kernel
theorem dX11_sumOf_13 : decode cX11_sumOf 13 = .ok (.invokevirtual 34, 3) := by decide +kernel
theorem dX11_sumOf_16 : decode cX11_sumOf 16 = .ok (.iadd, 1) := by decide +kernel
theorem dX11_sumOf_17 : decode cX11_sumOf 17 = .ok (.istore_n 2, 1) := by decide +kernel
theorem dX11_sumOf_18 : decode cX11_sumOf 18 = .ok (.iinc 3 1, 3) := by decide +kernel
theorem dX11_sumOf_21 : decode cX11_sumOf 21 = .ok (.goto (-17), 3) := by decide +kernel
theorem dX11_sumOf_24 : decode cX11_sumOf 24 = .ok (.iload_n 2, 1) := by decide +kernel
theorem dX11_sumOf_25 : decode cX11_sumOf 25 = .ok (.ireturn, 1) := by decide +kernel
theorem dX11_keep_0 : decode cX11_keep 0 = .ok (.aload_n 0, 1) := by decide +kernel
theorem dX11_keep_1 : decode cX11_keep 1 = .ok (.getfield 7, 3) := by decide +kernel
theorem dX11_keep_4 : decode cX11_keep 4 = .ok (.iconst 0, 1) := by decide +kernel
theorem dX11_keep_5 : decode cX11_keep 5 = .ok (.aload_n 0, 1) := by decide +kernel
theorem dX11_keep_6 : decode cX11_keep 6 = .ok (.getfield 16, 3) := by decide +kernel
theorem dX11_keep_9 : decode cX11_keep 9 = .ok (.iconst 0, 1) := by decide +kernel
theorem dX11_keep_10 : decode cX11_keep 10 = .ok (.invokestatic 41, 3) := by decide +kernel
theorem dX11_keep_13 : decode cX11_keep 13 = .ok (.aload_n 0, 1) := by decide +kernel
theorem dX11_keep_14 : decode cX11_keep 14 = .ok (.iconst 1, 1) := by decide +kernel
theorem dX11_keep_15 : decode cX11_keep 15 = .ok (.putfield 215, 3) := by decide +kernel
theorem dX11_keep_18 : decode cX11_keep 18 = .ok (.aload_n 0, 1) := by decide +kernel
theorem dX11_keep_19 : decode cX11_keep 19 = .ok (.aload_n 0, 1) := by decide +kernel
theorem dX11_keep_20 : decode cX11_keep 20 = .ok (.iconst 1, 1) := by decide +kernel
theorem dX11_keep_21 : decode cX11_keep 21 = .ok (.invokevirtual 219, 3) := by decide +kernel
theorem dX11_keep_24 : decode cX11_keep 24 = .ok (.invokevirtual 155, 3) := by decide +kernel
theorem dX11_keep_27 : decode cX11_keep 27 = .ok (.ireturn, 1) := by decide +kernel
theorem dX11_restore_0 : decode cX11_restore 0 = .ok (.aload_n 0, 1) := by decide +kernel
theorem dX11_restore_1 : decode cX11_restore 1 = .ok (.aload_n 0, 1) := by decide +kernel
theorem dX11_restore_2 : decode cX11_restore 2 = .ok (.getfield 215, 3) := by decide +kernel
theorem dX11_restore_5 : decode cX11_restore 5 = .ok (.ifCond .eq 7, 3) := by decide +kernel
theorem dX11_restore_8 : decode cX11_restore 8 = .ok (.iconst 0, 1) := by decide +kernel
theorem dX11_restore_9 : decode cX11_restore 9 = .ok (.goto 4, 3) := by decide +kernel
theorem dX11_restore_12 : decode cX11_restore 12 = .ok (.iconst 1, 1) := by decide +kernel
theorem dX11_restore_13 : decode cX11_restore 13 = .ok (.invokevirtual 131, 3) := by decide +kernel
theorem dX11_restore_16 : decode cX11_restore 16 = .ok (.ifCond .ne 5, 3) := by decide +kernel
theorem dX11_restore_19 : decode cX11_restore 19 = .ok (.iconst 0, 1) := by decide +kernel
theorem dX11_restore_20 : decode cX11_restore 20 = .ok (.ireturn, 1) := by decide +kernel
theorem dX11_restore_21 : decode cX11_restore 21 = .ok (.aload_n 0, 1) := by decide +kernel
theorem dX11_restore_22 : decode cX11_restore 22 = .ok (.invokevirtual 134, 3) := by decide +kernel
theorem dX11_restore_25 : decode cX11_restore 25 = .ok (.aload_n 0, 1) := by decide +kernel
theorem dX11_restore_26 : decode cX11_restore 26 = .ok (.getfield 16, 3) := by decide +kernel
theorem dX11_restore_29 : decode cX11_restore 29 = .ok (.iconst 0, 1) := by decide +kernel
theorem dX11_restore_30 : decode cX11_restore 30 = .ok (.aload_n 0, 1) := by decide +kernel
theorem dX11_restore_31 : decode cX11_restore 31 = .ok (.getfield 7, 3) := by decide +kernel
theorem dX11_restore_34 : decode cX11_restore 34 = .ok (.iconst 0, 1) := by decide +kernel
theorem dX11_restore_35 : decode cX11_restore 35 = .ok (.invokestatic 41, 3) := by decide +kernel
theorem dX11_restore_38 : decode cX11_restore 38 = .ok (.aload_n 0, 1) := by decide +kernel
theorem dX11_restore_39 : decode cX11_restore 39 = .ok (.iconst 1, 1) := by decide +kernel
theorem dX11_restore_40 : decode cX11_restore 40 = .ok (.invokevirtual 219, 3) := by decide +kernel
theorem dX11_restore_43 : decode cX11_restore 43 = .ok (.ireturn, 1) := by decide +kernel
theorem dX11_knotsOf_0 : decode cX11_knotsOf 0 = .ok (.iconst 0, 1) := by decide +kernel
theorem dX11_knotsOf_1 : decode cX11_knotsOf 1 = .ok (.istore_n 3, 1) := by decide +kernel
theorem dX11_knotsOf_2 : decode cX11_knotsOf 2 = .ok (.iconst 0, 1) := by decide +kernel
theorem dX11_knotsOf_3 : decode cX11_knotsOf 3 = .ok (.istore 4, 2) := by decide +kernel
theorem dX11_knotsOf_5 : decode cX11_knotsOf 5 = .ok (.iload 4, 2) := by decide +kernel
theorem dX11_knotsOf_7 : decode cX11_knotsOf 7 = .ok (.iconst 5, 1) := by decide +kernel
theorem dX11_knotsOf_8 : decode cX11_knotsOf 8 = .ok (.if_icmp .ge 94, 3) := by decide +kernel
theorem dX11_knotsOf_11 : decode cX11_knotsOf 11 = .ok (.iconst 0, 1) := by decide +kernel
theorem dX11_knotsOf_12 : decode cX11_knotsOf 12 = .ok (.istore 5, 2) := by decide +kernel
theorem dX11_knotsOf_14 : decode cX11_knotsOf 14 = .ok (.iload 5, 2) := by decide +kernel
theorem dX11_knotsOf_16 : decode cX11_knotsOf 16 = .ok (.aload_n 0, 1) := by decide +kernel
theorem dX11_knotsOf_17 : decode cX11_knotsOf 17 = .ok (.iload 4, 2) := by decide +kernel
theorem dX11_knotsOf_19 : decode cX11_knotsOf 19 = .ok (.iconst 1, 1) := by decide +kernel
theorem dX11_knotsOf_20 : decode cX11_knotsOf 20 = .ok (.invokevirtual 34, 3) := by decide +kernel
theorem dX11_knotsOf_23 : decode cX11_knotsOf 23 = .ok (.if_icmp .ge 73, 3) := by decide +kernel
theorem dX11_knotsOf_26 : decode cX11_knotsOf 26 = .ok (.iload 4, 2) := by decide +kernel
theorem dX11_knotsOf_28 : decode cX11_knotsOf 28 = .ok (.iload 5, 2) := by decide +kernel
theorem dX11_knotsOf_30 : decode cX11_knotsOf 30 = .ok (.invokestatic 76, 3) := by decide +kernel
theorem dX11_knotsOf_33 : decode cX11_knotsOf 33 = .ok (.istore 6, 2) := by decide +kernel
theorem dX11_knotsOf_35 : decode cX11_knotsOf 35 = .ok (.iconst 0, 1) := by decide +kernel
theorem dX11_knotsOf_36 : decode cX11_knotsOf 36 = .ok (.istore 7, 2) := by decide +kernel
theorem dX11_knotsOf_38 : decode cX11_knotsOf 38 = .ok (.iload 7, 2) := by decide +kernel
theorem dX11_knotsOf_40 : decode cX11_knotsOf 40 = .ok (.aload_n 0, 1) := by decide +kernel
theorem dX11_knotsOf_41 : decode cX11_knotsOf 41 = .ok (.iload 6, 2) := by decide +kernel
theorem dX11_knotsOf_43 : decode cX11_knotsOf 43 = .ok (.invokevirtual 58, 3) := by decide +kernel
theorem dX11_knotsOf_46 : decode cX11_knotsOf 46 = .ok (.if_icmp .ge 44, 3) := by decide +kernel
theorem dX11_knotsOf_49 : decode cX11_knotsOf 49 = .ok (.iload_n 3, 1) := by decide +kernel
theorem dX11_knotsOf_50 : decode cX11_knotsOf 50 = .ok (.iload_n 2, 1) := by decide +kernel
theorem dX11_knotsOf_51 : decode cX11_knotsOf 51 = .ok (.ifCond .eq 14, 3) := by decide +kernel
theorem dX11_knotsOf_54 : decode cX11_knotsOf 54 = .ok (.aload_n 0, 1) := by decide +kernel
theorem dX11_knotsOf_55 : decode cX11_knotsOf 55 = .ok (.iload 6, 2) := by decide +kernel
theorem dX11_knotsOf_57 : decode cX11_knotsOf 57 = .ok (.iload 7, 2) := by decide +kernel
theorem dX11_knotsOf_59 : decode cX11_knotsOf 59 = .ok (.invokevirtual 64, 3) := by decide +kernel
theorem dX11_knotsOf_62 : decode cX11_knotsOf 62 = .ok (.goto 11, 3) := by decide +kernel
theorem dX11_knotsOf_65 : decode cX11_knotsOf 65 = .ok (.aload_n 0, 1) := by decide +kernel
theorem dX11_knotsOf_66 : decode cX11_knotsOf 66 = .ok (.iload 6, 2) := by decide +kernel
theorem dX11_knotsOf_68 : decode cX11_knotsOf 68 = .ok (.iload 7, 2) := by decide +kernel
theorem dX11_knotsOf_70 : decode cX11_knotsOf 70 = .ok (.invokevirtual 55, 3) := by decide +kernel
theorem dX11_knotsOf_73 : decode cX11_knotsOf 73 = .ok (.iload_n 1, 1) := by decide +kernel
theorem dX11_knotsOf_74 : decode cX11_knotsOf 74 = .ok (.if_icmp .ne 7, 3) := by decide +kernel
theorem dX11_knotsOf_77 : decode cX11_knotsOf 77 = .ok (.iconst 1, 1) := by decide +kernel
theorem dX11_knotsOf_78 : decode cX11_knotsOf 78 = .ok (.goto 4, 3) := by decide +kernel
theorem dX11_knotsOf_81 : decode cX11_knotsOf 81 = .ok (.iconst 0, 1) := by decide +kernel
theorem dX11_knotsOf_82 : decode cX11_knotsOf 82 = .ok (.iadd, 1) := by decide +kernel
theorem dX11_knotsOf_83 : decode cX11_knotsOf 83 = .ok (.istore_n 3, 1) := by decide +kernel
theorem dX11_knotsOf_84 : decode cX11_knotsOf 84 = .ok (.iinc 7 1, 3) := by decide +kernel
theorem dX11_knotsOf_87 : decode cX11_knotsOf 87 = .ok (.goto (-49), 3) := by decide +kernel
theorem dX11_knotsOf_90 : decode cX11_knotsOf 90 = .ok (.iinc 5 1, 3) := by decide +kernel
theorem dX11_knotsOf_93 : decode cX11_knotsOf 93 = .ok (.goto (-79), 3) := by decide +kernel
theorem dX11_knotsOf_96 : decode cX11_knotsOf 96 = .ok (.iinc 4 1, 3) := by decide +kernel
theorem dX11_knotsOf_99 : decode cX11_knotsOf 99 = .ok (.goto (-94), 3) := by decide +kernel
theorem dX11_knotsOf_102 : decode cX11_knotsOf 102 = .ok (.iload_n 3, 1) := by decide +kernel
theorem dX11_knotsOf_103 : decode cX11_knotsOf 103 = .ok (.ireturn, 1) := by decide +kernel
theorem dX11_letterNumber_0 : decode cX11_letterNumber 0 = .ok (.iload_n 2, 1) := by decide +kernel
theorem dX11_letterNumber_1 : decode cX11_letterNumber 1 = .ok (.tableswitch 58 0 3 #[31, 36, 40, 45], 31) := by decide +kernel
theorem dX11_letterNumber_32 : decode cX11_letterNumber 32 = .ok (.iload_n 1, 1) := by decide +kernel
theorem dX11_letterNumber_33 : decode cX11_letterNumber 33 = .ok (.invokestatic 45, 3) := by decide +kernel
theorem dX11_letterNumber_36 : decode cX11_letterNumber 36 = .ok (.ireturn, 1) := by decide +kernel
theorem dX11_letterNumber_37 : decode cX11_letterNumber 37 = .ok (.iload_n 1, 1) := by decide +kernel
theorem dX11_letterNumber_38 : decode cX11_letterNumber 38 = .ok (.iconst 4, 1) := by decide +kernel
theorem dX11_letterNumber_39 : decode cX11_letterNumber 39 = .ok (.irem, 1) := by decide +kernel
theorem dX11_letterNumber_40 : decode cX11_letterNumber 40 = .ok (.ireturn, 1) := by decide +kernel
theorem dX11_letterNumber_41 : decode cX11_letterNumber 41 = .ok (.iload_n 1, 1) := by decide +kernel
theorem dX11_letterNumber_42 : decode cX11_letterNumber 42 = .ok (.invokestatic 52, 3) := by decide +kernel
theorem dX11_letterNumber_45 : decode cX11_letterNumber 45 = .ok (.ireturn, 1) := by decide +kernel
theorem dX11_letterNumber_46 : decode cX11_letterNumber 46 = .ok (.iload_n 1, 1) := by decide +kernel
theorem dX11_letterNumber_47 : decode cX11_letterNumber 47 = .ok (.invokestatic 108, 3) := by decide +kernel
theorem dX11_letterNumber_50 : decode cX11_letterNumber 50 = .ok (.ifCond .eq 7, 3) := by decide +kernel
theorem dX11_letterNumber_53 : decode cX11_letterNumber 53 = .ok (.iconst 1, 1) := by decide +kernel
theorem dX11_letterNumber_54 : decode cX11_letterNumber 54 = .ok (.goto 4, 3) := by decide +kernel
theorem dX11_letterNumber_57 : decode cX11_letterNumber 57 = .ok (.iconst 0, 1) := by decide +kernel
theorem dX11_letterNumber_58 : decode cX11_letterNumber 58 = .ok (.ireturn, 1) := by decide +kernel
theorem dX11_letterNumber_59 : decode cX11_letterNumber 59 = .ok (.aload_n 0, 1) := by decide +kernel
theorem dX11_letterNumber_60 : decode cX11_letterNumber 60 = .ok (.iload_n 1, 1) := by decide +kernel
theorem dX11_letterNumber_61 : decode cX11_letterNumber 61 = .ok (.iload_n 2, 1) := by decide +kernel
theorem dX11_letterNumber_62 : decode cX11_letterNumber 62 = .ok (.iconst 5, 1) := by decide +kernel
theorem dX11_letterNumber_63 : decode cX11_letterNumber 63 = .ok (.if_icmp .ne 7, 3) := by decide +kernel
theorem dX11_letterNumber_66 : decode cX11_letterNumber 66 = .ok (.iconst 1, 1) := by decide +kernel
theorem dX11_letterNumber_67 : decode cX11_letterNumber 67 = .ok (.goto 4, 3) := by decide +kernel
theorem dX11_letterNumber_70 : decode cX11_letterNumber 70 = .ok (.iconst 0, 1) := by decide +kernel
theorem dX11_letterNumber_71 : decode cX11_letterNumber 71 = .ok (.invokevirtual 222, 3) := by decide +kernel
theorem dX11_letterNumber_74 : decode cX11_letterNumber 74 = .ok (.ireturn, 1) := by decide +kernel
theorem dX11_letter_0 : decode cX11_letter 0 = .ok (.aload_n 0, 1) := by decide +kernel
theorem dX11_letter_1 : decode cX11_letter 1 = .ok (.iload_n 1, 1) := by decide +kernel
theorem dX11_letter_2 : decode cX11_letter 2 = .ok (.iconst 0, 1) := by decide +kernel
theorem dX11_letter_3 : decode cX11_letter 3 = .ok (.bipush 15, 2) := by decide +kernel
theorem dX11_letter_5 : decode cX11_letter 5 = .ok (.invokestatic 26, 3) := by decide +kernel
theorem dX11_letter_8 : decode cX11_letter 8 = .ok (.ifCond .ne 7, 3) := by decide +kernel
theorem dX11_letter_11 : decode cX11_letter 11 = .ok (.iconst 1, 1) := by decide +kernel
theorem dX11_letter_12 : decode cX11_letter 12 = .ok (.goto 17, 3) := by decide +kernel
theorem dX11_letter_15 : decode cX11_letter 15 = .ok (.iload_n 2, 1) := by decide +kernel
theorem dX11_letter_16 : decode cX11_letter 16 = .ok (.iconst 0, 1) := by decide +kernel
theorem dX11_letter_17 : decode cX11_letter 17 = .ok (.iconst 5, 1) := by decide +kernel
theorem dX11_letter_18 : decode cX11_letter 18 = .ok (.invokestatic 26, 3) := by decide +kernel
theorem dX11_letter_21 : decode cX11_letter 21 = .ok (.ifCond .eq 7, 3) := by decide +kernel
theorem dX11_letter_24 : decode cX11_letter 24 = .ok (.iconst 0, 1) := by decide +kernel
theorem dX11_letter_25 : decode cX11_letter 25 = .ok (.goto 4, 3) := by decide +kernel
theorem dX11_letter_28 : decode cX11_letter 28 = .ok (.iconst 2, 1) := by decide +kernel
theorem dX11_letter_29 : decode cX11_letter 29 = .ok (.invokevirtual 131, 3) := by decide +kernel
theorem dX11_letter_32 : decode cX11_letter 32 = .ok (.ifCond .eq 12, 3) := by decide +kernel
theorem dX11_letter_35 : decode cX11_letter 35 = .ok (.aload_n 0, 1) := by decide +kernel
theorem dX11_letter_36 : decode cX11_letter 36 = .ok (.iload_n 1, 1) := by decide +kernel
theorem dX11_letter_37 : decode cX11_letter 37 = .ok (.iload_n 2, 1) := by decide +kernel
theorem dX11_letter_38 : decode cX11_letter 38 = .ok (.invokevirtual 226, 3) := by decide +kernel
theorem dX11_letter_41 : decode cX11_letter 41 = .ok (.goto 4, 3) := by decide +kernel
theorem dX11_letter_44 : decode cX11_letter 44 = .ok (.iconst 0, 1) := by decide +kernel
theorem dX11_letter_45 : decode cX11_letter 45 = .ok (.ireturn, 1) := by decide +kernel
theorem dX11_knotNumber_0 : decode cX11_knotNumber 0 = .ok (.iload_n 3, 1) := by decide +kernel
theorem dX11_knotNumber_1 : decode cX11_knotNumber 1 = .ok (.ifCond .ne 12, 3) := by decide +kernel
theorem dX11_knotNumber_4 : decode cX11_knotNumber 4 = .ok (.aload_n 0, 1) := by decide +kernel
theorem dX11_knotNumber_5 : decode cX11_knotNumber 5 = .ok (.iload_n 1, 1) := by decide +kernel
theorem dX11_knotNumber_6 : decode cX11_knotNumber 6 = .ok (.iload_n 2, 1) := by decide +kernel
theorem dX11_knotNumber_7 : decode cX11_knotNumber 7 = .ok (.invokevirtual 55, 3) := by decide +kernel
theorem dX11_knotNumber_10 : decode cX11_knotNumber 10 = .ok (.goto 27, 3) := by decide +kernel
theorem dX11_knotNumber_13 : decode cX11_knotNumber 13 = .ok (.iload_n 3, 1) := by decide +kernel
theorem dX11_knotNumber_14 : decode cX11_knotNumber 14 = .ok (.iconst 1, 1) := by decide +kernel
theorem dX11_knotNumber_15 : decode cX11_knotNumber 15 = .ok (.if_icmp .ne 12, 3) := by decide +kernel
theorem dX11_knotNumber_18 : decode cX11_knotNumber 18 = .ok (.aload_n 0, 1) := by decide +kernel
theorem dX11_knotNumber_19 : decode cX11_knotNumber 19 = .ok (.iload_n 1, 1) := by decide +kernel
theorem dX11_knotNumber_20 : decode cX11_knotNumber 20 = .ok (.iload_n 2, 1) := by decide +kernel
theorem dX11_knotNumber_21 : decode cX11_knotNumber 21 = .ok (.invokevirtual 64, 3) := by decide +kernel
theorem dX11_knotNumber_24 : decode cX11_knotNumber 24 = .ok (.goto 13, 3) := by decide +kernel
theorem dX11_knotNumber_27 : decode cX11_knotNumber 27 = .ok (.aload_n 0, 1) := by decide +kernel
theorem dX11_knotNumber_28 : decode cX11_knotNumber 28 = .ok (.getfield 7, 3) := by decide +kernel
theorem dX11_knotNumber_31 : decode cX11_knotNumber 31 = .ok (.iload_n 1, 1) := by decide +kernel
theorem dX11_knotNumber_32 : decode cX11_knotNumber 32 = .ok (.iconst 3, 1) := by decide +kernel
theorem dX11_knotNumber_33 : decode cX11_knotNumber 33 = .ok (.iadd, 1) := by decide +kernel
theorem dX11_knotNumber_34 : decode cX11_knotNumber 34 = .ok (.iload_n 2, 1) := by decide +kernel
theorem dX11_knotNumber_35 : decode cX11_knotNumber 35 = .ok (.iadd, 1) := by decide +kernel
theorem dX11_knotNumber_36 : decode cX11_knotNumber 36 = .ok (.iaload, 1) := by decide +kernel
theorem dX11_knotNumber_37 : decode cX11_knotNumber 37 = .ok (.ireturn, 1) := by decide +kernel
theorem dX11_knot_0 : decode cX11_knot 0 = .ok (.aload_n 0, 1) := by decide +kernel
theorem dX11_knot_1 : decode cX11_knot 1 = .ok (.aload_n 0, 1) := by decide +kernel
theorem dX11_knot_2 : decode cX11_knot 2 = .ok (.iload_n 1, 1) := by decide +kernel
theorem dX11_knot_3 : decode cX11_knot 3 = .ok (.iload_n 2, 1) := by decide +kernel
theorem dX11_knot_4 : decode cX11_knot 4 = .ok (.invokevirtual 137, 3) := by decide +kernel
theorem dX11_knot_7 : decode cX11_knot 7 = .ok (.ifCond .ne 7, 3) := by decide +kernel
theorem dX11_knot_10 : decode cX11_knot 10 = .ok (.iconst 1, 1) := by decide +kernel
theorem dX11_knot_11 : decode cX11_knot 11 = .ok (.goto 28, 3) := by decide +kernel
theorem dX11_knot_14 : decode cX11_knot 14 = .ok (.iload_n 3, 1) := by decide +kernel
theorem dX11_knot_15 : decode cX11_knot 15 = .ok (.iconst 0, 1) := by decide +kernel
theorem dX11_knot_16 : decode cX11_knot 16 = .ok (.bipush 7, 2) := by decide +kernel
theorem dX11_knot_18 : decode cX11_knot 18 = .ok (.invokestatic 26, 3) := by decide +kernel
theorem dX11_knot_21 : decode cX11_knot 21 = .ok (.ifCond .eq 17, 3) := by decide +kernel
theorem dX11_knot_24 : decode cX11_knot 24 = .ok (.iload 4, 2) := by decide +kernel
theorem dX11_knot_26 : decode cX11_knot 26 = .ok (.iconst 0, 1) := by decide +kernel
theorem dX11_knot_27 : decode cX11_knot 27 = .ok (.iconst 2, 1) := by decide +kernel
theorem dX11_knot_28 : decode cX11_knot 28 = .ok (.invokestatic 26, 3) := by decide +kernel
theorem dX11_knot_31 : decode cX11_knot 31 = .ok (.ifCond .eq 7, 3) := by decide +kernel
theorem dX11_knot_34 : decode cX11_knot 34 = .ok (.iconst 0, 1) := by decide +kernel
theorem dX11_knot_35 : decode cX11_knot 35 = .ok (.goto 4, 3) := by decide +kernel
theorem dX11_knot_38 : decode cX11_knot 38 = .ok (.iconst 2, 1) := by decide +kernel
theorem dX11_knot_39 : decode cX11_knot 39 = .ok (.invokevirtual 131, 3) := by decide +kernel
theorem dX11_knot_42 : decode cX11_knot 42 = .ok (.ifCond .ne 5, 3) := by decide +kernel
theorem dX11_knot_45 : decode cX11_knot 45 = .ok (.iconst 0, 1) := by decide +kernel
theorem dX11_knot_46 : decode cX11_knot 46 = .ok (.ireturn, 1) := by decide +kernel
theorem dX11_knot_47 : decode cX11_knot 47 = .ok (.iload_n 1, 1) := by decide +kernel
theorem dX11_knot_48 : decode cX11_knot 48 = .ok (.iload_n 2, 1) := by decide +kernel
theorem dX11_knot_49 : decode cX11_knot 49 = .ok (.invokestatic 76, 3) := by decide +kernel
theorem dX11_knot_52 : decode cX11_knot 52 = .ok (.istore 5, 2) := by decide +kernel
theorem dX11_knot_54 : decode cX11_knot 54 = .ok (.iload_n 3, 1) := by decide +kernel
theorem dX11_knot_55 : decode cX11_knot 55 = .ok (.aload_n 0, 1) := by decide +kernel
theorem dX11_knot_56 : decode cX11_knot 56 = .ok (.iload 5, 2) := by decide +kernel
theorem dX11_knot_58 : decode cX11_knot 58 = .ok (.invokevirtual 58, 3) := by decide +kernel
theorem dX11_knot_61 : decode cX11_knot 61 = .ok (.if_icmp .ge 15, 3) := by decide +kernel
theorem dX11_knot_64 : decode cX11_knot 64 = .ok (.aload_n 0, 1) := by decide +kernel
theorem dX11_knot_65 : decode cX11_knot 65 = .ok (.iload 5, 2) := by decide +kernel
theorem dX11_knot_67 : decode cX11_knot 67 = .ok (.iload_n 3, 1) := by decide +kernel
theorem dX11_knot_68 : decode cX11_knot 68 = .ok (.iload 4, 2) := by decide +kernel
theorem dX11_knot_70 : decode cX11_knot 70 = .ok (.invokevirtual 229, 3) := by decide +kernel
theorem dX11_knot_73 : decode cX11_knot 73 = .ok (.goto 4, 3) := by decide +kernel
theorem dX11_knot_76 : decode cX11_knot 76 = .ok (.iconst (-1), 1) := by decide +kernel
theorem dX11_knot_77 : decode cX11_knot 77 = .ok (.ireturn, 1) := by decide +kernel
theorem dX11_storms_0 : decode cX11_storms 0 = .ok (.iconst 1, 1) := by decide +kernel
theorem dX11_storms_1 : decode cX11_storms 1 = .ok (.istore_n 2, 1) := by decide +kernel
theorem dX11_storms_2 : decode cX11_storms 2 = .ok (.iload_n 2, 1) := by decide +kernel
theorem dX11_storms_3 : decode cX11_storms 3 = .ok (.bipush 60, 2) := by decide +kernel
theorem dX11_storms_5 : decode cX11_storms 5 = .ok (.if_icmp .gt 113, 3) := by decide +kernel
theorem dX11_storms_8 : decode cX11_storms 8 = .ok (.iconst 0, 1) := by decide +kernel
theorem dX11_storms_9 : decode cX11_storms 9 = .ok (.istore_n 3, 1) := by decide +kernel
theorem dX11_storms_10 : decode cX11_storms 10 = .ok (.iconst 0, 1) := by decide +kernel
theorem dX11_storms_11 : decode cX11_storms 11 = .ok (.istore 4, 2) := by decide +kernel
theorem dX11_storms_13 : decode cX11_storms 13 = .ok (.iload 4, 2) := by decide +kernel
theorem dX11_storms_15 : decode cX11_storms 15 = .ok (.aload_n 0, 1) := by decide +kernel
theorem dX11_storms_16 : decode cX11_storms 16 = .ok (.iload_n 1, 1) := by decide +kernel
theorem dX11_storms_17 : decode cX11_storms 17 = .ok (.invokevirtual 58, 3) := by decide +kernel
theorem dX11_storms_20 : decode cX11_storms 20 = .ok (.if_icmp .ge 80, 3) := by decide +kernel
theorem dX11_storms_23 : decode cX11_storms 23 = .ok (.aload_n 0, 1) := by decide +kernel
theorem dX11_storms_24 : decode cX11_storms 24 = .ok (.getfield 7, 3) := by decide +kernel
theorem dX11_storms_27 : decode cX11_storms 27 = .ok (.iload_n 1, 1) := by decide +kernel
theorem dX11_storms_28 : decode cX11_storms 28 = .ok (.iconst 3, 1) := by decide +kernel
theorem dX11_storms_29 : decode cX11_storms 29 = .ok (.iadd, 1) := by decide +kernel
theorem dX11_storms_30 : decode cX11_storms 30 = .ok (.iload 4, 2) := by decide +kernel
theorem dX11_storms_32 : decode cX11_storms 32 = .ok (.iadd, 1) := by decide +kernel
theorem dX11_storms_33 : decode cX11_storms 33 = .ok (.iaload, 1) := by decide +kernel
theorem dX11_storms_34 : decode cX11_storms 34 = .ok (.istore 5, 2) := by decide +kernel
theorem dX11_storms_36 : decode cX11_storms 36 = .ok (.iconst 1, 1) := by decide +kernel
theorem dX11_storms_37 : decode cX11_storms 37 = .ok (.istore 6, 2) := by decide +kernel
theorem dX11_storms_39 : decode cX11_storms 39 = .ok (.iload 6, 2) := by decide +kernel
theorem dX11_storms_41 : decode cX11_storms 41 = .ok (.iload_n 2, 1) := by decide +kernel
theorem dX11_storms_42 : decode cX11_storms 42 = .ok (.if_icmp .gt 38, 3) := by decide +kernel
theorem dX11_storms_45 : decode cX11_storms 45 = .ok (.iload 5, 2) := by decide +kernel
theorem dX11_storms_47 : decode cX11_storms 47 = .ok (.aload_n 0, 1) := by decide +kernel
theorem dX11_storms_48 : decode cX11_storms 48 = .ok (.iload_n 1, 1) := by decide +kernel
theorem dX11_storms_49 : decode cX11_storms 49 = .ok (.iload 4, 2) := by decide +kernel
theorem dX11_storms_51 : decode cX11_storms 51 = .ok (.aload_n 0, 1) := by decide +kernel
theorem dX11_storms_52 : decode cX11_storms 52 = .ok (.getfield 7, 3) := by decide +kernel
theorem dX11_storms_55 : decode cX11_storms 55 = .ok (.iconst 0, 1) := by decide +kernel
theorem dX11_storms_56 : decode cX11_storms 56 = .ok (.iaload, 1) := by decide +kernel
theorem dX11_storms_57 : decode cX11_storms 57 = .ok (.iload 6, 2) := by decide +kernel
theorem dX11_storms_59 : decode cX11_storms 59 = .ok (.iadd, 1) := by decide +kernel
theorem dX11_storms_60 : decode cX11_storms 60 = .ok (.invokevirtual 111, 3) := by decide +kernel
theorem dX11_storms_63 : decode cX11_storms 63 = .ok (.ifCond .eq 7, 3) := by decide +kernel
theorem dX11_storms_66 : decode cX11_storms 66 = .ok (.iconst 1, 1) := by decide +kernel
theorem dX11_storms_67 : decode cX11_storms 67 = .ok (.goto 4, 3) := by decide +kernel
theorem dX11_storms_70 : decode cX11_storms 70 = .ok (.iconst 0, 1) := by decide +kernel
theorem dX11_storms_71 : decode cX11_storms 71 = .ok (.iadd, 1) := by decide +kernel
theorem dX11_storms_72 : decode cX11_storms 72 = .ok (.istore 5, 2) := by decide +kernel
theorem dX11_storms_74 : decode cX11_storms 74 = .ok (.iinc 6 1, 3) := by decide +kernel
theorem dX11_storms_77 : decode cX11_storms 77 = .ok (.goto (-38), 3) := by decide +kernel
theorem dX11_storms_80 : decode cX11_storms 80 = .ok (.iload_n 3, 1) := by decide +kernel
theorem dX11_storms_81 : decode cX11_storms 81 = .ok (.iload 5, 2) := by decide +kernel
theorem dX11_storms_83 : decode cX11_storms 83 = .ok (.iconst 1, 1) := by decide +kernel
theorem dX11_storms_84 : decode cX11_storms 84 = .ok (.if_icmp .le 7, 3) := by decide +kernel
theorem dX11_storms_87 : decode cX11_storms 87 = .ok (.iconst 1, 1) := by decide +kernel
theorem dX11_storms_88 : decode cX11_storms 88 = .ok (.goto 4, 3) := by decide +kernel
theorem dX11_storms_91 : decode cX11_storms 91 = .ok (.iconst 0, 1) := by decide +kernel
theorem dX11_storms_92 : decode cX11_storms 92 = .ok (.iadd, 1) := by decide +kernel
theorem dX11_storms_93 : decode cX11_storms 93 = .ok (.istore_n 3, 1) := by decide +kernel
theorem dX11_storms_94 : decode cX11_storms 94 = .ok (.iinc 4 1, 3) := by decide +kernel
theorem dX11_storms_97 : decode cX11_storms 97 = .ok (.goto (-84), 3) := by decide +kernel
theorem dX11_storms_100 : decode cX11_storms 100 = .ok (.iload_n 3, 1) := by decide +kernel
theorem dX11_storms_101 : decode cX11_storms 101 = .ok (.aload_n 0, 1) := by decide +kernel
theorem dX11_storms_102 : decode cX11_storms 102 = .ok (.getfield 7, 3) := by decide +kernel
theorem dX11_storms_105 : decode cX11_storms 105 = .ok (.iconst 5, 1) := by decide +kernel
theorem dX11_storms_106 : decode cX11_storms 106 = .ok (.iaload, 1) := by decide +kernel
theorem dX11_storms_107 : decode cX11_storms 107 = .ok (.if_icmp .le 5, 3) := by decide +kernel
theorem dX11_storms_110 : decode cX11_storms 110 = .ok (.iload_n 2, 1) := by decide +kernel
theorem dX11_storms_111 : decode cX11_storms 111 = .ok (.ireturn, 1) := by decide +kernel
theorem dX11_storms_112 : decode cX11_storms 112 = .ok (.iinc 2 1, 3) := by decide +kernel
theorem dX11_storms_115 : decode cX11_storms 115 = .ok (.goto (-113), 3) := by decide +kernel
theorem dX11_storms_118 : decode cX11_storms 118 = .ok (.iconst (-1), 1) := by decide +kernel
theorem dX11_storms_119 : decode cX11_storms 119 = .ok (.ireturn, 1) := by decide +kernel
theorem dX11_nameNumber_0 : decode cX11_nameNumber 0 = .ok (.iload_n 2, 1) := by decide +kernel
theorem dX11_nameNumber_1 : decode cX11_nameNumber 1 = .ok (.tableswitch 57 0 3 #[31, 37, 43, 50], 31) := by decide +kernel
theorem dX11_nameNumber_32 : decode cX11_nameNumber 32 = .ok (.aload_n 0, 1) := by decide +kernel
theorem dX11_nameNumber_33 : decode cX11_nameNumber 33 = .ok (.iload_n 1, 1) := by decide +kernel
theorem dX11_nameNumber_34 : decode cX11_nameNumber 34 = .ok (.invokevirtual 58, 3) := by decide +kernel
theorem dX11_nameNumber_37 : decode cX11_nameNumber 37 = .ok (.ireturn, 1) := by decide +kernel
theorem dX11_nameNumber_38 : decode cX11_nameNumber 38 = .ok (.aload_n 0, 1) := by decide +kernel
theorem dX11_nameNumber_39 : decode cX11_nameNumber 39 = .ok (.iload_n 1, 1) := by decide +kernel
theorem dX11_nameNumber_40 : decode cX11_nameNumber 40 = .ok (.invokevirtual 79, 3) := by decide +kernel
theorem dX11_nameNumber_43 : decode cX11_nameNumber 43 = .ok (.ireturn, 1) := by decide +kernel
theorem dX11_nameNumber_44 : decode cX11_nameNumber 44 = .ok (.aload_n 0, 1) := by decide +kernel
theorem dX11_nameNumber_45 : decode cX11_nameNumber 45 = .ok (.iload_n 1, 1) := by decide +kernel
theorem dX11_nameNumber_46 : decode cX11_nameNumber 46 = .ok (.iconst 1, 1) := by decide +kernel
theorem dX11_nameNumber_47 : decode cX11_nameNumber 47 = .ok (.invokevirtual 67, 3) := by decide +kernel
theorem dX11_nameNumber_50 : decode cX11_nameNumber 50 = .ok (.ireturn, 1) := by decide +kernel
theorem dX11_nameNumber_51 : decode cX11_nameNumber 51 = .ok (.aload_n 0, 1) := by decide +kernel
theorem dX11_nameNumber_52 : decode cX11_nameNumber 52 = .ok (.iload_n 1, 1) := by decide +kernel
theorem dX11_nameNumber_53 : decode cX11_nameNumber 53 = .ok (.iconst 2, 1) := by decide +kernel
theorem dX11_nameNumber_54 : decode cX11_nameNumber 54 = .ok (.invokevirtual 67, 3) := by decide +kernel
theorem dX11_nameNumber_57 : decode cX11_nameNumber 57 = .ok (.ireturn, 1) := by decide +kernel
theorem dX11_nameNumber_58 : decode cX11_nameNumber 58 = .ok (.aload_n 0, 1) := by decide +kernel
theorem dX11_nameNumber_59 : decode cX11_nameNumber 59 = .ok (.iload_n 1, 1) := by decide +kernel
theorem dX11_nameNumber_60 : decode cX11_nameNumber 60 = .ok (.invokevirtual 232, 3) := by decide +kernel
theorem dX11_nameNumber_63 : decode cX11_nameNumber 63 = .ok (.ireturn, 1) := by decide +kernel
theorem dX11_name_0 : decode cX11_name 0 = .ok (.aload_n 0, 1) := by decide +kernel
theorem dX11_name_1 : decode cX11_name 1 = .ok (.aload_n 0, 1) := by decide +kernel
theorem dX11_name_2 : decode cX11_name 2 = .ok (.iload_n 1, 1) := by decide +kernel
theorem dX11_name_3 : decode cX11_name 3 = .ok (.iload_n 2, 1) := by decide +kernel
theorem dX11_name_4 : decode cX11_name 4 = .ok (.invokevirtual 137, 3) := by decide +kernel
theorem dX11_name_7 : decode cX11_name 7 = .ok (.ifCond .ne 7, 3) := by decide +kernel
theorem dX11_name_10 : decode cX11_name 10 = .ok (.iconst 1, 1) := by decide +kernel
theorem dX11_name_11 : decode cX11_name 11 = .ok (.goto 17, 3) := by decide +kernel
theorem dX11_name_14 : decode cX11_name 14 = .ok (.iload_n 3, 1) := by decide +kernel
theorem dX11_name_15 : decode cX11_name 15 = .ok (.iconst 0, 1) := by decide +kernel
theorem dX11_name_16 : decode cX11_name 16 = .ok (.iconst 4, 1) := by decide +kernel
theorem dX11_name_17 : decode cX11_name 17 = .ok (.invokestatic 26, 3) := by decide +kernel
theorem dX11_name_20 : decode cX11_name 20 = .ok (.ifCond .eq 7, 3) := by decide +kernel
theorem dX11_name_23 : decode cX11_name 23 = .ok (.iconst 0, 1) := by decide +kernel
theorem dX11_name_24 : decode cX11_name 24 = .ok (.goto 4, 3) := by decide +kernel
theorem dX11_name_27 : decode cX11_name 27 = .ok (.iconst 2, 1) := by decide +kernel
theorem dX11_name_28 : decode cX11_name 28 = .ok (.invokevirtual 131, 3) := by decide +kernel
theorem dX11_name_31 : decode cX11_name 31 = .ok (.ifCond .eq 16, 3) := by decide +kernel
theorem dX11_name_34 : decode cX11_name 34 = .ok (.aload_n 0, 1) := by decide +kernel
theorem dX11_name_35 : decode cX11_name 35 = .ok (.iload_n 1, 1) := by decide +kernel
theorem dX11_name_36 : decode cX11_name 36 = .ok (.iload_n 2, 1) := by decide +kernel
theorem dX11_name_37 : decode cX11_name 37 = .ok (.invokestatic 76, 3) := by decide +kernel
theorem dX11_name_40 : decode cX11_name 40 = .ok (.iload_n 3, 1) := by decide +kernel
theorem dX11_name_41 : decode cX11_name 41 = .ok (.invokevirtual 235, 3) := by decide +kernel
theorem dX11_name_44 : decode cX11_name 44 = .ok (.goto 4, 3) := by decide +kernel
theorem dX11_name_47 : decode cX11_name 47 = .ok (.iconst 0, 1) := by decide +kernel
theorem dX11_name_48 : decode cX11_name 48 = .ok (.ireturn, 1) := by decide +kernel
theorem dX11_fisherNumber_0 : decode cX11_fisherNumber 0 = .ok (.iload_n 2, 1) := by decide +kernel
theorem dX11_fisherNumber_1 : decode cX11_fisherNumber 1 = .ok (.iconst 2, 1) := by decide +kernel
theorem dX11_fisherNumber_2 : decode cX11_fisherNumber 2 = .ok (.if_icmp .ne 11, 3) := by decide +kernel
theorem dX11_fisherNumber_5 : decode cX11_fisherNumber 5 = .ok (.aload_n 0, 1) := by decide +kernel
theorem dX11_fisherNumber_6 : decode cX11_fisherNumber 6 = .ok (.iload_n 1, 1) := by decide +kernel
theorem dX11_fisherNumber_7 : decode cX11_fisherNumber 7 = .ok (.invokevirtual 85, 3) := by decide +kernel
theorem dX11_fisherNumber_10 : decode cX11_fisherNumber 10 = .ok (.goto 20, 3) := by decide +kernel
theorem dX11_fisherNumber_13 : decode cX11_fisherNumber 13 = .ok (.aload_n 0, 1) := by decide +kernel
theorem dX11_fisherNumber_14 : decode cX11_fisherNumber 14 = .ok (.iload_n 1, 1) := by decide +kernel
theorem dX11_fisherNumber_15 : decode cX11_fisherNumber 15 = .ok (.iload_n 2, 1) := by decide +kernel
theorem dX11_fisherNumber_16 : decode cX11_fisherNumber 16 = .ok (.iconst 2, 1) := by decide +kernel
theorem dX11_fisherNumber_17 : decode cX11_fisherNumber 17 = .ok (.if_icmp .ge 7, 3) := by decide +kernel
theorem dX11_fisherNumber_20 : decode cX11_fisherNumber 20 = .ok (.iload_n 2, 1) := by decide +kernel
theorem dX11_fisherNumber_21 : decode cX11_fisherNumber 21 = .ok (.goto 6, 3) := by decide +kernel
theorem dX11_fisherNumber_24 : decode cX11_fisherNumber 24 = .ok (.iload_n 2, 1) := by decide +kernel
theorem dX11_fisherNumber_25 : decode cX11_fisherNumber 25 = .ok (.iconst 1, 1) := by decide +kernel
theorem dX11_fisherNumber_26 : decode cX11_fisherNumber 26 = .ok (.isub, 1) := by decide +kernel
theorem dX11_fisherNumber_27 : decode cX11_fisherNumber 27 = .ok (.invokevirtual 34, 3) := by decide +kernel
theorem dX11_fisherNumber_30 : decode cX11_fisherNumber 30 = .ok (.ireturn, 1) := by decide +kernel
theorem dX11_fisher_0 : decode cX11_fisher 0 = .ok (.aload_n 0, 1) := by decide +kernel
theorem dX11_fisher_1 : decode cX11_fisher 1 = .ok (.iload_n 1, 1) := by decide +kernel
theorem dX11_fisher_2 : decode cX11_fisher 2 = .ok (.invokestatic 30, 3) := by decide +kernel
theorem dX11_fisher_5 : decode cX11_fisher 5 = .ok (.ifCond .ne 7, 3) := by decide +kernel
theorem dX11_fisher_8 : decode cX11_fisher 8 = .ok (.iconst 1, 1) := by decide +kernel
theorem dX11_fisher_9 : decode cX11_fisher 9 = .ok (.goto 17, 3) := by decide +kernel
theorem dX11_fisher_12 : decode cX11_fisher 12 = .ok (.iload_n 2, 1) := by decide +kernel
theorem dX11_fisher_13 : decode cX11_fisher 13 = .ok (.iconst 0, 1) := by decide +kernel
theorem dX11_fisher_14 : decode cX11_fisher 14 = .ok (.iconst 4, 1) := by decide +kernel
theorem dX11_fisher_15 : decode cX11_fisher 15 = .ok (.invokestatic 26, 3) := by decide +kernel
theorem dX11_fisher_18 : decode cX11_fisher 18 = .ok (.ifCond .eq 7, 3) := by decide +kernel
theorem dX11_fisher_21 : decode cX11_fisher 21 = .ok (.iconst 0, 1) := by decide +kernel
theorem dX11_fisher_22 : decode cX11_fisher 22 = .ok (.goto 4, 3) := by decide +kernel
theorem dX11_fisher_25 : decode cX11_fisher 25 = .ok (.iconst 2, 1) := by decide +kernel
theorem dX11_fisher_26 : decode cX11_fisher 26 = .ok (.invokevirtual 131, 3) := by decide +kernel
theorem dX11_fisher_29 : decode cX11_fisher 29 = .ok (.ifCond .eq 12, 3) := by decide +kernel
theorem dX11_fisher_32 : decode cX11_fisher 32 = .ok (.aload_n 0, 1) := by decide +kernel
theorem dX11_fisher_33 : decode cX11_fisher 33 = .ok (.iload_n 1, 1) := by decide +kernel
theorem dX11_fisher_34 : decode cX11_fisher 34 = .ok (.iload_n 2, 1) := by decide +kernel
theorem dX11_fisher_35 : decode cX11_fisher 35 = .ok (.invokevirtual 238, 3) := by decide +kernel
theorem dX11_fisher_38 : decode cX11_fisher 38 = .ok (.goto 4, 3) := by decide +kernel
theorem dX11_fisher_41 : decode cX11_fisher 41 = .ok (.iconst 0, 1) := by decide +kernel
theorem dX11_fisher_42 : decode cX11_fisher 42 = .ok (.ireturn, 1) := by decide +kernel
theorem dX11_entryNumber_0 : decode cX11_entryNumber 0 = .ok (.aload_n 0, 1) := by decide +kernel
theorem dX11_entryNumber_1 : decode cX11_entryNumber 1 = .ok (.getfield 7, 3) := by decide +kernel
theorem dX11_entryNumber_4 : decode cX11_entryNumber 4 = .ok (.sipush 358, 3) := by decide +kernel
theorem dX11_entryNumber_7 : decode cX11_entryNumber 7 = .ok (.iconst 4, 1) := by decide +kernel
theorem dX11_entryNumber_8 : decode cX11_entryNumber 8 = .ok (.iload_n 1, 1) := by decide +kernel
theorem dX11_entryNumber_9 : decode cX11_entryNumber 9 = .ok (.imul, 1) := by decide +kernel
theorem dX11_entryNumber_10 : decode cX11_entryNumber 10 = .ok (.iadd, 1) := by decide +kernel
theorem dX11_entryNumber_11 : decode cX11_entryNumber 11 = .ok (.iload_n 2, 1) := by decide +kernel
theorem dX11_entryNumber_12 : decode cX11_entryNumber 12 = .ok (.iadd, 1) := by decide +kernel
theorem dX11_entryNumber_13 : decode cX11_entryNumber 13 = .ok (.iaload, 1) := by decide +kernel
theorem dX11_entryNumber_14 : decode cX11_entryNumber 14 = .ok (.istore_n 3, 1) := by decide +kernel
theorem dX11_entryNumber_15 : decode cX11_entryNumber 15 = .ok (.iload_n 2, 1) := by decide +kernel
theorem dX11_entryNumber_16 : decode cX11_entryNumber 16 = .ok (.iconst 3, 1) := by decide +kernel
theorem dX11_entryNumber_17 : decode cX11_entryNumber 17 = .ok (.if_icmp .ne 11, 3) := by decide +kernel
theorem dX11_entryNumber_20 : decode cX11_entryNumber 20 = .ok (.iload_n 3, 1) := by decide +kernel
theorem dX11_entryNumber_21 : decode cX11_entryNumber 21 = .ok (.iconst 0, 1) := by decide +kernel
theorem dX11_entryNumber_22 : decode cX11_entryNumber 22 = .ok (.invokestatic 49, 3) := by decide +kernel
theorem dX11_entryNumber_25 : decode cX11_entryNumber 25 = .ok (.goto 4, 3) := by decide +kernel
theorem dX11_entryNumber_28 : decode cX11_entryNumber 28 = .ok (.iload_n 3, 1) := by decide +kernel
theorem dX11_entryNumber_29 : decode cX11_entryNumber 29 = .ok (.ireturn, 1) := by decide +kernel
theorem dX11_drowned_0 : decode cX11_drowned 0 = .ok (.aload_n 0, 1) := by decide +kernel
theorem dX11_drowned_1 : decode cX11_drowned 1 = .ok (.iload_n 1, 1) := by decide +kernel
theorem dX11_drowned_2 : decode cX11_drowned 2 = .ok (.ifCond .lt 12, 3) := by decide +kernel
theorem dX11_drowned_5 : decode cX11_drowned 5 = .ok (.iload_n 2, 1) := by decide +kernel
theorem dX11_drowned_6 : decode cX11_drowned 6 = .ok (.iconst 0, 1) := by decide +kernel
theorem dX11_drowned_7 : decode cX11_drowned 7 = .ok (.iconst 3, 1) := by decide +kernel
theorem dX11_drowned_8 : decode cX11_drowned 8 = .ok (.invokestatic 26, 3) := by decide +kernel
theorem dX11_drowned_11 : decode cX11_drowned 11 = .ok (.ifCond .ne 7, 3) := by decide +kernel
theorem dX11_drowned_14 : decode cX11_drowned 14 = .ok (.iconst 1, 1) := by decide +kernel
theorem dX11_drowned_15 : decode cX11_drowned 15 = .ok (.goto 4, 3) := by decide +kernel
theorem dX11_drowned_18 : decode cX11_drowned 18 = .ok (.iconst 0, 1) := by decide +kernel
theorem dX11_drowned_19 : decode cX11_drowned 19 = .ok (.invokevirtual 131, 3) := by decide +kernel
theorem dX11_drowned_22 : decode cX11_drowned 22 = .ok (.ifCond .ne 5, 3) := by decide +kernel
theorem dX11_drowned_25 : decode cX11_drowned 25 = .ok (.iconst 0, 1) := by decide +kernel
theorem dX11_drowned_26 : decode cX11_drowned 26 = .ok (.ireturn, 1) := by decide +kernel
theorem dX11_drowned_27 : decode cX11_drowned 27 = .ok (.iload_n 1, 1) := by decide +kernel
theorem dX11_drowned_28 : decode cX11_drowned 28 = .ok (.aload_n 0, 1) := by decide +kernel
theorem dX11_drowned_29 : decode cX11_drowned 29 = .ok (.getfield 7, 3) := by decide +kernel
theorem dX11_drowned_32 : decode cX11_drowned 32 = .ok (.iconst 1, 1) := by decide +kernel
theorem dX11_drowned_33 : decode cX11_drowned 33 = .ok (.iaload, 1) := by decide +kernel
theorem dX11_drowned_34 : decode cX11_drowned 34 = .ok (.if_icmp .ge 12, 3) := by decide +kernel
theorem dX11_drowned_37 : decode cX11_drowned 37 = .ok (.aload_n 0, 1) := by decide +kernel
theorem dX11_drowned_38 : decode cX11_drowned 38 = .ok (.iload_n 1, 1) := by decide +kernel
theorem dX11_drowned_39 : decode cX11_drowned 39 = .ok (.iload_n 2, 1) := by decide +kernel
theorem dX11_drowned_40 : decode cX11_drowned 40 = .ok (.invokevirtual 241, 3) := by decide +kernel
theorem dX11_drowned_43 : decode cX11_drowned 43 = .ok (.goto 4, 3) := by decide +kernel
theorem dX11_drowned_46 : decode cX11_drowned 46 = .ok (.iconst (-1), 1) := by decide +kernel
theorem dX11_drowned_47 : decode cX11_drowned 47 = .ok (.ireturn, 1) := by decide +kernel
theorem dX11_find_0 : decode cX11_find 0 = .ok (.aload_n 0, 1) := by decide +kernel
theorem dX11_find_1 : decode cX11_find 1 = .ok (.aload_n 0, 1) := by decide +kernel
theorem dX11_find_2 : decode cX11_find 2 = .ok (.iconst 0, 1) := by decide +kernel
theorem dX11_find_3 : decode cX11_find 3 = .ok (.aload_n 0, 1) := by decide +kernel
theorem dX11_find_4 : decode cX11_find 4 = .ok (.getfield 124, 3) := by decide +kernel
theorem dX11_find_7 : decode cX11_find 7 = .ok (.invokevirtual 127, 3) := by decide +kernel
theorem dX11_find_10 : decode cX11_find 10 = .ok (.ifCond .eq 7, 3) := by decide +kernel
theorem dX11_find_13 : decode cX11_find 13 = .ok (.iconst 0, 1) := by decide +kernel
theorem dX11_find_14 : decode cX11_find 14 = .ok (.goto 4, 3) := by decide +kernel
theorem dX11_find_17 : decode cX11_find 17 = .ok (.iconst 1, 1) := by decide +kernel
theorem dX11_find_18 : decode cX11_find 18 = .ok (.invokevirtual 131, 3) := by decide +kernel
theorem dX11_find_21 : decode cX11_find 21 = .ok (.ifCond .ne 5, 3) := by decide +kernel
theorem dX11_find_24 : decode cX11_find 24 = .ok (.iconst 0, 1) := by decide +kernel
theorem dX11_find_25 : decode cX11_find 25 = .ok (.ireturn, 1) := by decide +kernel
theorem dX11_find_26 : decode cX11_find 26 = .ok (.iconst (-1), 1) := by decide +kernel
theorem dX11_find_27 : decode cX11_find 27 = .ok (.istore_n 1, 1) := by decide +kernel
theorem dX11_find_28 : decode cX11_find 28 = .ok (.iconst 0, 1) := by decide +kernel
theorem dX11_find_29 : decode cX11_find 29 = .ok (.istore_n 2, 1) := by decide +kernel
theorem dX11_find_30 : decode cX11_find 30 = .ok (.iload_n 2, 1) := by decide +kernel
theorem dX11_find_31 : decode cX11_find 31 = .ok (.aload_n 0, 1) := by decide +kernel
theorem dX11_find_32 : decode cX11_find 32 = .ok (.getfield 7, 3) := by decide +kernel
theorem dX11_find_35 : decode cX11_find 35 = .ok (.iconst 1, 1) := by decide +kernel
theorem dX11_find_36 : decode cX11_find 36 = .ok (.iaload, 1) := by decide +kernel
theorem dX11_find_37 : decode cX11_find 37 = .ok (.if_icmp .ge 51, 3) := by decide +kernel
theorem dX11_find_40 : decode cX11_find 40 = .ok (.sipush 358, 3) := by decide +kernel
theorem dX11_find_43 : decode cX11_find 43 = .ok (.iconst 4, 1) := by decide +kernel
theorem dX11_find_44 : decode cX11_find 44 = .ok (.iload_n 2, 1) := by decide +kernel
theorem dX11_find_45 : decode cX11_find 45 = .ok (.imul, 1) := by decide +kernel
theorem dX11_find_46 : decode cX11_find 46 = .ok (.iadd, 1) := by decide +kernel
theorem dX11_find_47 : decode cX11_find 47 = .ok (.istore_n 3, 1) := by decide +kernel
theorem dX11_find_48 : decode cX11_find 48 = .ok (.aload_n 0, 1) := by decide +kernel
theorem dX11_find_49 : decode cX11_find 49 = .ok (.getfield 7, 3) := by decide +kernel
theorem dX11_find_52 : decode cX11_find 52 = .ok (.iload_n 3, 1) := by decide +kernel
theorem dX11_find_53 : decode cX11_find 53 = .ok (.iaload, 1) := by decide +kernel
theorem dX11_find_54 : decode cX11_find 54 = .ok (.aload_n 0, 1) := by decide +kernel
theorem dX11_find_55 : decode cX11_find 55 = .ok (.getfield 121, 3) := by decide +kernel
theorem dX11_find_58 : decode cX11_find 58 = .ok (.if_icmp .ne 22, 3) := by decide +kernel
theorem dX11_find_61 : decode cX11_find 61 = .ok (.aload_n 0, 1) := by decide +kernel
theorem dX11_find_62 : decode cX11_find 62 = .ok (.getfield 7, 3) := by decide +kernel
theorem dX11_find_65 : decode cX11_find 65 = .ok (.iload_n 3, 1) := by decide +kernel
theorem dX11_find_66 : decode cX11_find 66 = .ok (.iconst 3, 1) := by decide +kernel
theorem dX11_find_67 : decode cX11_find 67 = .ok (.iadd, 1) := by decide +kernel
theorem dX11_find_68 : decode cX11_find 68 = .ok (.iaload, 1) := by decide +kernel
theorem dX11_find_69 : decode cX11_find 69 = .ok (.aload_n 0, 1) := by decide +kernel
theorem dX11_find_70 : decode cX11_find 70 = .ok (.getfield 118, 3) := by decide +kernel
theorem dX11_find_73 : decode cX11_find 73 = .ok (.if_icmp .ne 7, 3) := by decide +kernel
theorem dX11_find_76 : decode cX11_find 76 = .ok (.iload_n 2, 1) := by decide +kernel
theorem dX11_find_77 : decode cX11_find 77 = .ok (.goto 4, 3) := by decide +kernel
theorem dX11_find_80 : decode cX11_find 80 = .ok (.iload_n 1, 1) := by decide +kernel
theorem dX11_find_81 : decode cX11_find 81 = .ok (.istore_n 1, 1) := by decide +kernel
theorem dX11_find_82 : decode cX11_find 82 = .ok (.iinc 2 1, 3) := by decide +kernel
theorem dX11_find_85 : decode cX11_find 85 = .ok (.goto (-55), 3) := by decide +kernel
theorem dX11_find_88 : decode cX11_find 88 = .ok (.iload_n 1, 1) := by decide +kernel
theorem dX11_find_89 : decode cX11_find 89 = .ok (.ireturn, 1) := by decide +kernel
theorem dX11_allLoosened_0 : decode cX11_allLoosened 0 = .ok (.iconst 0, 1) := by decide +kernel
theorem dX11_allLoosened_1 : decode cX11_allLoosened 1 = .ok (.istore_n 2, 1) := by decide +kernel
theorem dX11_allLoosened_2 : decode cX11_allLoosened 2 = .ok (.iconst 0, 1) := by decide +kernel
theorem dX11_allLoosened_3 : decode cX11_allLoosened 3 = .ok (.istore_n 3, 1) := by decide +kernel
theorem dX11_allLoosened_4 : decode cX11_allLoosened 4 = .ok (.iload_n 3, 1) := by decide +kernel
theorem dX11_allLoosened_5 : decode cX11_allLoosened 5 = .ok (.iconst 5, 1) := by decide +kernel
theorem dX11_allLoosened_6 : decode cX11_allLoosened 6 = .ok (.if_icmp .ge 43, 3) := by decide +kernel
theorem dX11_allLoosened_9 : decode cX11_allLoosened 9 = .ok (.iconst 0, 1) := by decide +kernel
theorem dX11_allLoosened_10 : decode cX11_allLoosened 10 = .ok (.istore 4, 2) := by decide +kernel
theorem dX11_allLoosened_12 : decode cX11_allLoosened 12 = .ok (.iload 4, 2) := by decide +kernel
theorem dX11_allLoosened_14 : decode cX11_allLoosened 14 = .ok (.aload_n 0, 1) := by decide +kernel
theorem dX11_allLoosened_15 : decode cX11_allLoosened 15 = .ok (.iload_n 3, 1) := by decide +kernel
theorem dX11_allLoosened_16 : decode cX11_allLoosened 16 = .ok (.iconst 1, 1) := by decide +kernel
theorem dX11_allLoosened_17 : decode cX11_allLoosened 17 = .ok (.invokevirtual 34, 3) := by decide +kernel
theorem dX11_allLoosened_20 : decode cX11_allLoosened 20 = .ok (.if_icmp .ge 23, 3) := by decide +kernel
theorem dX11_allLoosened_23 : decode cX11_allLoosened 23 = .ok (.iload_n 2, 1) := by decide +kernel
theorem dX11_allLoosened_24 : decode cX11_allLoosened 24 = .ok (.aload_n 0, 1) := by decide +kernel
theorem dX11_allLoosened_25 : decode cX11_allLoosened 25 = .ok (.iload_n 3, 1) := by decide +kernel
theorem dX11_allLoosened_26 : decode cX11_allLoosened 26 = .ok (.iload 4, 2) := by decide +kernel
theorem dX11_allLoosened_28 : decode cX11_allLoosened 28 = .ok (.invokestatic 76, 3) := by decide +kernel
theorem dX11_allLoosened_31 : decode cX11_allLoosened 31 = .ok (.iload_n 1, 1) := by decide +kernel
theorem dX11_allLoosened_32 : decode cX11_allLoosened 32 = .ok (.invokevirtual 67, 3) := by decide +kernel
theorem dX11_allLoosened_35 : decode cX11_allLoosened 35 = .ok (.iadd, 1) := by decide +kernel
theorem dX11_allLoosened_36 : decode cX11_allLoosened 36 = .ok (.istore_n 2, 1) := by decide +kernel
theorem dX11_allLoosened_37 : decode cX11_allLoosened 37 = .ok (.iinc 4 1, 3) := by decide +kernel
theorem dX11_allLoosened_40 : decode cX11_allLoosened 40 = .ok (.goto (-28), 3) := by decide +kernel
theorem dX11_allLoosened_43 : decode cX11_allLoosened 43 = .ok (.iinc 3 1, 3) := by decide +kernel
theorem dX11_allLoosened_46 : decode cX11_allLoosened 46 = .ok (.goto (-42), 3) := by decide +kernel
theorem dX11_allLoosened_49 : decode cX11_allLoosened 49 = .ok (.iload_n 2, 1) := by decide +kernel
theorem dX11_allLoosened_50 : decode cX11_allLoosened 50 = .ok (.ireturn, 1) := by decide +kernel
theorem dX11_allKnots_0 : decode cX11_allKnots 0 = .ok (.iconst 0, 1) := by decide +kernel
theorem dX11_allKnots_1 : decode cX11_allKnots 1 = .ok (.istore_n 1, 1) := by decide +kernel
theorem dX11_allKnots_2 : decode cX11_allKnots 2 = .ok (.iconst 0, 1) := by decide +kernel
theorem dX11_allKnots_3 : decode cX11_allKnots 3 = .ok (.istore_n 2, 1) := by decide +kernel
theorem dX11_allKnots_4 : decode cX11_allKnots 4 = .ok (.iload_n 2, 1) := by decide +kernel
theorem dX11_allKnots_5 : decode cX11_allKnots 5 = .ok (.bipush 16, 2) := by decide +kernel
theorem dX11_allKnots_7 : decode cX11_allKnots 7 = .ok (.if_icmp .ge 18, 3) := by decide +kernel
theorem dX11_allKnots_10 : decode cX11_allKnots 10 = .ok (.iload_n 1, 1) := by decide +kernel
theorem dX11_allKnots_11 : decode cX11_allKnots 11 = .ok (.aload_n 0, 1) := by decide +kernel
theorem dX11_allKnots_12 : decode cX11_allKnots 12 = .ok (.iload_n 2, 1) := by decide +kernel
theorem dX11_allKnots_13 : decode cX11_allKnots 13 = .ok (.iconst 0, 1) := by decide +kernel
theorem dX11_allKnots_14 : decode cX11_allKnots 14 = .ok (.invokevirtual 222, 3) := by decide +kernel
theorem dX11_allKnots_17 : decode cX11_allKnots 17 = .ok (.iadd, 1) := by decide +kernel
theorem dX11_allKnots_18 : decode cX11_allKnots 18 = .ok (.istore_n 1, 1) := by decide +kernel
theorem dX11_allKnots_19 : decode cX11_allKnots 19 = .ok (.iinc 2 1, 3) := by decide +kernel
theorem dX11_allKnots_22 : decode cX11_allKnots 22 = .ok (.goto (-18), 3) := by decide +kernel
theorem dX11_allKnots_25 : decode cX11_allKnots 25 = .ok (.iload_n 1, 1) := by decide +kernel
theorem dX11_allKnots_26 : decode cX11_allKnots 26 = .ok (.ireturn, 1) := by decide +kernel
theorem dX11_cordByLetters_0 : decode cX11_cordByLetters 0 = .ok (.iconst 2, 1) := by decide +kernel
theorem dX11_cordByLetters_1 : decode cX11_cordByLetters 1 = .ok (.aload_n 0, 1) := by decide +kernel
theorem dX11_cordByLetters_2 : decode cX11_cordByLetters 2 = .ok (.iconst 1, 1) := by decide +kernel
theorem dX11_cordByLetters_3 : decode cX11_cordByLetters 3 = .ok (.invokevirtual 219, 3) := by decide +kernel
theorem dX11_cordByLetters_6 : decode cX11_cordByLetters 6 = .ok (.imul, 1) := by decide +kernel
theorem dX11_cordByLetters_7 : decode cX11_cordByLetters 7 = .ok (.istore_n 1, 1) := by decide +kernel
theorem dX11_cordByLetters_8 : decode cX11_cordByLetters 8 = .ok (.iconst 0, 1) := by decide +kernel
theorem dX11_cordByLetters_9 : decode cX11_cordByLetters 9 = .ok (.istore_n 2, 1) := by decide +kernel
theorem dX11_cordByLetters_10 : decode cX11_cordByLetters 10 = .ok (.iload_n 2, 1) := by decide +kernel
theorem dX11_cordByLetters_11 : decode cX11_cordByLetters 11 = .ok (.bipush 16, 2) := by decide +kernel
theorem dX11_cordByLetters_13 : decode cX11_cordByLetters 13 = .ok (.if_icmp .ge 25, 3) := by decide +kernel
theorem dX11_cordByLetters_16 : decode cX11_cordByLetters 16 = .ok (.iload_n 1, 1) := by decide +kernel
theorem dX11_cordByLetters_17 : decode cX11_cordByLetters 17 = .ok (.aload_n 0, 1) := by decide +kernel
theorem dX11_cordByLetters_18 : decode cX11_cordByLetters 18 = .ok (.iload_n 2, 1) := by decide +kernel
theorem dX11_cordByLetters_19 : decode cX11_cordByLetters 19 = .ok (.iconst 0, 1) := by decide +kernel
theorem dX11_cordByLetters_20 : decode cX11_cordByLetters 20 = .ok (.invokevirtual 222, 3) := by decide +kernel
theorem dX11_cordByLetters_23 : decode cX11_cordByLetters 23 = .ok (.iload_n 2, 1) := by decide +kernel
theorem dX11_cordByLetters_24 : decode cX11_cordByLetters 24 = .ok (.invokestatic 52, 3) := by decide +kernel
theorem dX11_cordByLetters_27 : decode cX11_cordByLetters 27 = .ok (.iconst 1, 1) := by decide +kernel
theorem dX11_cordByLetters_28 : decode cX11_cordByLetters 28 = .ok (.iadd, 1) := by decide +kernel
theorem dX11_cordByLetters_29 : decode cX11_cordByLetters 29 = .ok (.imul, 1) := by decide +kernel
theorem dX11_cordByLetters_30 : decode cX11_cordByLetters 30 = .ok (.iadd, 1) := by decide +kernel
theorem dX11_cordByLetters_31 : decode cX11_cordByLetters 31 = .ok (.istore_n 1, 1) := by decide +kernel
theorem dX11_cordByLetters_32 : decode cX11_cordByLetters 32 = .ok (.iinc 2 1, 3) := by decide +kernel
theorem dX11_cordByLetters_35 : decode cX11_cordByLetters 35 = .ok (.goto (-25), 3) := by decide +kernel
theorem dX11_cordByLetters_38 : decode cX11_cordByLetters 38 = .ok (.iload_n 1, 1) := by decide +kernel
theorem dX11_cordByLetters_39 : decode cX11_cordByLetters 39 = .ok (.ireturn, 1) := by decide +kernel
theorem dX11_cordByNames_0 : decode cX11_cordByNames 0 = .ok (.iconst 0, 1) := by decide +kernel
theorem dX11_cordByNames_1 : decode cX11_cordByNames 1 = .ok (.istore_n 1, 1) := by decide +kernel
theorem dX11_cordByNames_2 : decode cX11_cordByNames 2 = .ok (.iconst 0, 1) := by decide +kernel
theorem dX11_cordByNames_3 : decode cX11_cordByNames 3 = .ok (.istore_n 2, 1) := by decide +kernel
theorem dX11_cordByNames_4 : decode cX11_cordByNames 4 = .ok (.iload_n 2, 1) := by decide +kernel
theorem dX11_cordByNames_5 : decode cX11_cordByNames 5 = .ok (.iconst 5, 1) := by decide +kernel
theorem dX11_cordByNames_6 : decode cX11_cordByNames 6 = .ok (.if_icmp .ge 17, 3) := by decide +kernel
theorem dX11_cordByNames_9 : decode cX11_cordByNames 9 = .ok (.iload_n 1, 1) := by decide +kernel
theorem dX11_cordByNames_10 : decode cX11_cordByNames 10 = .ok (.aload_n 0, 1) := by decide +kernel
theorem dX11_cordByNames_11 : decode cX11_cordByNames 11 = .ok (.iload_n 2, 1) := by decide +kernel
theorem dX11_cordByNames_12 : decode cX11_cordByNames 12 = .ok (.invokevirtual 82, 3) := by decide +kernel
theorem dX11_cordByNames_15 : decode cX11_cordByNames 15 = .ok (.iadd, 1) := by decide +kernel
theorem dX11_cordByNames_16 : decode cX11_cordByNames 16 = .ok (.istore_n 1, 1) := by decide +kernel
theorem dX11_cordByNames_17 : decode cX11_cordByNames 17 = .ok (.iinc 2 1, 3) := by decide +kernel
theorem dX11_cordByNames_20 : decode cX11_cordByNames 20 = .ok (.goto (-16), 3) := by decide +kernel
theorem dX11_cordByNames_23 : decode cX11_cordByNames 23 = .ok (.iload_n 1, 1) := by decide +kernel
theorem dX11_cordByNames_24 : decode cX11_cordByNames 24 = .ok (.ireturn, 1) := by decide +kernel
theorem dX11_hasCommon_0 : decode cX11_hasCommon 0 = .ok (.iconst 0, 1) := by decide +kernel
theorem dX11_hasCommon_1 : decode cX11_hasCommon 1 = .ok (.istore_n 3, 1) := by decide +kernel
theorem dX11_hasCommon_2 : decode cX11_hasCommon 2 = .ok (.iconst 0, 1) := by decide +kernel
theorem dX11_hasCommon_3 : decode cX11_hasCommon 3 = .ok (.istore 4, 2) := by decide +kernel
theorem dX11_hasCommon_5 : decode cX11_hasCommon 5 = .ok (.iload 4, 2) := by decide +kernel
theorem dX11_hasCommon_7 : decode cX11_hasCommon 7 = .ok (.aload_n 0, 1) := by decide +kernel
theorem dX11_hasCommon_8 : decode cX11_hasCommon 8 = .ok (.iload_n 1, 1) := by decide +kernel
theorem dX11_hasCommon_9 : decode cX11_hasCommon 9 = .ok (.iconst 1, 1) := by decide +kernel
theorem dX11_hasCommon_10 : decode cX11_hasCommon 10 = .ok (.invokevirtual 34, 3) := by decide +kernel
theorem dX11_hasCommon_13 : decode cX11_hasCommon 13 = .ok (.if_icmp .ge 58, 3) := by decide +kernel
theorem dX11_hasCommon_16 : decode cX11_hasCommon 16 = .ok (.iconst 0, 1) := by decide +kernel
theorem dX11_hasCommon_17 : decode cX11_hasCommon 17 = .ok (.istore 5, 2) := by decide +kernel
theorem dX11_hasCommon_19 : decode cX11_hasCommon 19 = .ok (.iload 5, 2) := by decide +kernel
theorem dX11_hasCommon_21 : decode cX11_hasCommon 21 = .ok (.aload_n 0, 1) := by decide +kernel
theorem dX11_hasCommon_22 : decode cX11_hasCommon 22 = .ok (.iload_n 2, 1) := by decide +kernel
theorem dX11_hasCommon_23 : decode cX11_hasCommon 23 = .ok (.iconst 1, 1) := by decide +kernel
theorem dX11_hasCommon_24 : decode cX11_hasCommon 24 = .ok (.invokevirtual 34, 3) := by decide +kernel
theorem dX11_hasCommon_27 : decode cX11_hasCommon 27 = .ok (.if_icmp .ge 38, 3) := by decide +kernel
theorem dX11_hasCommon_30 : decode cX11_hasCommon 30 = .ok (.iload_n 3, 1) := by decide +kernel
theorem dX11_hasCommon_31 : decode cX11_hasCommon 31 = .ok (.ifCond .ne 22, 3) := by decide +kernel
theorem dX11_hasCommon_34 : decode cX11_hasCommon 34 = .ok (.aload_n 0, 1) := by decide +kernel
theorem dX11_hasCommon_35 : decode cX11_hasCommon 35 = .ok (.iload_n 1, 1) := by decide +kernel
theorem dX11_hasCommon_36 : decode cX11_hasCommon 36 = .ok (.iload 4, 2) := by decide +kernel
theorem dX11_hasCommon_38 : decode cX11_hasCommon 38 = .ok (.invokestatic 76, 3) := by decide +kernel
theorem dX11_hasCommon_41 : decode cX11_hasCommon 41 = .ok (.iload_n 2, 1) := by decide +kernel
theorem dX11_hasCommon_42 : decode cX11_hasCommon 42 = .ok (.iload 5, 2) := by decide +kernel
theorem dX11_hasCommon_44 : decode cX11_hasCommon 44 = .ok (.invokestatic 76, 3) := by decide +kernel
theorem dX11_hasCommon_47 : decode cX11_hasCommon 47 = .ok (.invokevirtual 244, 3) := by decide +kernel
theorem dX11_hasCommon_50 : decode cX11_hasCommon 50 = .ok (.ifCond .eq 7, 3) := by decide +kernel
theorem dX11_hasCommon_53 : decode cX11_hasCommon 53 = .ok (.iconst 1, 1) := by decide +kernel
theorem dX11_hasCommon_54 : decode cX11_hasCommon 54 = .ok (.goto 4, 3) := by decide +kernel
theorem dX11_hasCommon_57 : decode cX11_hasCommon 57 = .ok (.iconst 0, 1) := by decide +kernel
theorem dX11_hasCommon_58 : decode cX11_hasCommon 58 = .ok (.istore_n 3, 1) := by decide +kernel
theorem dX11_hasCommon_59 : decode cX11_hasCommon 59 = .ok (.iinc 5 1, 3) := by decide +kernel
theorem dX11_hasCommon_62 : decode cX11_hasCommon 62 = .ok (.goto (-43), 3) := by decide +kernel
theorem dX11_hasCommon_65 : decode cX11_hasCommon 65 = .ok (.iinc 4 1, 3) := by decide +kernel
theorem dX11_hasCommon_68 : decode cX11_hasCommon 68 = .ok (.goto (-63), 3) := by decide +kernel
theorem dX11_hasCommon_71 : decode cX11_hasCommon 71 = .ok (.iload_n 3, 1) := by decide +kernel
theorem dX11_hasCommon_72 : decode cX11_hasCommon 72 = .ok (.ireturn, 1) := by decide +kernel
theorem dX11_withCommon_0 : decode cX11_withCommon 0 = .ok (.iconst 0, 1) := by decide +kernel
theorem dX11_withCommon_1 : decode cX11_withCommon 1 = .ok (.istore_n 1, 1) := by decide +kernel
theorem dX11_withCommon_2 : decode cX11_withCommon 2 = .ok (.iconst 0, 1) := by decide +kernel
theorem dX11_withCommon_3 : decode cX11_withCommon 3 = .ok (.istore_n 2, 1) := by decide +kernel
theorem dX11_withCommon_4 : decode cX11_withCommon 4 = .ok (.iload_n 2, 1) := by decide +kernel
theorem dX11_withCommon_5 : decode cX11_withCommon 5 = .ok (.iconst 5, 1) := by decide +kernel
theorem dX11_withCommon_6 : decode cX11_withCommon 6 = .ok (.if_icmp .ge 46, 3) := by decide +kernel
theorem dX11_withCommon_9 : decode cX11_withCommon 9 = .ok (.iconst 0, 1) := by decide +kernel
theorem dX11_withCommon_10 : decode cX11_withCommon 10 = .ok (.istore_n 3, 1) := by decide +kernel
theorem dX11_withCommon_11 : decode cX11_withCommon 11 = .ok (.iload_n 3, 1) := by decide +kernel
theorem dX11_withCommon_12 : decode cX11_withCommon 12 = .ok (.iconst 5, 1) := by decide +kernel
theorem dX11_withCommon_13 : decode cX11_withCommon 13 = .ok (.if_icmp .ge 33, 3) := by decide +kernel
theorem dX11_withCommon_16 : decode cX11_withCommon 16 = .ok (.iload_n 1, 1) := by decide +kernel
theorem dX11_withCommon_17 : decode cX11_withCommon 17 = .ok (.iload_n 2, 1) := by decide +kernel
theorem dX11_withCommon_18 : decode cX11_withCommon 18 = .ok (.iload_n 3, 1) := by decide +kernel
theorem dX11_withCommon_19 : decode cX11_withCommon 19 = .ok (.if_icmp .eq 18, 3) := by decide +kernel
theorem dX11_withCommon_22 : decode cX11_withCommon 22 = .ok (.aload_n 0, 1) := by decide +kernel
theorem dX11_withCommon_23 : decode cX11_withCommon 23 = .ok (.iload_n 2, 1) := by decide +kernel
theorem dX11_withCommon_24 : decode cX11_withCommon 24 = .ok (.iload_n 3, 1) := by decide +kernel
theorem dX11_withCommon_25 : decode cX11_withCommon 25 = .ok (.invokevirtual 247, 3) := by decide +kernel
theorem dX11_withCommon_28 : decode cX11_withCommon 28 = .ok (.ifCond .eq 9, 3) := by decide +kernel
theorem dX11_withCommon_31 : decode cX11_withCommon 31 = .ok (.iconst 1, 1) := by decide +kernel
theorem dX11_withCommon_32 : decode cX11_withCommon 32 = .ok (.iload_n 2, 1) := by decide +kernel
theorem dX11_withCommon_33 : decode cX11_withCommon 33 = .ok (.ishl, 1) := by decide +kernel
theorem dX11_withCommon_34 : decode cX11_withCommon 34 = .ok (.goto 4, 3) := by decide +kernel
theorem dX11_withCommon_37 : decode cX11_withCommon 37 = .ok (.iconst 0, 1) := by decide +kernel
theorem dX11_withCommon_38 : decode cX11_withCommon 38 = .ok (.ior, 1) := by decide +kernel
theorem dX11_withCommon_39 : decode cX11_withCommon 39 = .ok (.istore_n 1, 1) := by decide +kernel
theorem dX11_withCommon_40 : decode cX11_withCommon 40 = .ok (.iinc 3 1, 3) := by decide +kernel
theorem dX11_withCommon_43 : decode cX11_withCommon 43 = .ok (.goto (-32), 3) := by decide +kernel
theorem dX11_withCommon_46 : decode cX11_withCommon 46 = .ok (.iinc 2 1, 3) := by decide +kernel
theorem dX11_withCommon_49 : decode cX11_withCommon 49 = .ok (.goto (-45), 3) := by decide +kernel
theorem dX11_withCommon_52 : decode cX11_withCommon 52 = .ok (.iload_n 1, 1) := by decide +kernel
theorem dX11_withCommon_53 : decode cX11_withCommon 53 = .ok (.ireturn, 1) := by decide +kernel
theorem dX11_countNumber_0 : decode cX11_countNumber 0 = .ok (.iload_n 1, 1) := by decide +kernel
theorem dX11_countNumber_1 : decode cX11_countNumber 1 = .ok (.tableswitch 143 0 13 #[71, 77, 84, 89, 94, 101, 107, 114, 120, 126, 133, 143, 143, 138], 71) := by decide +kernel
theorem dX11_countNumber_72 : decode cX11_countNumber 72 = .ok (.aload_n 0, 1) := by decide +kernel
theorem dX11_countNumber_73 : decode cX11_countNumber 73 = .ok (.iconst 1, 1) := by decide +kernel
theorem dX11_countNumber_74 : decode cX11_countNumber 74 = .ok (.invokevirtual 219, 3) := by decide +kernel
theorem dX11_countNumber_77 : decode cX11_countNumber 77 = .ok (.ireturn, 1) := by decide +kernel
theorem dX11_countNumber_78 : decode cX11_countNumber 78 = .ok (.aload_n 0, 1) := by decide +kernel
theorem dX11_countNumber_79 : decode cX11_countNumber 79 = .ok (.getfield 7, 3) := by decide +kernel
theorem dX11_countNumber_82 : decode cX11_countNumber 82 = .ok (.iconst 0, 1) := by decide +kernel
theorem dX11_countNumber_83 : decode cX11_countNumber 83 = .ok (.iaload, 1) := by decide +kernel
theorem dX11_countNumber_84 : decode cX11_countNumber 84 = .ok (.ireturn, 1) := by decide +kernel
theorem dX11_countNumber_85 : decode cX11_countNumber 85 = .ok (.aload_n 0, 1) := by decide +kernel
theorem dX11_countNumber_86 : decode cX11_countNumber 86 = .ok (.invokevirtual 250, 3) := by decide +kernel
theorem dX11_countNumber_89 : decode cX11_countNumber 89 = .ok (.ireturn, 1) := by decide +kernel
theorem dX11_countNumber_90 : decode cX11_countNumber 90 = .ok (.aload_n 0, 1) := by decide +kernel
theorem dX11_countNumber_91 : decode cX11_countNumber 91 = .ok (.invokevirtual 253, 3) := by decide +kernel
theorem dX11_countNumber_94 : decode cX11_countNumber 94 = .ok (.ireturn, 1) := by decide +kernel
theorem dX11_countNumber_95 : decode cX11_countNumber 95 = .ok (.aload_n 0, 1) := by decide +kernel
theorem dX11_countNumber_96 : decode cX11_countNumber 96 = .ok (.getfield 7, 3) := by decide +kernel
theorem dX11_countNumber_99 : decode cX11_countNumber 99 = .ok (.iconst 3, 1) := by decide +kernel
theorem dX11_countNumber_100 : decode cX11_countNumber 100 = .ok (.iaload, 1) := by decide +kernel
theorem dX11_countNumber_101 : decode cX11_countNumber 101 = .ok (.ireturn, 1) := by decide +kernel
theorem dX11_countNumber_102 : decode cX11_countNumber 102 = .ok (.aload_n 0, 1) := by decide +kernel
theorem dX11_countNumber_103 : decode cX11_countNumber 103 = .ok (.iconst 1, 1) := by decide +kernel
theorem dX11_countNumber_104 : decode cX11_countNumber 104 = .ok (.invokevirtual 256, 3) := by decide +kernel
theorem dX11_countNumber_107 : decode cX11_countNumber 107 = .ok (.ireturn, 1) := by decide +kernel
theorem dX11_countNumber_108 : decode cX11_countNumber 108 = .ok (.aload_n 0, 1) := by decide +kernel
theorem dX11_countNumber_109 : decode cX11_countNumber 109 = .ok (.getfield 7, 3) := by decide +kernel
theorem dX11_countNumber_112 : decode cX11_countNumber 112 = .ok (.iconst 1, 1) := by decide +kernel
theorem dX11_countNumber_113 : decode cX11_countNumber 113 = .ok (.iaload, 1) := by decide +kernel
theorem dX11_countNumber_114 : decode cX11_countNumber 114 = .ok (.ireturn, 1) := by decide +kernel
theorem dX11_countNumber_115 : decode cX11_countNumber 115 = .ok (.aload_n 0, 1) := by decide +kernel
theorem dX11_countNumber_116 : decode cX11_countNumber 116 = .ok (.iconst 2, 1) := by decide +kernel
theorem dX11_countNumber_117 : decode cX11_countNumber 117 = .ok (.invokevirtual 219, 3) := by decide +kernel
theorem dX11_countNumber_120 : decode cX11_countNumber 120 = .ok (.ireturn, 1) := by decide +kernel
theorem dX11_countNumber_121 : decode cX11_countNumber 121 = .ok (.aload_n 0, 1) := by decide +kernel
theorem dX11_countNumber_122 : decode cX11_countNumber 122 = .ok (.iconst 3, 1) := by decide +kernel
theorem dX11_countNumber_123 : decode cX11_countNumber 123 = .ok (.invokevirtual 219, 3) := by decide +kernel
theorem dX11_countNumber_126 : decode cX11_countNumber 126 = .ok (.ireturn, 1) := by decide +kernel
theorem dX11_countNumber_127 : decode cX11_countNumber 127 = .ok (.aload_n 0, 1) := by decide +kernel
theorem dX11_countNumber_128 : decode cX11_countNumber 128 = .ok (.getfield 7, 3) := by decide +kernel
theorem dX11_countNumber_131 : decode cX11_countNumber 131 = .ok (.iconst 2, 1) := by decide +kernel
theorem dX11_countNumber_132 : decode cX11_countNumber 132 = .ok (.iaload, 1) := by decide +kernel
theorem dX11_countNumber_133 : decode cX11_countNumber 133 = .ok (.ireturn, 1) := by decide +kernel
theorem dX11_countNumber_134 : decode cX11_countNumber 134 = .ok (.aload_n 0, 1) := by decide +kernel
theorem dX11_countNumber_135 : decode cX11_countNumber 135 = .ok (.invokevirtual 259, 3) := by decide +kernel
theorem dX11_countNumber_138 : decode cX11_countNumber 138 = .ok (.ireturn, 1) := by decide +kernel
theorem dX11_countNumber_139 : decode cX11_countNumber 139 = .ok (.aload_n 0, 1) := by decide +kernel
theorem dX11_countNumber_140 : decode cX11_countNumber 140 = .ok (.getfield 38, 3) := by decide +kernel
theorem dX11_countNumber_143 : decode cX11_countNumber 143 = .ok (.ireturn, 1) := by decide +kernel
theorem dX11_countNumber_144 : decode cX11_countNumber 144 = .ok (.aload_n 0, 1) := by decide +kernel
theorem dX11_countNumber_145 : decode cX11_countNumber 145 = .ok (.getfield 7, 3) := by decide +kernel
theorem dX11_countNumber_148 : decode cX11_countNumber 148 = .ok (.iconst 4, 1) := by decide +kernel
theorem dX11_countNumber_149 : decode cX11_countNumber 149 = .ok (.iload_n 1, 1) := by decide +kernel
theorem dX11_countNumber_150 : decode cX11_countNumber 150 = .ok (.iadd, 1) := by decide +kernel
theorem dX11_countNumber_151 : decode cX11_countNumber 151 = .ok (.bipush 11, 2) := by decide +kernel
theorem dX11_countNumber_153 : decode cX11_countNumber 153 = .ok (.isub, 1) := by decide +kernel
theorem dX11_countNumber_154 : decode cX11_countNumber 154 = .ok (.iaload, 1) := by decide +kernel
theorem dX11_countNumber_155 : decode cX11_countNumber 155 = .ok (.ireturn, 1) := by decide +kernel
theorem dX11_count_0 : decode cX11_count 0 = .ok (.aload_n 0, 1) := by decide +kernel
theorem dX11_count_1 : decode cX11_count 1 = .ok (.iload_n 1, 1) := by decide +kernel
theorem dX11_count_2 : decode cX11_count 2 = .ok (.iconst 0, 1) := by decide +kernel
theorem dX11_count_3 : decode cX11_count 3 = .ok (.bipush 13, 2) := by decide +kernel
theorem dX11_count_5 : decode cX11_count 5 = .ok (.invokestatic 26, 3) := by decide +kernel
theorem dX11_count_8 : decode cX11_count 8 = .ok (.ifCond .eq 7, 3) := by decide +kernel
theorem dX11_count_11 : decode cX11_count 11 = .ok (.iconst 0, 1) := by decide +kernel
theorem dX11_count_12 : decode cX11_count 12 = .ok (.goto 4, 3) := by decide +kernel
theorem dX11_count_15 : decode cX11_count 15 = .ok (.iconst 1, 1) := by decide +kernel
theorem dX11_count_16 : decode cX11_count 16 = .ok (.invokevirtual 131, 3) := by decide +kernel
theorem dX11_count_19 : decode cX11_count 19 = .ok (.ifCond .eq 11, 3) := by decide +kernel
theorem dX11_count_22 : decode cX11_count 22 = .ok (.aload_n 0, 1) := by decide +kernel
theorem dX11_count_23 : decode cX11_count 23 = .ok (.iload_n 1, 1) := by decide +kernel
theorem dX11_count_24 : decode cX11_count 24 = .ok (.invokevirtual 262, 3) := by decide +kernel
theorem dX11_count_27 : decode cX11_count 27 = .ok (.goto 4, 3) := by decide +kernel
theorem dX11_count_30 : decode cX11_count 30 = .ok (.iconst 0, 1) := by decide +kernel
theorem dX11_count_31 : decode cX11_count 31 = .ok (.ireturn, 1) := by decide +kernel
theorem dX11_whyNot_0 : decode cX11_whyNot 0 = .ok (.aload_n 0, 1) := by decide +kernel
theorem dX11_whyNot_1 : decode cX11_whyNot 1 = .ok (.iconst 0, 1) := by decide +kernel
theorem dX11_whyNot_2 : decode cX11_whyNot 2 = .ok (.aload_n 0, 1) := by decide +kernel
theorem dX11_whyNot_3 : decode cX11_whyNot 3 = .ok (.getfield 124, 3) := by decide +kernel
theorem dX11_whyNot_6 : decode cX11_whyNot 6 = .ok (.invokevirtual 127, 3) := by decide +kernel
theorem dX11_whyNot_9 : decode cX11_whyNot 9 = .ok (.istore_n 2, 1) := by decide +kernel
theorem dX11_whyNot_10 : decode cX11_whyNot 10 = .ok (.aload_n 0, 1) := by decide +kernel
theorem dX11_whyNot_11 : decode cX11_whyNot 11 = .ok (.iload_n 1, 1) := by decide +kernel
theorem dX11_whyNot_12 : decode cX11_whyNot 12 = .ok (.invokestatic 30, 3) := by decide +kernel
theorem dX11_whyNot_15 : decode cX11_whyNot 15 = .ok (.ifCond .ne 7, 3) := by decide +kernel
theorem dX11_whyNot_18 : decode cX11_whyNot 18 = .ok (.iconst 1, 1) := by decide +kernel
theorem dX11_whyNot_19 : decode cX11_whyNot 19 = .ok (.goto 12, 3) := by decide +kernel
theorem dX11_whyNot_22 : decode cX11_whyNot 22 = .ok (.iload_n 2, 1) := by decide +kernel
theorem dX11_whyNot_23 : decode cX11_whyNot 23 = .ok (.ifCond .eq 7, 3) := by decide +kernel
theorem dX11_whyNot_26 : decode cX11_whyNot 26 = .ok (.iconst 0, 1) := by decide +kernel
theorem dX11_whyNot_27 : decode cX11_whyNot 27 = .ok (.goto 4, 3) := by decide +kernel
theorem dX11_whyNot_30 : decode cX11_whyNot 30 = .ok (.iconst 2, 1) := by decide +kernel
theorem dX11_whyNot_31 : decode cX11_whyNot 31 = .ok (.invokevirtual 131, 3) := by decide +kernel
theorem dX11_whyNot_34 : decode cX11_whyNot 34 = .ok (.ifCond .eq 19, 3) := by decide +kernel
theorem dX11_whyNot_37 : decode cX11_whyNot 37 = .ok (.aload_n 0, 1) := by decide +kernel
theorem dX11_whyNot_38 : decode cX11_whyNot 38 = .ok (.iload_n 1, 1) := by decide +kernel
theorem dX11_whyNot_39 : decode cX11_whyNot 39 = .ok (.aload_n 0, 1) := by decide +kernel
theorem dX11_whyNot_40 : decode cX11_whyNot 40 = .ok (.getfield 118, 3) := by decide +kernel
theorem dX11_whyNot_43 : decode cX11_whyNot 43 = .ok (.aload_n 0, 1) := by decide +kernel
theorem dX11_whyNot_44 : decode cX11_whyNot 44 = .ok (.getfield 121, 3) := by decide +kernel
theorem dX11_whyNot_47 : decode cX11_whyNot 47 = .ok (.invokevirtual 95, 3) := by decide +kernel
theorem dX11_whyNot_50 : decode cX11_whyNot 50 = .ok (.goto 4, 3) := by decide +kernel
theorem dX11_whyNot_53 : decode cX11_whyNot 53 = .ok (.iconst 0, 1) := by decide +kernel
theorem dX11_whyNot_54 : decode cX11_whyNot 54 = .ok (.ireturn, 1) := by decide +kernel
theorem dX11_noGift_0 : decode cX11_noGift 0 = .ok (.aload_n 0, 1) := by decide +kernel
theorem dX11_noGift_1 : decode cX11_noGift 1 = .ok (.aload_n 0, 1) := by decide +kernel
theorem dX11_noGift_2 : decode cX11_noGift 2 = .ok (.iload_n 1, 1) := by decide +kernel
theorem dX11_noGift_3 : decode cX11_noGift 3 = .ok (.iload_n 2, 1) := by decide +kernel
theorem dX11_noGift_4 : decode cX11_noGift 4 = .ok (.invokevirtual 137, 3) := by decide +kernel
theorem dX11_noGift_7 : decode cX11_noGift 7 = .ok (.ifCond .eq 14, 3) := by decide +kernel
theorem dX11_noGift_10 : decode cX11_noGift 10 = .ok (.iload_n 3, 1) := by decide +kernel
theorem dX11_noGift_11 : decode cX11_noGift 11 = .ok (.invokestatic 30, 3) := by decide +kernel
theorem dX11_noGift_14 : decode cX11_noGift 14 = .ok (.ifCond .eq 7, 3) := by decide +kernel
theorem dX11_noGift_17 : decode cX11_noGift 17 = .ok (.iconst 0, 1) := by decide +kernel
theorem dX11_noGift_18 : decode cX11_noGift 18 = .ok (.goto 4, 3) := by decide +kernel
theorem dX11_noGift_21 : decode cX11_noGift 21 = .ok (.iconst 1, 1) := by decide +kernel
theorem dX11_noGift_22 : decode cX11_noGift 22 = .ok (.invokevirtual 131, 3) := by decide +kernel
theorem dX11_noGift_25 : decode cX11_noGift 25 = .ok (.ifCond .eq 13, 3) := by decide +kernel
theorem dX11_noGift_28 : decode cX11_noGift 28 = .ok (.aload_n 0, 1) := by decide +kernel
theorem dX11_noGift_29 : decode cX11_noGift 29 = .ok (.iload_n 1, 1) := by decide +kernel
theorem dX11_noGift_30 : decode cX11_noGift 30 = .ok (.iload_n 2, 1) := by decide +kernel
theorem dX11_noGift_31 : decode cX11_noGift 31 = .ok (.iload_n 3, 1) := by decide +kernel
theorem dX11_noGift_32 : decode cX11_noGift 32 = .ok (.invokevirtual 146, 3) := by decide +kernel
theorem dX11_noGift_35 : decode cX11_noGift 35 = .ok (.goto 4, 3) := by decide +kernel
theorem dX11_noGift_38 : decode cX11_noGift 38 = .ok (.iconst 0, 1) := by decide +kernel
theorem dX11_noGift_39 : decode cX11_noGift 39 = .ok (.ireturn, 1) := by decide +kernel
theorem dX11_stormNumber_0 : decode cX11_stormNumber 0 = .ok (.iconst 0, 1) := by decide +kernel
theorem dX11_stormNumber_1 : decode cX11_stormNumber 1 = .ok (.istore_n 3, 1) := by decide +kernel
theorem dX11_stormNumber_2 : decode cX11_stormNumber 2 = .ok (.iconst 0, 1) := by decide +kernel
theorem dX11_stormNumber_3 : decode cX11_stormNumber 3 = .ok (.istore 4, 2) := by decide +kernel
theorem dX11_stormNumber_5 : decode cX11_stormNumber 5 = .ok (.iload 4, 2) := by decide +kernel
theorem dX11_stormNumber_7 : decode cX11_stormNumber 7 = .ok (.aload_n 0, 1) := by decide +kernel
theorem dX11_stormNumber_8 : decode cX11_stormNumber 8 = .ok (.iload_n 1, 1) := by decide +kernel
theorem dX11_stormNumber_9 : decode cX11_stormNumber 9 = .ok (.iconst 1, 1) := by decide +kernel
theorem dX11_stormNumber_10 : decode cX11_stormNumber 10 = .ok (.invokevirtual 34, 3) := by decide +kernel
theorem dX11_stormNumber_13 : decode cX11_stormNumber 13 = .ok (.if_icmp .ge 132, 3) := by decide +kernel
theorem dX11_stormNumber_16 : decode cX11_stormNumber 16 = .ok (.iload_n 1, 1) := by decide +kernel
theorem dX11_stormNumber_17 : decode cX11_stormNumber 17 = .ok (.iload 4, 2) := by decide +kernel
theorem dX11_stormNumber_19 : decode cX11_stormNumber 19 = .ok (.invokestatic 76, 3) := by decide +kernel
theorem dX11_stormNumber_22 : decode cX11_stormNumber 22 = .ok (.istore 5, 2) := by decide +kernel
theorem dX11_stormNumber_24 : decode cX11_stormNumber 24 = .ok (.iconst 0, 1) := by decide +kernel
theorem dX11_stormNumber_25 : decode cX11_stormNumber 25 = .ok (.istore 6, 2) := by decide +kernel
theorem dX11_stormNumber_27 : decode cX11_stormNumber 27 = .ok (.iconst 0, 1) := by decide +kernel
theorem dX11_stormNumber_28 : decode cX11_stormNumber 28 = .ok (.istore 7, 2) := by decide +kernel
theorem dX11_stormNumber_30 : decode cX11_stormNumber 30 = .ok (.iload 7, 2) := by decide +kernel
theorem dX11_stormNumber_32 : decode cX11_stormNumber 32 = .ok (.aload_n 0, 1) := by decide +kernel
theorem dX11_stormNumber_33 : decode cX11_stormNumber 33 = .ok (.iload 5, 2) := by decide +kernel
theorem dX11_stormNumber_35 : decode cX11_stormNumber 35 = .ok (.invokevirtual 58, 3) := by decide +kernel
theorem dX11_stormNumber_38 : decode cX11_stormNumber 38 = .ok (.if_icmp .ge 78, 3) := by decide +kernel
theorem dX11_stormNumber_41 : decode cX11_stormNumber 41 = .ok (.aload_n 0, 1) := by decide +kernel
theorem dX11_stormNumber_42 : decode cX11_stormNumber 42 = .ok (.iload 5, 2) := by decide +kernel
theorem dX11_stormNumber_44 : decode cX11_stormNumber 44 = .ok (.iload 7, 2) := by decide +kernel
theorem dX11_stormNumber_46 : decode cX11_stormNumber 46 = .ok (.aload_n 0, 1) := by decide +kernel
theorem dX11_stormNumber_47 : decode cX11_stormNumber 47 = .ok (.getfield 7, 3) := by decide +kernel
theorem dX11_stormNumber_50 : decode cX11_stormNumber 50 = .ok (.iconst 0, 1) := by decide +kernel
theorem dX11_stormNumber_51 : decode cX11_stormNumber 51 = .ok (.iaload, 1) := by decide +kernel
theorem dX11_stormNumber_52 : decode cX11_stormNumber 52 = .ok (.iconst 1, 1) := by decide +kernel
theorem dX11_stormNumber_53 : decode cX11_stormNumber 53 = .ok (.iadd, 1) := by decide +kernel
theorem dX11_stormNumber_54 : decode cX11_stormNumber 54 = .ok (.invokevirtual 111, 3) := by decide +kernel
theorem dX11_stormNumber_57 : decode cX11_stormNumber 57 = .ok (.ifCond .eq 7, 3) := by decide +kernel
theorem dX11_stormNumber_60 : decode cX11_stormNumber 60 = .ok (.iconst 1, 1) := by decide +kernel
theorem dX11_stormNumber_61 : decode cX11_stormNumber 61 = .ok (.goto 4, 3) := by decide +kernel
theorem dX11_stormNumber_64 : decode cX11_stormNumber 64 = .ok (.iconst 0, 1) := by decide +kernel
theorem dX11_stormNumber_65 : decode cX11_stormNumber 65 = .ok (.istore 8, 2) := by decide +kernel
theorem dX11_stormNumber_67 : decode cX11_stormNumber 67 = .ok (.iload_n 3, 1) := by decide +kernel
theorem dX11_stormNumber_68 : decode cX11_stormNumber 68 = .ok (.iload_n 2, 1) := by decide +kernel
theorem dX11_stormNumber_69 : decode cX11_stormNumber 69 = .ok (.iconst 1, 1) := by decide +kernel
theorem dX11_stormNumber_70 : decode cX11_stormNumber 70 = .ok (.if_icmp .ne 8, 3) := by decide +kernel
theorem dX11_stormNumber_73 : decode cX11_stormNumber 73 = .ok (.iload 8, 2) := by decide +kernel
theorem dX11_stormNumber_75 : decode cX11_stormNumber 75 = .ok (.goto 4, 3) := by decide +kernel
theorem dX11_stormNumber_78 : decode cX11_stormNumber 78 = .ok (.iconst 0, 1) := by decide +kernel
theorem dX11_stormNumber_79 : decode cX11_stormNumber 79 = .ok (.iadd, 1) := by decide +kernel
theorem dX11_stormNumber_80 : decode cX11_stormNumber 80 = .ok (.istore_n 3, 1) := by decide +kernel
theorem dX11_stormNumber_81 : decode cX11_stormNumber 81 = .ok (.iload 6, 2) := by decide +kernel
theorem dX11_stormNumber_83 : decode cX11_stormNumber 83 = .ok (.aload_n 0, 1) := by decide +kernel
theorem dX11_stormNumber_84 : decode cX11_stormNumber 84 = .ok (.getfield 7, 3) := by decide +kernel
theorem dX11_stormNumber_87 : decode cX11_stormNumber 87 = .ok (.iload 5, 2) := by decide +kernel
theorem dX11_stormNumber_89 : decode cX11_stormNumber 89 = .ok (.iconst 3, 1) := by decide +kernel
theorem dX11_stormNumber_90 : decode cX11_stormNumber 90 = .ok (.iadd, 1) := by decide +kernel
theorem dX11_stormNumber_91 : decode cX11_stormNumber 91 = .ok (.iload 7, 2) := by decide +kernel
theorem dX11_stormNumber_93 : decode cX11_stormNumber 93 = .ok (.iadd, 1) := by decide +kernel
theorem dX11_stormNumber_94 : decode cX11_stormNumber 94 = .ok (.iaload, 1) := by decide +kernel
theorem dX11_stormNumber_95 : decode cX11_stormNumber 95 = .ok (.iload 8, 2) := by decide +kernel
theorem dX11_stormNumber_97 : decode cX11_stormNumber 97 = .ok (.iadd, 1) := by decide +kernel
theorem dX11_stormNumber_98 : decode cX11_stormNumber 98 = .ok (.iconst 1, 1) := by decide +kernel
theorem dX11_stormNumber_99 : decode cX11_stormNumber 99 = .ok (.if_icmp .le 7, 3) := by decide +kernel
theorem dX11_stormNumber_102 : decode cX11_stormNumber 102 = .ok (.iconst 1, 1) := by decide +kernel
theorem dX11_stormNumber_103 : decode cX11_stormNumber 103 = .ok (.goto 4, 3) := by decide +kernel
theorem dX11_stormNumber_106 : decode cX11_stormNumber 106 = .ok (.iconst 0, 1) := by decide +kernel
theorem dX11_stormNumber_107 : decode cX11_stormNumber 107 = .ok (.iadd, 1) := by decide +kernel
theorem dX11_stormNumber_108 : decode cX11_stormNumber 108 = .ok (.istore 6, 2) := by decide +kernel
theorem dX11_stormNumber_110 : decode cX11_stormNumber 110 = .ok (.iinc 7 1, 3) := by decide +kernel
theorem dX11_stormNumber_113 : decode cX11_stormNumber 113 = .ok (.goto (-83), 3) := by decide +kernel
theorem dX11_stormNumber_116 : decode cX11_stormNumber 116 = .ok (.iload_n 3, 1) := by decide +kernel
theorem dX11_stormNumber_117 : decode cX11_stormNumber 117 = .ok (.iload_n 2, 1) := by decide +kernel
theorem dX11_stormNumber_118 : decode cX11_stormNumber 118 = .ok (.ifCond .ne 18, 3) := by decide +kernel
theorem dX11_stormNumber_121 : decode cX11_stormNumber 121 = .ok (.iload 6, 2) := by decide +kernel
theorem dX11_stormNumber_123 : decode cX11_stormNumber 123 = .ok (.aload_n 0, 1) := by decide +kernel
theorem dX11_stormNumber_124 : decode cX11_stormNumber 124 = .ok (.getfield 7, 3) := by decide +kernel
theorem dX11_stormNumber_127 : decode cX11_stormNumber 127 = .ok (.iconst 5, 1) := by decide +kernel
theorem dX11_stormNumber_128 : decode cX11_stormNumber 128 = .ok (.iaload, 1) := by decide +kernel
theorem dX11_stormNumber_129 : decode cX11_stormNumber 129 = .ok (.if_icmp .le 7, 3) := by decide +kernel
theorem dX11_stormNumber_132 : decode cX11_stormNumber 132 = .ok (.iconst 1, 1) := by decide +kernel
theorem dX11_stormNumber_133 : decode cX11_stormNumber 133 = .ok (.goto 4, 3) := by decide +kernel
theorem dX11_stormNumber_136 : decode cX11_stormNumber 136 = .ok (.iconst 0, 1) := by decide +kernel
theorem dX11_stormNumber_137 : decode cX11_stormNumber 137 = .ok (.iadd, 1) := by decide +kernel
theorem dX11_stormNumber_138 : decode cX11_stormNumber 138 = .ok (.istore_n 3, 1) := by decide +kernel
theorem dX11_stormNumber_139 : decode cX11_stormNumber 139 = .ok (.iinc 4 1, 3) := by decide +kernel
theorem dX11_stormNumber_142 : decode cX11_stormNumber 142 = .ok (.goto (-137), 3) := by decide +kernel
theorem dX11_stormNumber_145 : decode cX11_stormNumber 145 = .ok (.iload_n 3, 1) := by decide +kernel
theorem dX11_stormNumber_146 : decode cX11_stormNumber 146 = .ok (.ireturn, 1) := by decide +kernel
theorem dX11_ifStorm_0 : decode cX11_ifStorm 0 = .ok (.aload_n 0, 1) := by decide +kernel
theorem dX11_ifStorm_1 : decode cX11_ifStorm 1 = .ok (.iload_n 1, 1) := by decide +kernel
theorem dX11_ifStorm_2 : decode cX11_ifStorm 2 = .ok (.invokestatic 30, 3) := by decide +kernel
theorem dX11_ifStorm_5 : decode cX11_ifStorm 5 = .ok (.ifCond .ne 7, 3) := by decide +kernel
theorem dX11_ifStorm_8 : decode cX11_ifStorm 8 = .ok (.iconst 1, 1) := by decide +kernel
theorem dX11_ifStorm_9 : decode cX11_ifStorm 9 = .ok (.goto 17, 3) := by decide +kernel
theorem dX11_ifStorm_12 : decode cX11_ifStorm 12 = .ok (.iload_n 2, 1) := by decide +kernel
theorem dX11_ifStorm_13 : decode cX11_ifStorm 13 = .ok (.iconst 0, 1) := by decide +kernel
theorem dX11_ifStorm_14 : decode cX11_ifStorm 14 = .ok (.iconst 1, 1) := by decide +kernel
theorem dX11_ifStorm_15 : decode cX11_ifStorm 15 = .ok (.invokestatic 26, 3) := by decide +kernel
theorem dX11_ifStorm_18 : decode cX11_ifStorm 18 = .ok (.ifCond .eq 7, 3) := by decide +kernel
theorem dX11_ifStorm_21 : decode cX11_ifStorm 21 = .ok (.iconst 0, 1) := by decide +kernel
theorem dX11_ifStorm_22 : decode cX11_ifStorm 22 = .ok (.goto 4, 3) := by decide +kernel
theorem dX11_ifStorm_25 : decode cX11_ifStorm 25 = .ok (.iconst 2, 1) := by decide +kernel
theorem dX11_ifStorm_26 : decode cX11_ifStorm 26 = .ok (.invokevirtual 131, 3) := by decide +kernel
theorem dX11_ifStorm_29 : decode cX11_ifStorm 29 = .ok (.ifCond .eq 12, 3) := by decide +kernel
theorem dX11_ifStorm_32 : decode cX11_ifStorm 32 = .ok (.aload_n 0, 1) := by decide +kernel
theorem dX11_ifStorm_33 : decode cX11_ifStorm 33 = .ok (.iload_n 1, 1) := by decide +kernel
theorem dX11_ifStorm_34 : decode cX11_ifStorm 34 = .ok (.iload_n 2, 1) := by decide +kernel
theorem dX11_ifStorm_35 : decode cX11_ifStorm 35 = .ok (.invokevirtual 265, 3) := by decide +kernel
theorem dX11_ifStorm_38 : decode cX11_ifStorm 38 = .ok (.goto 4, 3) := by decide +kernel
theorem dX11_ifStorm_41 : decode cX11_ifStorm 41 = .ok (.iconst 0, 1) := by decide +kernel
theorem dX11_ifStorm_42 : decode cX11_ifStorm 42 = .ok (.ireturn, 1) := by decide +kernel
theorem dX11_bestBelt_0 : decode cX11_bestBelt 0 = .ok (.aload_n 0, 1) := by decide +kernel
theorem dX11_bestBelt_1 : decode cX11_bestBelt 1 = .ok (.aload_n 0, 1) := by decide +kernel
theorem dX11_bestBelt_2 : decode cX11_bestBelt 2 = .ok (.iconst 0, 1) := by decide +kernel
theorem dX11_bestBelt_3 : decode cX11_bestBelt 3 = .ok (.aload_n 0, 1) := by decide +kernel
theorem dX11_bestBelt_4 : decode cX11_bestBelt 4 = .ok (.getfield 124, 3) := by decide +kernel
theorem dX11_bestBelt_7 : decode cX11_bestBelt 7 = .ok (.invokevirtual 127, 3) := by decide +kernel
theorem dX11_bestBelt_10 : decode cX11_bestBelt 10 = .ok (.ifCond .eq 7, 3) := by decide +kernel
theorem dX11_bestBelt_13 : decode cX11_bestBelt 13 = .ok (.iconst 0, 1) := by decide +kernel
theorem dX11_bestBelt_14 : decode cX11_bestBelt 14 = .ok (.goto 4, 3) := by decide +kernel
theorem dX11_bestBelt_17 : decode cX11_bestBelt 17 = .ok (.iconst 1, 1) := by decide +kernel
theorem dX11_bestBelt_18 : decode cX11_bestBelt 18 = .ok (.invokevirtual 131, 3) := by decide +kernel
theorem dX11_bestBelt_21 : decode cX11_bestBelt 21 = .ok (.ifCond .ne 5, 3) := by decide +kernel
theorem dX11_bestBelt_24 : decode cX11_bestBelt 24 = .ok (.iconst 0, 1) := by decide +kernel
theorem dX11_bestBelt_25 : decode cX11_bestBelt 25 = .ok (.ireturn, 1) := by decide +kernel
theorem dX11_bestBelt_26 : decode cX11_bestBelt 26 = .ok (.iconst (-1), 1) := by decide +kernel
theorem dX11_bestBelt_27 : decode cX11_bestBelt 27 = .ok (.istore_n 1, 1) := by decide +kernel
theorem dX11_bestBelt_28 : decode cX11_bestBelt 28 = .ok (.iconst 4, 1) := by decide +kernel
theorem dX11_bestBelt_29 : decode cX11_bestBelt 29 = .ok (.istore_n 2, 1) := by decide +kernel
theorem dX11_bestBelt_30 : decode cX11_bestBelt 30 = .ok (.iload_n 2, 1) := by decide +kernel
theorem dX11_bestBelt_31 : decode cX11_bestBelt 31 = .ok (.ifCond .lt 49, 3) := by decide +kernel
theorem dX11_bestBelt_34 : decode cX11_bestBelt 34 = .ok (.aload_n 0, 1) := by decide +kernel
theorem dX11_bestBelt_35 : decode cX11_bestBelt 35 = .ok (.iload_n 2, 1) := by decide +kernel
theorem dX11_bestBelt_36 : decode cX11_bestBelt 36 = .ok (.aload_n 0, 1) := by decide +kernel
theorem dX11_bestBelt_37 : decode cX11_bestBelt 37 = .ok (.getfield 118, 3) := by decide +kernel
theorem dX11_bestBelt_40 : decode cX11_bestBelt 40 = .ok (.aload_n 0, 1) := by decide +kernel
theorem dX11_bestBelt_41 : decode cX11_bestBelt 41 = .ok (.getfield 121, 3) := by decide +kernel
theorem dX11_bestBelt_44 : decode cX11_bestBelt 44 = .ok (.invokevirtual 95, 3) := by decide +kernel
theorem dX11_bestBelt_47 : decode cX11_bestBelt 47 = .ok (.ifCond .ne 25, 3) := by decide +kernel
theorem dX11_bestBelt_50 : decode cX11_bestBelt 50 = .ok (.iload_n 1, 1) := by decide +kernel
theorem dX11_bestBelt_51 : decode cX11_bestBelt 51 = .ok (.iconst (-1), 1) := by decide +kernel
theorem dX11_bestBelt_52 : decode cX11_bestBelt 52 = .ok (.if_icmp .eq 16, 3) := by decide +kernel
theorem dX11_bestBelt_55 : decode cX11_bestBelt 55 = .ok (.aload_n 0, 1) := by decide +kernel
theorem dX11_bestBelt_56 : decode cX11_bestBelt 56 = .ok (.iload_n 2, 1) := by decide +kernel
theorem dX11_bestBelt_57 : decode cX11_bestBelt 57 = .ok (.invokevirtual 85, 3) := by decide +kernel
theorem dX11_bestBelt_60 : decode cX11_bestBelt 60 = .ok (.aload_n 0, 1) := by decide +kernel
theorem dX11_bestBelt_61 : decode cX11_bestBelt 61 = .ok (.iload_n 1, 1) := by decide +kernel
theorem dX11_bestBelt_62 : decode cX11_bestBelt 62 = .ok (.invokevirtual 85, 3) := by decide +kernel
theorem dX11_bestBelt_65 : decode cX11_bestBelt 65 = .ok (.if_icmp .lt 7, 3) := by decide +kernel
theorem dX11_bestBelt_68 : decode cX11_bestBelt 68 = .ok (.iload_n 2, 1) := by decide +kernel
theorem dX11_bestBelt_69 : decode cX11_bestBelt 69 = .ok (.goto 4, 3) := by decide +kernel
theorem dX11_bestBelt_72 : decode cX11_bestBelt 72 = .ok (.iload_n 1, 1) := by decide +kernel
theorem dX11_bestBelt_73 : decode cX11_bestBelt 73 = .ok (.istore_n 1, 1) := by decide +kernel
theorem dX11_bestBelt_74 : decode cX11_bestBelt 74 = .ok (.iinc 2 (-1), 3) := by decide +kernel
theorem dX11_bestBelt_77 : decode cX11_bestBelt 77 = .ok (.goto (-47), 3) := by decide +kernel
theorem dX11_bestBelt_80 : decode cX11_bestBelt 80 = .ok (.iload_n 1, 1) := by decide +kernel
theorem dX11_bestBelt_81 : decode cX11_bestBelt 81 = .ok (.ireturn, 1) := by decide +kernel
theorem dX11_shareNumber_0 : decode cX11_shareNumber 0 = .ok (.aload_n 0, 1) := by decide +kernel
theorem dX11_shareNumber_1 : decode cX11_shareNumber 1 = .ok (.invokevirtual 268, 3) := by decide +kernel
theorem dX11_shareNumber_4 : decode cX11_shareNumber 4 = .ok (.istore_n 1, 1) := by decide +kernel
theorem dX11_shareNumber_5 : decode cX11_shareNumber 5 = .ok (.iload_n 1, 1) := by decide +kernel
theorem dX11_shareNumber_6 : decode cX11_shareNumber 6 = .ok (.ifCond .ne 7, 3) := by decide +kernel
theorem dX11_shareNumber_9 : decode cX11_shareNumber 9 = .ok (.dconst 1, 1) := by decide +kernel
theorem dX11_shareNumber_10 : decode cX11_shareNumber 10 = .ok (.goto 14, 3) := by decide +kernel
theorem dX11_shareNumber_13 : decode cX11_shareNumber 13 = .ok (.iload_n 1, 1) := by decide +kernel
theorem dX11_shareNumber_14 : decode cX11_shareNumber 14 = .ok (.aload_n 0, 1) := by decide +kernel
theorem dX11_shareNumber_15 : decode cX11_shareNumber 15 = .ok (.iconst 1, 1) := by decide +kernel
theorem dX11_shareNumber_16 : decode cX11_shareNumber 16 = .ok (.invokevirtual 256, 3) := by decide +kernel
theorem dX11_shareNumber_19 : decode cX11_shareNumber 19 = .ok (.isub, 1) := by decide +kernel
theorem dX11_shareNumber_20 : decode cX11_shareNumber 20 = .ok (.i2d, 1) := by decide +kernel
theorem dX11_shareNumber_21 : decode cX11_shareNumber 21 = .ok (.iload_n 1, 1) := by decide +kernel
theorem dX11_shareNumber_22 : decode cX11_shareNumber 22 = .ok (.i2d, 1) := by decide +kernel
theorem dX11_shareNumber_23 : decode cX11_shareNumber 23 = .ok (.ddiv, 1) := by decide +kernel
theorem dX11_shareNumber_24 : decode cX11_shareNumber 24 = .ok (.dreturn, 1) := by decide +kernel
theorem dX11_trueShare_0 : decode cX11_trueShare 0 = .ok (.aload_n 0, 1) := by decide +kernel
theorem dX11_trueShare_1 : decode cX11_trueShare 1 = .ok (.iconst 0, 1) := by decide +kernel
theorem dX11_trueShare_2 : decode cX11_trueShare 2 = .ok (.putfield 22, 3) := by decide +kernel
theorem dX11_trueShare_5 : decode cX11_trueShare 5 = .ok (.aload_n 0, 1) := by decide +kernel
theorem dX11_trueShare_6 : decode cX11_trueShare 6 = .ok (.invokevirtual 271, 3) := by decide +kernel
theorem dX11_trueShare_9 : decode cX11_trueShare 9 = .ok (.dreturn, 1) := by decide +kernel
theorem dX11_bitsOf_0 : decode cX11_bitsOf 0 = .ok (.dload_n 0, 1) := by decide +kernel
theorem dX11_bitsOf_1 : decode cX11_bitsOf 1 = .ok (.dconst 0, 1) := by decide +kernel
theorem dX11_bitsOf_2 : decode cX11_bitsOf 2 = .ok (.dcmp .l, 1) := by decide +kernel
theorem dX11_bitsOf_3 : decode cX11_bitsOf 3 = .ok (.ifCond .ne 5, 3) := by decide +kernel
theorem dX11_bitsOf_6 : decode cX11_bitsOf 6 = .ok (.lconst 0, 1) := by decide +kernel
theorem dX11_bitsOf_7 : decode cX11_bitsOf 7 = .ok (.lreturn, 1) := by decide +kernel
theorem dX11_bitsOf_8 : decode cX11_bitsOf 8 = .ok (.ldc2_w 275, 3) := by decide +kernel
theorem dX11_bitsOf_11 : decode cX11_bitsOf 11 = .ok (.lstore_n 2, 1) := by decide +kernel
theorem dX11_bitsOf_12 : decode cX11_bitsOf 12 = .ok (.dload_n 0, 1) := by decide +kernel
theorem dX11_bitsOf_13 : decode cX11_bitsOf 13 = .ok (.dstore 4, 2) := by decide +kernel
theorem dX11_bitsOf_15 : decode cX11_bitsOf 15 = .ok (.dload 4, 2) := by decide +kernel
theorem dX11_bitsOf_17 : decode cX11_bitsOf 17 = .ok (.dconst 1, 1) := by decide +kernel
theorem dX11_bitsOf_18 : decode cX11_bitsOf 18 = .ok (.dcmp .g, 1) := by decide +kernel
theorem dX11_bitsOf_19 : decode cX11_bitsOf 19 = .ok (.ifCond .ge 18, 3) := by decide +kernel
theorem dX11_bitsOf_22 : decode cX11_bitsOf 22 = .ok (.dload 4, 2) := by decide +kernel
theorem dX11_bitsOf_24 : decode cX11_bitsOf 24 = .ok (.ldc2_w 277, 3) := by decide +kernel
theorem dX11_bitsOf_27 : decode cX11_bitsOf 27 = .ok (.dmul, 1) := by decide +kernel
theorem dX11_bitsOf_28 : decode cX11_bitsOf 28 = .ok (.dstore 4, 2) := by decide +kernel
theorem dX11_bitsOf_30 : decode cX11_bitsOf 30 = .ok (.lload_n 2, 1) := by decide +kernel
theorem dX11_bitsOf_31 : decode cX11_bitsOf 31 = .ok (.lconst 1, 1) := by decide +kernel
theorem dX11_bitsOf_32 : decode cX11_bitsOf 32 = .ok (.lsub, 1) := by decide +kernel
theorem dX11_bitsOf_33 : decode cX11_bitsOf 33 = .ok (.lstore_n 2, 1) := by decide +kernel
theorem dX11_bitsOf_34 : decode cX11_bitsOf 34 = .ok (.goto (-19), 3) := by decide +kernel
theorem dX11_bitsOf_37 : decode cX11_bitsOf 37 = .ok (.lload_n 2, 1) := by decide +kernel
theorem dX11_bitsOf_38 : decode cX11_bitsOf 38 = .ok (.ldc2_w 279, 3) := by decide +kernel
theorem dX11_bitsOf_41 : decode cX11_bitsOf 41 = .ok (.lmul, 1) := by decide +kernel
theorem dX11_bitsOf_42 : decode cX11_bitsOf 42 = .ok (.dload 4, 2) := by decide +kernel
theorem dX11_bitsOf_44 : decode cX11_bitsOf 44 = .ok (.dconst 1, 1) := by decide +kernel
theorem dX11_bitsOf_45 : decode cX11_bitsOf 45 = .ok (.dsub, 1) := by decide +kernel
theorem dX11_bitsOf_46 : decode cX11_bitsOf 46 = .ok (.ldc2_w 281, 3) := by decide +kernel
theorem dX11_bitsOf_49 : decode cX11_bitsOf 49 = .ok (.dmul, 1) := by decide +kernel
theorem dX11_bitsOf_50 : decode cX11_bitsOf 50 = .ok (.d2l, 1) := by decide +kernel
theorem dX11_bitsOf_51 : decode cX11_bitsOf 51 = .ok (.ladd, 1) := by decide +kernel
theorem dX11_bitsOf_52 : decode cX11_bitsOf 52 = .ok (.lreturn, 1) := by decide +kernel
theorem dX11_mix_0 : decode cX11_mix 0 = .ok (.aload_n 0, 1) := by decide +kernel
theorem dX11_mix_1 : decode cX11_mix 1 = .ok (.ldc2_w 283, 3) := by decide +kernel
theorem dX11_mix_4 : decode cX11_mix 4 = .ok (.aload_n 0, 1) := by decide +kernel
theorem dX11_mix_5 : decode cX11_mix 5 = .ok (.getfield 285, 3) := by decide +kernel
theorem dX11_mix_8 : decode cX11_mix 8 = .ok (.lmul, 1) := by decide +kernel
theorem dX11_mix_9 : decode cX11_mix 9 = .ok (.lload_n 1, 1) := by decide +kernel
theorem dX11_mix_10 : decode cX11_mix 10 = .ok (.ladd, 1) := by decide +kernel
theorem dX11_mix_11 : decode cX11_mix 11 = .ok (.putfield 285, 3) := by decide +kernel
theorem dX11_mix_14 : decode cX11_mix 14 = .ok (.return_, 1) := by decide +kernel
theorem dX11_mixName_0 : decode cX11_mixName 0 = .ok (.iconst 0, 1) := by decide +kernel
theorem dX11_mixName_1 : decode cX11_mixName 1 = .ok (.istore_n 2, 1) := by decide +kernel
theorem dX11_mixName_2 : decode cX11_mixName 2 = .ok (.iload_n 2, 1) := by decide +kernel
theorem dX11_mixName_3 : decode cX11_mixName 3 = .ok (.iconst 5, 1) := by decide +kernel
theorem dX11_mixName_4 : decode cX11_mixName 4 = .ok (.if_icmp .ge 20, 3) := by decide +kernel
theorem dX11_mixName_7 : decode cX11_mixName 7 = .ok (.aload_n 0, 1) := by decide +kernel
theorem dX11_mixName_8 : decode cX11_mixName 8 = .ok (.aload_n 0, 1) := by decide +kernel
theorem dX11_mixName_9 : decode cX11_mixName 9 = .ok (.iload_n 1, 1) := by decide +kernel
theorem dX11_mixName_10 : decode cX11_mixName 10 = .ok (.iload_n 2, 1) := by decide +kernel
theorem dX11_mixName_11 : decode cX11_mixName 11 = .ok (.invokevirtual 235, 3) := by decide +kernel
theorem dX11_mixName_14 : decode cX11_mixName 14 = .ok (.i2l, 1) := by decide +kernel
theorem dX11_mixName_15 : decode cX11_mixName 15 = .ok (.invokevirtual 289, 3) := by decide +kernel
theorem dX11_mixName_18 : decode cX11_mixName 18 = .ok (.iinc 2 1, 3) := by decide +kernel
theorem dX11_mixName_21 : decode cX11_mixName 21 = .ok (.goto (-19), 3) := by decide +kernel
theorem dX11_mixName_24 : decode cX11_mixName 24 = .ok (.iconst 0, 1) := by decide +kernel
theorem dX11_mixName_25 : decode cX11_mixName 25 = .ok (.istore_n 2, 1) := by decide +kernel
theorem dX11_mixName_26 : decode cX11_mixName 26 = .ok (.iload_n 2, 1) := by decide +kernel
theorem dX11_mixName_27 : decode cX11_mixName 27 = .ok (.aload_n 0, 1) := by decide +kernel
theorem dX11_mixName_28 : decode cX11_mixName 28 = .ok (.iload_n 1, 1) := by decide +kernel
theorem dX11_mixName_29 : decode cX11_mixName 29 = .ok (.invokevirtual 58, 3) := by decide +kernel
theorem dX11_mixName_32 : decode cX11_mixName 32 = .ok (.if_icmp .ge 34, 3) := by decide +kernel
theorem dX11_mixName_35 : decode cX11_mixName 35 = .ok (.iconst 0, 1) := by decide +kernel
theorem dX11_mixName_36 : decode cX11_mixName 36 = .ok (.istore_n 3, 1) := by decide +kernel
theorem dX11_mixName_37 : decode cX11_mixName 37 = .ok (.iload_n 3, 1) := by decide +kernel
theorem dX11_mixName_38 : decode cX11_mixName 38 = .ok (.iconst 3, 1) := by decide +kernel
theorem dX11_mixName_39 : decode cX11_mixName 39 = .ok (.if_icmp .ge 21, 3) := by decide +kernel
theorem dX11_mixName_42 : decode cX11_mixName 42 = .ok (.aload_n 0, 1) := by decide +kernel
theorem dX11_mixName_43 : decode cX11_mixName 43 = .ok (.aload_n 0, 1) := by decide +kernel
theorem dX11_mixName_44 : decode cX11_mixName 44 = .ok (.iload_n 1, 1) := by decide +kernel
theorem dX11_mixName_45 : decode cX11_mixName 45 = .ok (.iload_n 2, 1) := by decide +kernel
theorem dX11_mixName_46 : decode cX11_mixName 46 = .ok (.iload_n 3, 1) := by decide +kernel
theorem dX11_mixName_47 : decode cX11_mixName 47 = .ok (.invokevirtual 229, 3) := by decide +kernel
theorem dX11_mixName_50 : decode cX11_mixName 50 = .ok (.i2l, 1) := by decide +kernel
theorem dX11_mixName_51 : decode cX11_mixName 51 = .ok (.invokevirtual 289, 3) := by decide +kernel
theorem dX11_mixName_54 : decode cX11_mixName 54 = .ok (.iinc 3 1, 3) := by decide +kernel
theorem dX11_mixName_57 : decode cX11_mixName 57 = .ok (.goto (-20), 3) := by decide +kernel
theorem dX11_mixName_60 : decode cX11_mixName 60 = .ok (.iinc 2 1, 3) := by decide +kernel
theorem dX11_mixName_63 : decode cX11_mixName 63 = .ok (.goto (-37), 3) := by decide +kernel
theorem dX11_mixName_66 : decode cX11_mixName 66 = .ok (.return_, 1) := by decide +kernel
theorem dX11_mixFisher_0 : decode cX11_mixFisher 0 = .ok (.iconst 0, 1) := by decide +kernel
theorem dX11_mixFisher_1 : decode cX11_mixFisher 1 = .ok (.istore_n 2, 1) := by decide +kernel
theorem dX11_mixFisher_2 : decode cX11_mixFisher 2 = .ok (.iload_n 2, 1) := by decide +kernel
theorem dX11_mixFisher_3 : decode cX11_mixFisher 3 = .ok (.iconst 5, 1) := by decide +kernel
theorem dX11_mixFisher_4 : decode cX11_mixFisher 4 = .ok (.if_icmp .ge 20, 3) := by decide +kernel
theorem dX11_mixFisher_7 : decode cX11_mixFisher 7 = .ok (.aload_n 0, 1) := by decide +kernel
theorem dX11_mixFisher_8 : decode cX11_mixFisher 8 = .ok (.aload_n 0, 1) := by decide +kernel
theorem dX11_mixFisher_9 : decode cX11_mixFisher 9 = .ok (.iload_n 1, 1) := by decide +kernel
theorem dX11_mixFisher_10 : decode cX11_mixFisher 10 = .ok (.iload_n 2, 1) := by decide +kernel
theorem dX11_mixFisher_11 : decode cX11_mixFisher 11 = .ok (.invokevirtual 238, 3) := by decide +kernel
theorem dX11_mixFisher_14 : decode cX11_mixFisher 14 = .ok (.i2l, 1) := by decide +kernel
theorem dX11_mixFisher_15 : decode cX11_mixFisher 15 = .ok (.invokevirtual 289, 3) := by decide +kernel
theorem dX11_mixFisher_18 : decode cX11_mixFisher 18 = .ok (.iinc 2 1, 3) := by decide +kernel
theorem dX11_mixFisher_21 : decode cX11_mixFisher 21 = .ok (.goto (-19), 3) := by decide +kernel
theorem dX11_mixFisher_24 : decode cX11_mixFisher 24 = .ok (.aload_n 0, 1) := by decide +kernel
theorem dX11_mixFisher_25 : decode cX11_mixFisher 25 = .ok (.aload_n 0, 1) := by decide +kernel
theorem dX11_mixFisher_26 : decode cX11_mixFisher 26 = .ok (.iload_n 1, 1) := by decide +kernel
theorem dX11_mixFisher_27 : decode cX11_mixFisher 27 = .ok (.iconst 0, 1) := by decide +kernel
theorem dX11_mixFisher_28 : decode cX11_mixFisher 28 = .ok (.invokevirtual 265, 3) := by decide +kernel
theorem dX11_mixFisher_31 : decode cX11_mixFisher 31 = .ok (.i2l, 1) := by decide +kernel
theorem dX11_mixFisher_32 : decode cX11_mixFisher 32 = .ok (.invokevirtual 289, 3) := by decide +kernel
theorem dX11_mixFisher_35 : decode cX11_mixFisher 35 = .ok (.aload_n 0, 1) := by decide +kernel
theorem dX11_mixFisher_36 : decode cX11_mixFisher 36 = .ok (.aload_n 0, 1) := by decide +kernel
theorem dX11_mixFisher_37 : decode cX11_mixFisher 37 = .ok (.iload_n 1, 1) := by decide +kernel
theorem dX11_mixFisher_38 : decode cX11_mixFisher 38 = .ok (.iconst 1, 1) := by decide +kernel
theorem dX11_mixFisher_39 : decode cX11_mixFisher 39 = .ok (.invokevirtual 265, 3) := by decide +kernel
theorem dX11_mixFisher_42 : decode cX11_mixFisher 42 = .ok (.i2l, 1) := by decide +kernel
theorem dX11_mixFisher_43 : decode cX11_mixFisher 43 = .ok (.invokevirtual 289, 3) := by decide +kernel
theorem dX11_mixFisher_46 : decode cX11_mixFisher 46 = .ok (.iconst 0, 1) := by decide +kernel
theorem dX11_mixFisher_47 : decode cX11_mixFisher 47 = .ok (.istore_n 2, 1) := by decide +kernel
theorem dX11_mixFisher_48 : decode cX11_mixFisher 48 = .ok (.aload_n 0, 1) := by decide +kernel
theorem dX11_mixFisher_49 : decode cX11_mixFisher 49 = .ok (.iload_n 1, 1) := by decide +kernel
theorem dX11_mixFisher_50 : decode cX11_mixFisher 50 = .ok (.iload_n 2, 1) := by decide +kernel
theorem dX11_mixFisher_51 : decode cX11_mixFisher 51 = .ok (.invokevirtual 212, 3) := by decide +kernel
theorem dX11_mixFisher_54 : decode cX11_mixFisher 54 = .ok (.iconst (-1), 1) := by decide +kernel
theorem dX11_mixFisher_55 : decode cX11_mixFisher 55 = .ok (.if_icmp .eq 20, 3) := by decide +kernel
theorem dX11_mixFisher_58 : decode cX11_mixFisher 58 = .ok (.aload_n 0, 1) := by decide +kernel
theorem dX11_mixFisher_59 : decode cX11_mixFisher 59 = .ok (.aload_n 0, 1) := by decide +kernel
theorem dX11_mixFisher_60 : decode cX11_mixFisher 60 = .ok (.iload_n 1, 1) := by decide +kernel
theorem dX11_mixFisher_61 : decode cX11_mixFisher 61 = .ok (.iload_n 2, 1) := by decide +kernel
theorem dX11_mixFisher_62 : decode cX11_mixFisher 62 = .ok (.invokevirtual 212, 3) := by decide +kernel
theorem dX11_mixFisher_65 : decode cX11_mixFisher 65 = .ok (.i2l, 1) := by decide +kernel
theorem dX11_mixFisher_66 : decode cX11_mixFisher 66 = .ok (.invokevirtual 289, 3) := by decide +kernel
theorem dX11_mixFisher_69 : decode cX11_mixFisher 69 = .ok (.iinc 2 1, 3) := by decide +kernel
theorem dX11_mixFisher_72 : decode cX11_mixFisher 72 = .ok (.goto (-24), 3) := by decide +kernel
theorem dX11_mixFisher_75 : decode cX11_mixFisher 75 = .ok (.iconst 0, 1) := by decide +kernel
theorem dX11_mixFisher_76 : decode cX11_mixFisher 76 = .ok (.istore_n 2, 1) := by decide +kernel
theorem dX11_mixFisher_77 : decode cX11_mixFisher 77 = .ok (.iload_n 2, 1) := by decide +kernel
theorem dX11_mixFisher_78 : decode cX11_mixFisher 78 = .ok (.aload_n 0, 1) := by decide +kernel
theorem dX11_mixFisher_79 : decode cX11_mixFisher 79 = .ok (.iload_n 1, 1) := by decide +kernel
theorem dX11_mixFisher_80 : decode cX11_mixFisher 80 = .ok (.iconst 1, 1) := by decide +kernel
theorem dX11_mixFisher_81 : decode cX11_mixFisher 81 = .ok (.invokevirtual 34, 3) := by decide +kernel
theorem dX11_mixFisher_84 : decode cX11_mixFisher 84 = .ok (.if_icmp .ge 18, 3) := by decide +kernel
theorem dX11_mixFisher_87 : decode cX11_mixFisher 87 = .ok (.aload_n 0, 1) := by decide +kernel
theorem dX11_mixFisher_88 : decode cX11_mixFisher 88 = .ok (.iload_n 1, 1) := by decide +kernel
theorem dX11_mixFisher_89 : decode cX11_mixFisher 89 = .ok (.iload_n 2, 1) := by decide +kernel
theorem dX11_mixFisher_90 : decode cX11_mixFisher 90 = .ok (.invokestatic 76, 3) := by decide +kernel
theorem dX11_mixFisher_93 : decode cX11_mixFisher 93 = .ok (.invokevirtual 293, 3) := by decide +kernel
theorem dX11_mixFisher_96 : decode cX11_mixFisher 96 = .ok (.iinc 2 1, 3) := by decide +kernel
theorem dX11_mixFisher_99 : decode cX11_mixFisher 99 = .ok (.goto (-22), 3) := by decide +kernel
theorem dX11_mixFisher_102 : decode cX11_mixFisher 102 = .ok (.return_, 1) := by decide +kernel
theorem dX11_digest_0 : decode cX11_digest 0 = .ok (.aload_n 0, 1) := by decide +kernel
theorem dX11_digest_1 : decode cX11_digest 1 = .ok (.iconst 0, 1) := by decide +kernel
theorem dX11_digest_2 : decode cX11_digest 2 = .ok (.putfield 22, 3) := by decide +kernel
theorem dX11_digest_5 : decode cX11_digest 5 = .ok (.aload_n 0, 1) := by decide +kernel
theorem dX11_digest_6 : decode cX11_digest 6 = .ok (.ldc2_w 297, 3) := by decide +kernel
theorem dX11_digest_9 : decode cX11_digest 9 = .ok (.putfield 285, 3) := by decide +kernel
theorem dX11_digest_12 : decode cX11_digest 12 = .ok (.iconst 0, 1) := by decide +kernel
theorem dX11_digest_13 : decode cX11_digest 13 = .ok (.istore_n 1, 1) := by decide +kernel
theorem dX11_digest_14 : decode cX11_digest 14 = .ok (.iload_n 1, 1) := by decide +kernel
theorem dX11_digest_15 : decode cX11_digest 15 = .ok (.bipush 14, 2) := by decide +kernel
theorem dX11_digest_17 : decode cX11_digest 17 = .ok (.if_icmp .ge 19, 3) := by decide +kernel
theorem dX11_digest_20 : decode cX11_digest 20 = .ok (.aload_n 0, 1) := by decide +kernel
theorem dX11_digest_21 : decode cX11_digest 21 = .ok (.aload_n 0, 1) := by decide +kernel
theorem dX11_digest_22 : decode cX11_digest 22 = .ok (.iload_n 1, 1) := by decide +kernel
theorem dX11_digest_23 : decode cX11_digest 23 = .ok (.invokevirtual 262, 3) := by decide +kernel
theorem dX11_digest_26 : decode cX11_digest 26 = .ok (.i2l, 1) := by decide +kernel
theorem dX11_digest_27 : decode cX11_digest 27 = .ok (.invokevirtual 289, 3) := by decide +kernel
theorem dX11_digest_30 : decode cX11_digest 30 = .ok (.iinc 1 1, 3) := by decide +kernel
theorem dX11_digest_33 : decode cX11_digest 33 = .ok (.goto (-19), 3) := by decide +kernel
theorem dX11_digest_36 : decode cX11_digest 36 = .ok (.iconst 0, 1) := by decide +kernel
theorem dX11_digest_37 : decode cX11_digest 37 = .ok (.istore_n 1, 1) := by decide +kernel
theorem dX11_digest_38 : decode cX11_digest 38 = .ok (.iload_n 1, 1) := by decide +kernel
theorem dX11_digest_39 : decode cX11_digest 39 = .ok (.bipush 96, 2) := by decide +kernel
theorem dX11_digest_41 : decode cX11_digest 41 = .ok (.if_icmp .ge 26, 3) := by decide +kernel
theorem dX11_digest_44 : decode cX11_digest 44 = .ok (.aload_n 0, 1) := by decide +kernel
theorem dX11_digest_45 : decode cX11_digest 45 = .ok (.aload_n 0, 1) := by decide +kernel
theorem dX11_digest_46 : decode cX11_digest 46 = .ok (.iload_n 1, 1) := by decide +kernel
theorem dX11_digest_47 : decode cX11_digest 47 = .ok (.bipush 6, 2) := by decide +kernel
theorem dX11_digest_49 : decode cX11_digest 49 = .ok (.idiv, 1) := by decide +kernel
theorem dX11_digest_50 : decode cX11_digest 50 = .ok (.iload_n 1, 1) := by decide +kernel
theorem dX11_digest_51 : decode cX11_digest 51 = .ok (.bipush 6, 2) := by decide +kernel
theorem dX11_digest_53 : decode cX11_digest 53 = .ok (.irem, 1) := by decide +kernel
theorem dX11_digest_54 : decode cX11_digest 54 = .ok (.invokevirtual 226, 3) := by decide +kernel
theorem dX11_digest_57 : decode cX11_digest 57 = .ok (.i2l, 1) := by decide +kernel
theorem dX11_digest_58 : decode cX11_digest 58 = .ok (.invokevirtual 289, 3) := by decide +kernel
theorem dX11_digest_61 : decode cX11_digest 61 = .ok (.iinc 1 1, 3) := by decide +kernel
theorem dX11_digest_64 : decode cX11_digest 64 = .ok (.goto (-26), 3) := by decide +kernel
theorem dX11_digest_67 : decode cX11_digest 67 = .ok (.iconst 0, 1) := by decide +kernel
theorem dX11_digest_68 : decode cX11_digest 68 = .ok (.istore_n 1, 1) := by decide +kernel
theorem dX11_digest_69 : decode cX11_digest 69 = .ok (.iload_n 1, 1) := by decide +kernel
theorem dX11_digest_70 : decode cX11_digest 70 = .ok (.iconst 5, 1) := by decide +kernel
theorem dX11_digest_71 : decode cX11_digest 71 = .ok (.if_icmp .ge 14, 3) := by decide +kernel
theorem dX11_digest_74 : decode cX11_digest 74 = .ok (.aload_n 0, 1) := by decide +kernel
theorem dX11_digest_75 : decode cX11_digest 75 = .ok (.iload_n 1, 1) := by decide +kernel
theorem dX11_digest_76 : decode cX11_digest 76 = .ok (.invokevirtual 299, 3) := by decide +kernel
theorem dX11_digest_79 : decode cX11_digest 79 = .ok (.iinc 1 1, 3) := by decide +kernel
theorem dX11_digest_82 : decode cX11_digest 82 = .ok (.goto (-13), 3) := by decide +kernel
theorem dX11_digest_85 : decode cX11_digest 85 = .ok (.iconst 0, 1) := by decide +kernel
theorem dX11_digest_86 : decode cX11_digest 86 = .ok (.istore_n 1, 1) := by decide +kernel
theorem dX11_digest_87 : decode cX11_digest 87 = .ok (.iload_n 1, 1) := by decide +kernel
theorem dX11_digest_88 : decode cX11_digest 88 = .ok (.iconst 4, 1) := by decide +kernel
theorem dX11_digest_89 : decode cX11_digest 89 = .ok (.aload_n 0, 1) := by decide +kernel
theorem dX11_digest_90 : decode cX11_digest 90 = .ok (.getfield 7, 3) := by decide +kernel
theorem dX11_digest_93 : decode cX11_digest 93 = .ok (.iconst 1, 1) := by decide +kernel
theorem dX11_digest_94 : decode cX11_digest 94 = .ok (.iaload, 1) := by decide +kernel
theorem dX11_digest_95 : decode cX11_digest 95 = .ok (.imul, 1) := by decide +kernel
theorem dX11_digest_96 : decode cX11_digest 96 = .ok (.if_icmp .ge 24, 3) := by decide +kernel
theorem dX11_digest_99 : decode cX11_digest 99 = .ok (.aload_n 0, 1) := by decide +kernel
theorem dX11_digest_100 : decode cX11_digest 100 = .ok (.aload_n 0, 1) := by decide +kernel
theorem dX11_digest_101 : decode cX11_digest 101 = .ok (.iload_n 1, 1) := by decide +kernel
theorem dX11_digest_102 : decode cX11_digest 102 = .ok (.iconst 4, 1) := by decide +kernel
theorem dX11_digest_103 : decode cX11_digest 103 = .ok (.idiv, 1) := by decide +kernel
theorem dX11_digest_104 : decode cX11_digest 104 = .ok (.iload_n 1, 1) := by decide +kernel
theorem dX11_digest_105 : decode cX11_digest 105 = .ok (.iconst 4, 1) := by decide +kernel
theorem dX11_digest_106 : decode cX11_digest 106 = .ok (.irem, 1) := by decide +kernel
theorem dX11_digest_107 : decode cX11_digest 107 = .ok (.invokevirtual 241, 3) := by decide +kernel
theorem dX11_digest_110 : decode cX11_digest 110 = .ok (.i2l, 1) := by decide +kernel
theorem dX11_digest_111 : decode cX11_digest 111 = .ok (.invokevirtual 289, 3) := by decide +kernel
theorem dX11_digest_114 : decode cX11_digest 114 = .ok (.iinc 1 1, 3) := by decide +kernel
theorem dX11_digest_117 : decode cX11_digest 117 = .ok (.goto (-30), 3) := by decide +kernel
theorem dX11_digest_120 : decode cX11_digest 120 = .ok (.aload_n 0, 1) := by decide +kernel
theorem dX11_digest_121 : decode cX11_digest 121 = .ok (.aload_n 0, 1) := by decide +kernel
theorem dX11_digest_122 : decode cX11_digest 122 = .ok (.getfield 7, 3) := by decide +kernel
theorem dX11_digest_125 : decode cX11_digest 125 = .ok (.bipush 6, 2) := by decide +kernel
theorem dX11_digest_127 : decode cX11_digest 127 = .ok (.iaload, 1) := by decide +kernel
theorem dX11_digest_128 : decode cX11_digest 128 = .ok (.i2l, 1) := by decide +kernel
theorem dX11_digest_129 : decode cX11_digest 129 = .ok (.invokevirtual 289, 3) := by decide +kernel
theorem dX11_digest_132 : decode cX11_digest 132 = .ok (.aload_n 0, 1) := by decide +kernel
theorem dX11_digest_133 : decode cX11_digest 133 = .ok (.aload_n 0, 1) := by decide +kernel
theorem dX11_digest_134 : decode cX11_digest 134 = .ok (.getfield 7, 3) := by decide +kernel
theorem dX11_digest_137 : decode cX11_digest 137 = .ok (.bipush 7, 2) := by decide +kernel
theorem dX11_digest_139 : decode cX11_digest 139 = .ok (.iaload, 1) := by decide +kernel
theorem dX11_digest_140 : decode cX11_digest 140 = .ok (.i2l, 1) := by decide +kernel
theorem dX11_digest_141 : decode cX11_digest 141 = .ok (.invokevirtual 289, 3) := by decide +kernel
theorem dX11_digest_144 : decode cX11_digest 144 = .ok (.aload_n 0, 1) := by decide +kernel
theorem dX11_digest_145 : decode cX11_digest 145 = .ok (.aload_n 0, 1) := by decide +kernel
theorem dX11_digest_146 : decode cX11_digest 146 = .ok (.invokevirtual 271, 3) := by decide +kernel
theorem dX11_digest_149 : decode cX11_digest 149 = .ok (.invokestatic 302, 3) := by decide +kernel
theorem dX11_digest_152 : decode cX11_digest 152 = .ok (.invokevirtual 289, 3) := by decide +kernel
theorem dX11_digest_155 : decode cX11_digest 155 = .ok (.aload_n 0, 1) := by decide +kernel
theorem dX11_digest_156 : decode cX11_digest 156 = .ok (.aload_n 0, 1) := by decide +kernel
theorem dX11_digest_157 : decode cX11_digest 157 = .ok (.getfield 124, 3) := by decide +kernel
theorem dX11_digest_160 : decode cX11_digest 160 = .ok (.i2l, 1) := by decide +kernel
theorem dX11_digest_161 : decode cX11_digest 161 = .ok (.invokevirtual 289, 3) := by decide +kernel
theorem dX11_digest_164 : decode cX11_digest 164 = .ok (.iconst 0, 1) := by decide +kernel
theorem dX11_digest_165 : decode cX11_digest 165 = .ok (.istore_n 1, 1) := by decide +kernel
theorem dX11_digest_166 : decode cX11_digest 166 = .ok (.iload_n 1, 1) := by decide +kernel
theorem dX11_digest_167 : decode cX11_digest 167 = .ok (.aload_n 0, 1) := by decide +kernel
theorem dX11_digest_168 : decode cX11_digest 168 = .ok (.getfield 124, 3) := by decide +kernel
theorem dX11_digest_171 : decode cX11_digest 171 = .ok (.if_icmp .ge 20, 3) := by decide +kernel
theorem dX11_digest_174 : decode cX11_digest 174 = .ok (.aload_n 0, 1) := by decide +kernel
theorem dX11_digest_175 : decode cX11_digest 175 = .ok (.aload_n 0, 1) := by decide +kernel
theorem dX11_digest_176 : decode cX11_digest 176 = .ok (.getfield 19, 3) := by decide +kernel
theorem dX11_digest_179 : decode cX11_digest 179 = .ok (.iload_n 1, 1) := by decide +kernel
theorem dX11_digest_180 : decode cX11_digest 180 = .ok (.iaload, 1) := by decide +kernel
theorem dX11_digest_181 : decode cX11_digest 181 = .ok (.i2l, 1) := by decide +kernel
theorem dX11_digest_182 : decode cX11_digest 182 = .ok (.invokevirtual 289, 3) := by decide +kernel
theorem dX11_digest_185 : decode cX11_digest 185 = .ok (.iinc 1 1, 3) := by decide +kernel
theorem dX11_digest_188 : decode cX11_digest 188 = .ok (.goto (-22), 3) := by decide +kernel
theorem dX11_digest_191 : decode cX11_digest 191 = .ok (.aload_n 0, 1) := by decide +kernel
theorem dX11_digest_192 : decode cX11_digest 192 = .ok (.getfield 285, 3) := by decide +kernel
theorem dX11_digest_195 : decode cX11_digest 195 = .ok (.lreturn, 1) := by decide +kernel
theorem dJ11_isValidCodePoint_9a6ad_0 : decode cJ11_isValidCodePoint_9a6ad 0 = .ok (.iload_n 0, 1) := by decide +kernel
theorem dJ11_isValidCodePoint_9a6ad_1 : decode cJ11_isValidCodePoint_9a6ad 1 = .ok (.bipush 16, 2) := by decide +kernel
theorem dJ11_isValidCodePoint_9a6ad_3 : decode cJ11_isValidCodePoint_9a6ad 3 = .ok (.iushr, 1) := by decide +kernel
theorem dJ11_isValidCodePoint_9a6ad_4 : decode cJ11_isValidCodePoint_9a6ad 4 = .ok (.istore_n 1, 1) := by decide +kernel
theorem dJ11_isValidCodePoint_9a6ad_5 : decode cJ11_isValidCodePoint_9a6ad 5 = .ok (.iload_n 1, 1) := by decide +kernel
theorem dJ11_isValidCodePoint_9a6ad_6 : decode cJ11_isValidCodePoint_9a6ad 6 = .ok (.bipush 17, 2) := by decide +kernel
theorem dJ11_isValidCodePoint_9a6ad_8 : decode cJ11_isValidCodePoint_9a6ad 8 = .ok (.if_icmp .ge 7, 3) := by decide +kernel
theorem dJ11_isValidCodePoint_9a6ad_11 : decode cJ11_isValidCodePoint_9a6ad 11 = .ok (.iconst 1, 1) := by decide +kernel
theorem dJ11_isValidCodePoint_9a6ad_12 : decode cJ11_isValidCodePoint_9a6ad 12 = .ok (.goto 4, 3) := by decide +kernel
theorem dJ11_isValidCodePoint_9a6ad_15 : decode cJ11_isValidCodePoint_9a6ad 15 = .ok (.iconst 0, 1) := by decide +kernel
theorem dJ11_isValidCodePoint_9a6ad_16 : decode cJ11_isValidCodePoint_9a6ad 16 = .ok (.ireturn, 1) := by decide +kernel
theorem dJ11_highSurrogate_5068e_0 : decode cJ11_highSurrogate_5068e 0 = .ok (.iload_n 0, 1) := by decide +kernel
theorem dJ11_highSurrogate_5068e_1 : decode cJ11_highSurrogate_5068e 1 = .ok (.bipush 10, 2) := by decide +kernel
theorem dJ11_highSurrogate_5068e_3 : decode cJ11_highSurrogate_5068e 3 = .ok (.iushr, 1) := by decide +kernel
theorem dJ11_highSurrogate_5068e_4 : decode cJ11_highSurrogate_5068e 4 = .ok (.ldc 110, 2) := by decide +kernel
theorem dJ11_highSurrogate_5068e_6 : decode cJ11_highSurrogate_5068e 6 = .ok (.iadd, 1) := by decide +kernel
theorem dJ11_highSurrogate_5068e_7 : decode cJ11_highSurrogate_5068e 7 = .ok (.i2c, 1) := by decide +kernel
theorem dJ11_highSurrogate_5068e_8 : decode cJ11_highSurrogate_5068e 8 = .ok (.ireturn, 1) := by decide +kernel
theorem dJ11_lowSurrogate_5068e_0 : decode cJ11_lowSurrogate_5068e 0 = .ok (.iload_n 0, 1) := by decide +kernel
theorem dJ11_lowSurrogate_5068e_1 : decode cJ11_lowSurrogate_5068e 1 = .ok (.sipush 1023, 3) := by decide +kernel
theorem dJ11_lowSurrogate_5068e_4 : decode cJ11_lowSurrogate_5068e 4 = .ok (.iand, 1) := by decide +kernel
theorem dJ11_lowSurrogate_5068e_5 : decode cJ11_lowSurrogate_5068e 5 = .ok (.ldc 76, 2) := by decide +kernel
theorem dJ11_lowSurrogate_5068e_7 : decode cJ11_lowSurrogate_5068e 7 = .ok (.iadd, 1) := by decide +kernel
theorem dJ11_lowSurrogate_5068e_8 : decode cJ11_lowSurrogate_5068e 8 = .ok (.i2c, 1) := by decide +kernel
theorem dJ11_lowSurrogate_5068e_9 : decode cJ11_lowSurrogate_5068e 9 = .ok (.ireturn, 1) := by decide +kernel
theorem dJ9_max_7cf53_0 : decode cJ9_max_7cf53 0 = .ok (.iload_n 0, 1) := by decide +kernel
theorem dJ9_max_7cf53_1 : decode cJ9_max_7cf53 1 = .ok (.iload_n 1, 1) := by decide +kernel
theorem dJ9_max_7cf53_2 : decode cJ9_max_7cf53 2 = .ok (.if_icmp .lt 7, 3) := by decide +kernel
theorem dJ9_max_7cf53_5 : decode cJ9_max_7cf53 5 = .ok (.iload_n 0, 1) := by decide +kernel
theorem dJ9_max_7cf53_6 : decode cJ9_max_7cf53 6 = .ok (.goto 4, 3) := by decide +kernel
theorem dJ9_max_7cf53_9 : decode cJ9_max_7cf53 9 = .ok (.iload_n 1, 1) := by decide +kernel
theorem dJ9_max_7cf53_10 : decode cJ9_max_7cf53 10 = .ok (.ireturn, 1) := by decide +kernel
theorem dJ9_min_7cf53_0 : decode cJ9_min_7cf53 0 = .ok (.iload_n 0, 1) := by decide +kernel
theorem dJ9_min_7cf53_1 : decode cJ9_min_7cf53 1 = .ok (.iload_n 1, 1) := by decide +kernel
theorem dJ9_min_7cf53_2 : decode cJ9_min_7cf53 2 = .ok (.if_icmp .gt 7, 3) := by decide +kernel
theorem dJ9_min_7cf53_5 : decode cJ9_min_7cf53 5 = .ok (.iload_n 0, 1) := by decide +kernel
theorem dJ9_min_7cf53_6 : decode cJ9_min_7cf53 6 = .ok (.goto 4, 3) := by decide +kernel
theorem dJ9_min_7cf53_9 : decode cJ9_min_7cf53 9 = .ok (.iload_n 1, 1) := by decide +kernel
theorem dJ9_min_7cf53_10 : decode cJ9_min_7cf53 10 = .ok (.ireturn, 1) := by decide +kernel
theorem dJ0_length_8abf5_0 : decode cJ0_length_8abf5 0 = .ok (.aload_n 0, 1) := by decide +kernel
theorem dJ0_length_8abf5_1 : decode cJ0_length_8abf5 1 = .ok (.getfield 9, 3) := by decide +kernel
theorem dJ0_length_8abf5_4 : decode cJ0_length_8abf5 4 = .ok (.arraylength, 1) := by decide +kernel
theorem dJ0_length_8abf5_5 : decode cJ0_length_8abf5 5 = .ok (.aload_n 0, 1) := by decide +kernel
theorem dJ0_length_8abf5_6 : decode cJ0_length_8abf5 6 = .ok (.invokevirtual 335, 3) := by decide +kernel
theorem dJ0_length_8abf5_9 : decode cJ0_length_8abf5 9 = .ok (.ishr, 1) := by decide +kernel
theorem dJ0_length_8abf5_10 : decode cJ0_length_8abf5 10 = .ok (.ireturn, 1) := by decide +kernel
theorem dJ0_charAt_5068e_0 : decode cJ0_charAt_5068e 0 = .ok (.aload_n 0, 1) := by decide +kernel
theorem dJ0_charAt_5068e_1 : decode cJ0_charAt_5068e 1 = .ok (.invokevirtual 492, 3) := by decide +kernel
theorem dJ0_charAt_5068e_4 : decode cJ0_charAt_5068e 4 = .ok (.ifCond .eq 12, 3) := by decide +kernel
theorem dJ0_charAt_5068e_7 : decode cJ0_charAt_5068e 7 = .ok (.aload_n 0, 1) := by decide +kernel
theorem dJ0_charAt_5068e_8 : decode cJ0_charAt_5068e 8 = .ok (.getfield 9, 3) := by decide +kernel
theorem dJ0_charAt_5068e_11 : decode cJ0_charAt_5068e 11 = .ok (.iload_n 1, 1) := by decide +kernel
theorem dJ0_charAt_5068e_12 : decode cJ0_charAt_5068e 12 = .ok (.invokestatic 495, 3) := by decide +kernel
theorem dJ0_charAt_5068e_15 : decode cJ0_charAt_5068e 15 = .ok (.ireturn, 1) := by decide +kernel
theorem dJ0_charAt_5068e_16 : decode cJ0_charAt_5068e 16 = .ok (.aload_n 0, 1) := by decide +kernel
theorem dJ0_charAt_5068e_17 : decode cJ0_charAt_5068e 17 = .ok (.getfield 9, 3) := by decide +kernel
theorem dJ0_charAt_5068e_20 : decode cJ0_charAt_5068e 20 = .ok (.iload_n 1, 1) := by decide +kernel
theorem dJ0_charAt_5068e_21 : decode cJ0_charAt_5068e 21 = .ok (.invokestatic 498, 3) := by decide +kernel
theorem dJ0_charAt_5068e_24 : decode cJ0_charAt_5068e 24 = .ok (.ireturn, 1) := by decide +kernel
theorem dJ0_indexOf_0f7a4_0 : decode cJ0_indexOf_0f7a4 0 = .ok (.aload_n 0, 1) := by decide +kernel
theorem dJ0_indexOf_0f7a4_1 : decode cJ0_indexOf_0f7a4 1 = .ok (.iload_n 1, 1) := by decide +kernel
theorem dJ0_indexOf_0f7a4_2 : decode cJ0_indexOf_0f7a4 2 = .ok (.iconst 0, 1) := by decide +kernel
theorem dJ0_indexOf_0f7a4_3 : decode cJ0_indexOf_0f7a4 3 = .ok (.invokevirtual 633, 3) := by decide +kernel
theorem dJ0_indexOf_0f7a4_6 : decode cJ0_indexOf_0f7a4 6 = .ok (.ireturn, 1) := by decide +kernel
theorem dJ0_indexOf_7cf53_0 : decode cJ0_indexOf_7cf53 0 = .ok (.aload_n 0, 1) := by decide +kernel
theorem dJ0_indexOf_7cf53_1 : decode cJ0_indexOf_7cf53 1 = .ok (.invokevirtual 492, 3) := by decide +kernel
theorem dJ0_indexOf_7cf53_4 : decode cJ0_indexOf_7cf53 4 = .ok (.ifCond .eq 19, 3) := by decide +kernel
theorem dJ0_indexOf_7cf53_7 : decode cJ0_indexOf_7cf53 7 = .ok (.aload_n 0, 1) := by decide +kernel
theorem dJ0_indexOf_7cf53_8 : decode cJ0_indexOf_7cf53 8 = .ok (.getfield 9, 3) := by decide +kernel
theorem dJ0_indexOf_7cf53_11 : decode cJ0_indexOf_7cf53 11 = .ok (.iload_n 1, 1) := by decide +kernel
theorem dJ0_indexOf_7cf53_12 : decode cJ0_indexOf_7cf53 12 = .ok (.iload_n 2, 1) := by decide +kernel
theorem dJ0_indexOf_7cf53_13 : decode cJ0_indexOf_7cf53 13 = .ok (.aload_n 0, 1) := by decide +kernel
theorem dJ0_indexOf_7cf53_14 : decode cJ0_indexOf_7cf53 14 = .ok (.invokevirtual 505, 3) := by decide +kernel
theorem dJ0_indexOf_7cf53_17 : decode cJ0_indexOf_7cf53 17 = .ok (.invokestatic 637, 3) := by decide +kernel
theorem dJ0_indexOf_7cf53_20 : decode cJ0_indexOf_7cf53 20 = .ok (.goto 16, 3) := by decide +kernel
theorem dJ0_indexOf_7cf53_23 : decode cJ0_indexOf_7cf53 23 = .ok (.aload_n 0, 1) := by decide +kernel
theorem dJ0_indexOf_7cf53_24 : decode cJ0_indexOf_7cf53 24 = .ok (.getfield 9, 3) := by decide +kernel
theorem dJ0_indexOf_7cf53_27 : decode cJ0_indexOf_7cf53 27 = .ok (.iload_n 1, 1) := by decide +kernel
theorem dJ0_indexOf_7cf53_28 : decode cJ0_indexOf_7cf53 28 = .ok (.iload_n 2, 1) := by decide +kernel
theorem dJ0_indexOf_7cf53_29 : decode cJ0_indexOf_7cf53 29 = .ok (.aload_n 0, 1) := by decide +kernel
theorem dJ0_indexOf_7cf53_30 : decode cJ0_indexOf_7cf53 30 = .ok (.invokevirtual 505, 3) := by decide +kernel
theorem dJ0_indexOf_7cf53_33 : decode cJ0_indexOf_7cf53 33 = .ok (.invokestatic 640, 3) := by decide +kernel
theorem dJ0_indexOf_7cf53_36 : decode cJ0_indexOf_7cf53 36 = .ok (.ireturn, 1) := by decide +kernel
theorem dJ0_coder_7d493_0 : decode cJ0_coder_7d493 0 = .ok (.getstatic 38, 3) := by decide +kernel
theorem dJ0_coder_7d493_3 : decode cJ0_coder_7d493 3 = .ok (.ifCond .eq 10, 3) := by decide +kernel
theorem dJ0_coder_7d493_6 : decode cJ0_coder_7d493 6 = .ok (.aload_n 0, 1) := by decide +kernel
theorem dJ0_coder_7d493_7 : decode cJ0_coder_7d493 7 = .ok (.getfield 15, 3) := by decide +kernel
theorem dJ0_coder_7d493_10 : decode cJ0_coder_7d493 10 = .ok (.goto 4, 3) := by decide +kernel
theorem dJ0_coder_7d493_13 : decode cJ0_coder_7d493 13 = .ok (.iconst 1, 1) := by decide +kernel
theorem dJ0_coder_7d493_14 : decode cJ0_coder_7d493 14 = .ok (.ireturn, 1) := by decide +kernel
theorem dJ0_isLatin1_aae02_0 : decode cJ0_isLatin1_aae02 0 = .ok (.getstatic 38, 3) := by decide +kernel
theorem dJ0_isLatin1_aae02_3 : decode cJ0_isLatin1_aae02 3 = .ok (.ifCond .eq 14, 3) := by decide +kernel
theorem dJ0_isLatin1_aae02_6 : decode cJ0_isLatin1_aae02 6 = .ok (.aload_n 0, 1) := by decide +kernel
theorem dJ0_isLatin1_aae02_7 : decode cJ0_isLatin1_aae02 7 = .ok (.getfield 15, 3) := by decide +kernel
theorem dJ0_isLatin1_aae02_10 : decode cJ0_isLatin1_aae02 10 = .ok (.ifCond .ne 7, 3) := by decide +kernel
theorem dJ0_isLatin1_aae02_13 : decode cJ0_isLatin1_aae02 13 = .ok (.iconst 1, 1) := by decide +kernel
theorem dJ0_isLatin1_aae02_14 : decode cJ0_isLatin1_aae02 14 = .ok (.goto 4, 3) := by decide +kernel
theorem dJ0_isLatin1_aae02_17 : decode cJ0_isLatin1_aae02 17 = .ok (.iconst 0, 1) := by decide +kernel
theorem dJ0_isLatin1_aae02_18 : decode cJ0_isLatin1_aae02 18 = .ok (.ireturn, 1) := by decide +kernel
theorem dJ0_checkIndex_df160_0 : decode cJ0_checkIndex_df160 0 = .ok (.iload_n 0, 1) := by decide +kernel
theorem dJ0_checkIndex_df160_1 : decode cJ0_checkIndex_df160 1 = .ok (.iload_n 1, 1) := by decide +kernel
theorem dJ0_checkIndex_df160_2 : decode cJ0_checkIndex_df160 2 = .ok (.getstatic 1053, 3) := by decide +kernel
theorem dJ0_checkIndex_df160_5 : decode cJ0_checkIndex_df160 5 = .ok (.invokestatic 1059, 3) := by decide +kernel
theorem dJ0_checkIndex_df160_8 : decode cJ0_checkIndex_df160 8 = .ok (.pop, 1) := by decide +kernel
theorem dJ0_checkIndex_df160_9 : decode cJ0_checkIndex_df160 9 = .ok (.return_, 1) := by decide +kernel
theorem dJ0_checkBoundsBeginEnd_23922_0 : decode cJ0_checkBoundsBeginEnd_23922 0 = .ok (.iload_n 0, 1) := by decide +kernel
theorem dJ0_checkBoundsBeginEnd_23922_1 : decode cJ0_checkBoundsBeginEnd_23922 1 = .ok (.iload_n 1, 1) := by decide +kernel
theorem dJ0_checkBoundsBeginEnd_23922_2 : decode cJ0_checkBoundsBeginEnd_23922 2 = .ok (.iload_n 2, 1) := by decide +kernel
theorem dJ0_checkBoundsBeginEnd_23922_3 : decode cJ0_checkBoundsBeginEnd_23922 3 = .ok (.getstatic 1053, 3) := by decide +kernel
theorem dJ0_checkBoundsBeginEnd_23922_6 : decode cJ0_checkBoundsBeginEnd_23922 6 = .ok (.invokestatic 1062, 3) := by decide +kernel
theorem dJ0_checkBoundsBeginEnd_23922_9 : decode cJ0_checkBoundsBeginEnd_23922 9 = .ok (.pop, 1) := by decide +kernel
theorem dJ0_checkBoundsBeginEnd_23922_10 : decode cJ0_checkBoundsBeginEnd_23922 10 = .ok (.return_, 1) := by decide +kernel
theorem dJ1_charAt_3b067_0 : decode cJ1_charAt_3b067 0 = .ok (.iload_n 1, 1) := by decide +kernel
theorem dJ1_charAt_3b067_1 : decode cJ1_charAt_3b067 1 = .ok (.aload_n 0, 1) := by decide +kernel
theorem dJ1_charAt_3b067_2 : decode cJ1_charAt_3b067 2 = .ok (.arraylength, 1) := by decide +kernel
theorem dJ1_charAt_3b067_3 : decode cJ1_charAt_3b067 3 = .ok (.invokestatic 9, 3) := by decide +kernel
theorem dJ1_charAt_3b067_6 : decode cJ1_charAt_3b067 6 = .ok (.aload_n 0, 1) := by decide +kernel
theorem dJ1_charAt_3b067_7 : decode cJ1_charAt_3b067 7 = .ok (.iload_n 1, 1) := by decide +kernel
theorem dJ1_charAt_3b067_8 : decode cJ1_charAt_3b067 8 = .ok (.baload, 1) := by decide +kernel
theorem dJ1_charAt_3b067_9 : decode cJ1_charAt_3b067 9 = .ok (.sipush 255, 3) := by decide +kernel
theorem dJ1_charAt_3b067_12 : decode cJ1_charAt_3b067 12 = .ok (.iand, 1) := by decide +kernel
theorem dJ1_charAt_3b067_13 : decode cJ1_charAt_3b067 13 = .ok (.i2c, 1) := by decide +kernel
theorem dJ1_charAt_3b067_14 : decode cJ1_charAt_3b067 14 = .ok (.ireturn, 1) := by decide +kernel
theorem dJ1_canEncode_9a6ad_0 : decode cJ1_canEncode_9a6ad 0 = .ok (.iload_n 0, 1) := by decide +kernel
theorem dJ1_canEncode_9a6ad_1 : decode cJ1_canEncode_9a6ad 1 = .ok (.ifCond .lt 14, 3) := by decide +kernel
theorem dJ1_canEncode_9a6ad_4 : decode cJ1_canEncode_9a6ad 4 = .ok (.iload_n 0, 1) := by decide +kernel
theorem dJ1_canEncode_9a6ad_5 : decode cJ1_canEncode_9a6ad 5 = .ok (.sipush 255, 3) := by decide +kernel
theorem dJ1_canEncode_9a6ad_8 : decode cJ1_canEncode_9a6ad 8 = .ok (.if_icmp .gt 7, 3) := by decide +kernel
theorem dJ1_canEncode_9a6ad_11 : decode cJ1_canEncode_9a6ad 11 = .ok (.iconst 1, 1) := by decide +kernel
theorem dJ1_canEncode_9a6ad_12 : decode cJ1_canEncode_9a6ad 12 = .ok (.goto 4, 3) := by decide +kernel
theorem dJ1_canEncode_9a6ad_15 : decode cJ1_canEncode_9a6ad 15 = .ok (.iconst 0, 1) := by decide +kernel
theorem dJ1_canEncode_9a6ad_16 : decode cJ1_canEncode_9a6ad 16 = .ok (.ireturn, 1) := by decide +kernel
theorem dJ1_indexOf_4cfef_0 : decode cJ1_indexOf_4cfef 0 = .ok (.iload_n 1, 1) := by decide +kernel
theorem dJ1_indexOf_4cfef_1 : decode cJ1_indexOf_4cfef 1 = .ok (.invokestatic 88, 3) := by decide +kernel
theorem dJ1_indexOf_4cfef_4 : decode cJ1_indexOf_4cfef 4 = .ok (.ifCond .ne 5, 3) := by decide +kernel
theorem dJ1_indexOf_4cfef_7 : decode cJ1_indexOf_4cfef 7 = .ok (.iconst (-1), 1) := by decide +kernel
theorem dJ1_indexOf_4cfef_8 : decode cJ1_indexOf_4cfef 8 = .ok (.ireturn, 1) := by decide +kernel
theorem dJ1_indexOf_4cfef_9 : decode cJ1_indexOf_4cfef 9 = .ok (.iload_n 2, 1) := by decide +kernel
theorem dJ1_indexOf_4cfef_10 : decode cJ1_indexOf_4cfef 10 = .ok (.iconst 0, 1) := by decide +kernel
theorem dJ1_indexOf_4cfef_11 : decode cJ1_indexOf_4cfef 11 = .ok (.invokestatic 92, 3) := by decide +kernel
theorem dJ1_indexOf_4cfef_14 : decode cJ1_indexOf_4cfef 14 = .ok (.istore_n 2, 1) := by decide +kernel
theorem dJ1_indexOf_4cfef_15 : decode cJ1_indexOf_4cfef 15 = .ok (.iload_n 3, 1) := by decide +kernel
theorem dJ1_indexOf_4cfef_16 : decode cJ1_indexOf_4cfef 16 = .ok (.aload_n 0, 1) := by decide +kernel
theorem dJ1_indexOf_4cfef_17 : decode cJ1_indexOf_4cfef 17 = .ok (.arraylength, 1) := by decide +kernel
theorem dJ1_indexOf_4cfef_18 : decode cJ1_indexOf_4cfef 18 = .ok (.invokestatic 38, 3) := by decide +kernel
theorem dJ1_indexOf_4cfef_21 : decode cJ1_indexOf_4cfef 21 = .ok (.istore_n 3, 1) := by decide +kernel
theorem dJ1_indexOf_4cfef_22 : decode cJ1_indexOf_4cfef 22 = .ok (.iload_n 2, 1) := by decide +kernel
theorem dJ1_indexOf_4cfef_23 : decode cJ1_indexOf_4cfef 23 = .ok (.iload_n 3, 1) := by decide +kernel
theorem dJ1_indexOf_4cfef_24 : decode cJ1_indexOf_4cfef 24 = .ok (.if_icmp .lt 5, 3) := by decide +kernel
theorem dJ1_indexOf_4cfef_27 : decode cJ1_indexOf_4cfef 27 = .ok (.iconst (-1), 1) := by decide +kernel
theorem dJ1_indexOf_4cfef_28 : decode cJ1_indexOf_4cfef 28 = .ok (.ireturn, 1) := by decide +kernel
theorem dJ1_indexOf_4cfef_29 : decode cJ1_indexOf_4cfef 29 = .ok (.aload_n 0, 1) := by decide +kernel
theorem dJ1_indexOf_4cfef_30 : decode cJ1_indexOf_4cfef 30 = .ok (.iload_n 1, 1) := by decide +kernel
theorem dJ1_indexOf_4cfef_31 : decode cJ1_indexOf_4cfef 31 = .ok (.iload_n 2, 1) := by decide +kernel
theorem dJ1_indexOf_4cfef_32 : decode cJ1_indexOf_4cfef 32 = .ok (.iload_n 3, 1) := by decide +kernel
theorem dJ1_indexOf_4cfef_33 : decode cJ1_indexOf_4cfef 33 = .ok (.invokestatic 95, 3) := by decide +kernel
theorem dJ1_indexOf_4cfef_36 : decode cJ1_indexOf_4cfef 36 = .ok (.ireturn, 1) := by decide +kernel
theorem dJ1_indexOfChar_4cfef_0 : decode cJ1_indexOfChar_4cfef 0 = .ok (.iload_n 1, 1) := by decide +kernel
theorem dJ1_indexOfChar_4cfef_1 : decode cJ1_indexOfChar_4cfef 1 = .ok (.i2b, 1) := by decide +kernel
theorem dJ1_indexOfChar_4cfef_2 : decode cJ1_indexOfChar_4cfef 2 = .ok (.istore 4, 2) := by decide +kernel
theorem dJ1_indexOfChar_4cfef_4 : decode cJ1_indexOfChar_4cfef 4 = .ok (.iload_n 2, 1) := by decide +kernel
theorem dJ1_indexOfChar_4cfef_5 : decode cJ1_indexOfChar_4cfef 5 = .ok (.istore 5, 2) := by decide +kernel
theorem dJ1_indexOfChar_4cfef_7 : decode cJ1_indexOfChar_4cfef 7 = .ok (.iload 5, 2) := by decide +kernel
theorem dJ1_indexOfChar_4cfef_9 : decode cJ1_indexOfChar_4cfef 9 = .ok (.iload_n 3, 1) := by decide +kernel
theorem dJ1_indexOfChar_4cfef_10 : decode cJ1_indexOfChar_4cfef 10 = .ok (.if_icmp .ge 21, 3) := by decide +kernel
theorem dJ1_indexOfChar_4cfef_13 : decode cJ1_indexOfChar_4cfef 13 = .ok (.aload_n 0, 1) := by decide +kernel
theorem dJ1_indexOfChar_4cfef_14 : decode cJ1_indexOfChar_4cfef 14 = .ok (.iload 5, 2) := by decide +kernel
theorem dJ1_indexOfChar_4cfef_16 : decode cJ1_indexOfChar_4cfef 16 = .ok (.baload, 1) := by decide +kernel
theorem dJ1_indexOfChar_4cfef_17 : decode cJ1_indexOfChar_4cfef 17 = .ok (.iload 4, 2) := by decide +kernel
theorem dJ1_indexOfChar_4cfef_19 : decode cJ1_indexOfChar_4cfef 19 = .ok (.if_icmp .ne 6, 3) := by decide +kernel
theorem dJ1_indexOfChar_4cfef_22 : decode cJ1_indexOfChar_4cfef 22 = .ok (.iload 5, 2) := by decide +kernel
theorem dJ1_indexOfChar_4cfef_24 : decode cJ1_indexOfChar_4cfef 24 = .ok (.ireturn, 1) := by decide +kernel
theorem dJ1_indexOfChar_4cfef_25 : decode cJ1_indexOfChar_4cfef 25 = .ok (.iinc 5 1, 3) := by decide +kernel
theorem dJ1_indexOfChar_4cfef_28 : decode cJ1_indexOfChar_4cfef 28 = .ok (.goto (-21), 3) := by decide +kernel
theorem dJ1_indexOfChar_4cfef_31 : decode cJ1_indexOfChar_4cfef 31 = .ok (.iconst (-1), 1) := by decide +kernel
theorem dJ1_indexOfChar_4cfef_32 : decode cJ1_indexOfChar_4cfef 32 = .ok (.ireturn, 1) := by decide +kernel
theorem dJ2_getChar_3b067_0 : decode cJ2_getChar_3b067 0 = .ok (.getstatic 44, 3) := by decide +kernel
theorem dJ2_getChar_3b067_3 : decode cJ2_getChar_3b067 3 = .ok (.ifCond .ne 25, 3) := by decide +kernel
theorem dJ2_getChar_3b067_6 : decode cJ2_getChar_3b067 6 = .ok (.iload_n 1, 1) := by decide +kernel
theorem dJ2_getChar_3b067_7 : decode cJ2_getChar_3b067 7 = .ok (.ifCond .lt 11, 3) := by decide +kernel
theorem dJ2_getChar_3b067_10 : decode cJ2_getChar_3b067 10 = .ok (.iload_n 1, 1) := by decide +kernel
theorem dJ2_getChar_3b067_11 : decode cJ2_getChar_3b067 11 = .ok (.aload_n 0, 1) := by decide +kernel
theorem dJ2_getChar_3b067_12 : decode cJ2_getChar_3b067 12 = .ok (.invokestatic 48, 3) := by decide +kernel
theorem dJ2_getChar_3b067_15 : decode cJ2_getChar_3b067 15 = .ok (.if_icmp .lt 13, 3) := by decide +kernel
theorem dJ2_getChar_3b067_18 : decode cJ2_getChar_3b067 18 = .ok (.new 52, 3) := by decide +kernel
theorem dJ2_getChar_3b067_21 : decode cJ2_getChar_3b067 21 = .ok (.dup, 1) := by decide +kernel
theorem dJ2_getChar_3b067_22 : decode cJ2_getChar_3b067 22 = .ok (.ldc 54, 2) := by decide +kernel
theorem dJ2_getChar_3b067_24 : decode cJ2_getChar_3b067 24 = .ok (.invokespecial 56, 3) := by decide +kernel
theorem dJ2_getChar_3b067_27 : decode cJ2_getChar_3b067 27 = .ok (.athrow, 1) := by decide +kernel
theorem dJ2_getChar_3b067_28 : decode cJ2_getChar_3b067 28 = .ok (.iload_n 1, 1) := by decide +kernel
theorem dJ2_getChar_3b067_29 : decode cJ2_getChar_3b067 29 = .ok (.iconst 1, 1) := by decide +kernel
theorem dJ2_getChar_3b067_30 : decode cJ2_getChar_3b067 30 = .ok (.ishl, 1) := by decide +kernel
theorem dJ2_getChar_3b067_31 : decode cJ2_getChar_3b067 31 = .ok (.istore_n 1, 1) := by decide +kernel
theorem dJ2_getChar_3b067_32 : decode cJ2_getChar_3b067 32 = .ok (.aload_n 0, 1) := by decide +kernel
theorem dJ2_getChar_3b067_33 : decode cJ2_getChar_3b067 33 = .ok (.iload_n 1, 1) := by decide +kernel
theorem dJ2_getChar_3b067_34 : decode cJ2_getChar_3b067 34 = .ok (.iinc 1 1, 3) := by decide +kernel
theorem dJ2_getChar_3b067_37 : decode cJ2_getChar_3b067 37 = .ok (.baload, 1) := by decide +kernel
theorem dJ2_getChar_3b067_38 : decode cJ2_getChar_3b067 38 = .ok (.sipush 255, 3) := by decide +kernel
theorem dJ2_getChar_3b067_41 : decode cJ2_getChar_3b067 41 = .ok (.iand, 1) := by decide +kernel
theorem dJ2_getChar_3b067_42 : decode cJ2_getChar_3b067 42 = .ok (.getstatic 59, 3) := by decide +kernel
theorem dJ2_getChar_3b067_45 : decode cJ2_getChar_3b067 45 = .ok (.ishl, 1) := by decide +kernel
theorem dJ2_getChar_3b067_46 : decode cJ2_getChar_3b067 46 = .ok (.aload_n 0, 1) := by decide +kernel
theorem dJ2_getChar_3b067_47 : decode cJ2_getChar_3b067 47 = .ok (.iload_n 1, 1) := by decide +kernel
theorem dJ2_getChar_3b067_48 : decode cJ2_getChar_3b067 48 = .ok (.baload, 1) := by decide +kernel
theorem dJ2_getChar_3b067_49 : decode cJ2_getChar_3b067 49 = .ok (.sipush 255, 3) := by decide +kernel
theorem dJ2_getChar_3b067_52 : decode cJ2_getChar_3b067 52 = .ok (.iand, 1) := by decide +kernel
theorem dJ2_getChar_3b067_53 : decode cJ2_getChar_3b067 53 = .ok (.getstatic 63, 3) := by decide +kernel
theorem dJ2_getChar_3b067_56 : decode cJ2_getChar_3b067 56 = .ok (.ishl, 1) := by decide +kernel
theorem dJ2_getChar_3b067_57 : decode cJ2_getChar_3b067 57 = .ok (.ior, 1) := by decide +kernel
theorem dJ2_getChar_3b067_58 : decode cJ2_getChar_3b067 58 = .ok (.i2c, 1) := by decide +kernel
theorem dJ2_getChar_3b067_59 : decode cJ2_getChar_3b067 59 = .ok (.ireturn, 1) := by decide +kernel
theorem dJ2_length_9d52b_0 : decode cJ2_length_9d52b 0 = .ok (.aload_n 0, 1) := by decide +kernel
theorem dJ2_length_9d52b_1 : decode cJ2_length_9d52b 1 = .ok (.arraylength, 1) := by decide +kernel
theorem dJ2_length_9d52b_2 : decode cJ2_length_9d52b 2 = .ok (.iconst 1, 1) := by decide +kernel
theorem dJ2_length_9d52b_3 : decode cJ2_length_9d52b 3 = .ok (.ishr, 1) := by decide +kernel
theorem dJ2_length_9d52b_4 : decode cJ2_length_9d52b 4 = .ok (.ireturn, 1) := by decide +kernel
theorem dJ2_indexOf_4cfef_0 : decode cJ2_indexOf_4cfef 0 = .ok (.iload_n 2, 1) := by decide +kernel
theorem dJ2_indexOf_4cfef_1 : decode cJ2_indexOf_4cfef 1 = .ok (.iconst 0, 1) := by decide +kernel
theorem dJ2_indexOf_4cfef_2 : decode cJ2_indexOf_4cfef 2 = .ok (.invokestatic 224, 3) := by decide +kernel
theorem dJ2_indexOf_4cfef_5 : decode cJ2_indexOf_4cfef 5 = .ok (.istore_n 2, 1) := by decide +kernel
theorem dJ2_indexOf_4cfef_6 : decode cJ2_indexOf_4cfef 6 = .ok (.iload_n 3, 1) := by decide +kernel
theorem dJ2_indexOf_4cfef_7 : decode cJ2_indexOf_4cfef 7 = .ok (.aload_n 0, 1) := by decide +kernel
theorem dJ2_indexOf_4cfef_8 : decode cJ2_indexOf_4cfef 8 = .ok (.arraylength, 1) := by decide +kernel
theorem dJ2_indexOf_4cfef_9 : decode cJ2_indexOf_4cfef 9 = .ok (.iconst 1, 1) := by decide +kernel
theorem dJ2_indexOf_4cfef_10 : decode cJ2_indexOf_4cfef 10 = .ok (.ishr, 1) := by decide +kernel
theorem dJ2_indexOf_4cfef_11 : decode cJ2_indexOf_4cfef 11 = .ok (.invokestatic 183, 3) := by decide +kernel
theorem dJ2_indexOf_4cfef_14 : decode cJ2_indexOf_4cfef 14 = .ok (.istore_n 3, 1) := by decide +kernel
theorem dJ2_indexOf_4cfef_15 : decode cJ2_indexOf_4cfef 15 = .ok (.iload_n 2, 1) := by decide +kernel
theorem dJ2_indexOf_4cfef_16 : decode cJ2_indexOf_4cfef 16 = .ok (.iload_n 3, 1) := by decide +kernel
theorem dJ2_indexOf_4cfef_17 : decode cJ2_indexOf_4cfef 17 = .ok (.if_icmp .lt 5, 3) := by decide +kernel
theorem dJ2_indexOf_4cfef_20 : decode cJ2_indexOf_4cfef 20 = .ok (.iconst (-1), 1) := by decide +kernel
theorem dJ2_indexOf_4cfef_21 : decode cJ2_indexOf_4cfef 21 = .ok (.ireturn, 1) := by decide +kernel
theorem dJ2_indexOf_4cfef_22 : decode cJ2_indexOf_4cfef 22 = .ok (.iload_n 1, 1) := by decide +kernel
theorem dJ2_indexOf_4cfef_23 : decode cJ2_indexOf_4cfef 23 = .ok (.ldc 227, 2) := by decide +kernel
theorem dJ2_indexOf_4cfef_25 : decode cJ2_indexOf_4cfef 25 = .ok (.if_icmp .ge 11, 3) := by decide +kernel
theorem dJ2_indexOf_4cfef_28 : decode cJ2_indexOf_4cfef 28 = .ok (.aload_n 0, 1) := by decide +kernel
theorem dJ2_indexOf_4cfef_29 : decode cJ2_indexOf_4cfef 29 = .ok (.iload_n 1, 1) := by decide +kernel
theorem dJ2_indexOf_4cfef_30 : decode cJ2_indexOf_4cfef 30 = .ok (.iload_n 2, 1) := by decide +kernel
theorem dJ2_indexOf_4cfef_31 : decode cJ2_indexOf_4cfef 31 = .ok (.iload_n 3, 1) := by decide +kernel
theorem dJ2_indexOf_4cfef_32 : decode cJ2_indexOf_4cfef 32 = .ok (.invokestatic 228, 3) := by decide +kernel
theorem dJ2_indexOf_4cfef_35 : decode cJ2_indexOf_4cfef 35 = .ok (.ireturn, 1) := by decide +kernel
theorem dJ2_indexOf_4cfef_36 : decode cJ2_indexOf_4cfef 36 = .ok (.aload_n 0, 1) := by decide +kernel
theorem dJ2_indexOf_4cfef_37 : decode cJ2_indexOf_4cfef 37 = .ok (.iload_n 1, 1) := by decide +kernel
theorem dJ2_indexOf_4cfef_38 : decode cJ2_indexOf_4cfef 38 = .ok (.iload_n 2, 1) := by decide +kernel
theorem dJ2_indexOf_4cfef_39 : decode cJ2_indexOf_4cfef 39 = .ok (.iload_n 3, 1) := by decide +kernel
theorem dJ2_indexOf_4cfef_40 : decode cJ2_indexOf_4cfef 40 = .ok (.invokestatic 232, 3) := by decide +kernel
theorem dJ2_indexOf_4cfef_43 : decode cJ2_indexOf_4cfef 43 = .ok (.ireturn, 1) := by decide +kernel
theorem dJ2_indexOfChar_4cfef_0 : decode cJ2_indexOfChar_4cfef 0 = .ok (.iload_n 2, 1) := by decide +kernel
theorem dJ2_indexOfChar_4cfef_1 : decode cJ2_indexOfChar_4cfef 1 = .ok (.iload_n 3, 1) := by decide +kernel
theorem dJ2_indexOfChar_4cfef_2 : decode cJ2_indexOfChar_4cfef 2 = .ok (.aload_n 0, 1) := by decide +kernel
theorem dJ2_indexOfChar_4cfef_3 : decode cJ2_indexOfChar_4cfef 3 = .ok (.invokestatic 96, 3) := by decide +kernel
theorem dJ2_indexOfChar_4cfef_6 : decode cJ2_indexOfChar_4cfef 6 = .ok (.aload_n 0, 1) := by decide +kernel
theorem dJ2_indexOfChar_4cfef_7 : decode cJ2_indexOfChar_4cfef 7 = .ok (.iload_n 1, 1) := by decide +kernel
theorem dJ2_indexOfChar_4cfef_8 : decode cJ2_indexOfChar_4cfef 8 = .ok (.iload_n 2, 1) := by decide +kernel
theorem dJ2_indexOfChar_4cfef_9 : decode cJ2_indexOfChar_4cfef 9 = .ok (.iload_n 3, 1) := by decide +kernel
theorem dJ2_indexOfChar_4cfef_10 : decode cJ2_indexOfChar_4cfef 10 = .ok (.invokestatic 244, 3) := by decide +kernel
theorem dJ2_indexOfChar_4cfef_13 : decode cJ2_indexOfChar_4cfef 13 = .ok (.ireturn, 1) := by decide +kernel
theorem dJ2_indexOfCharUnsafe_4cfef_0 : decode cJ2_indexOfCharUnsafe_4cfef 0 = .ok (.iload_n 2, 1) := by decide +kernel
theorem dJ2_indexOfCharUnsafe_4cfef_1 : decode cJ2_indexOfCharUnsafe_4cfef 1 = .ok (.istore 4, 2) := by decide +kernel
theorem dJ2_indexOfCharUnsafe_4cfef_3 : decode cJ2_indexOfCharUnsafe_4cfef 3 = .ok (.iload 4, 2) := by decide +kernel
theorem dJ2_indexOfCharUnsafe_4cfef_5 : decode cJ2_indexOfCharUnsafe_4cfef 5 = .ok (.iload_n 3, 1) := by decide +kernel
theorem dJ2_indexOfCharUnsafe_4cfef_6 : decode cJ2_indexOfCharUnsafe_4cfef 6 = .ok (.if_icmp .ge 22, 3) := by decide +kernel
theorem dJ2_indexOfCharUnsafe_4cfef_9 : decode cJ2_indexOfCharUnsafe_4cfef 9 = .ok (.aload_n 0, 1) := by decide +kernel
theorem dJ2_indexOfCharUnsafe_4cfef_10 : decode cJ2_indexOfCharUnsafe_4cfef 10 = .ok (.iload 4, 2) := by decide +kernel
theorem dJ2_indexOfCharUnsafe_4cfef_12 : decode cJ2_indexOfCharUnsafe_4cfef 12 = .ok (.invokestatic 71, 3) := by decide +kernel
theorem dJ2_indexOfCharUnsafe_4cfef_15 : decode cJ2_indexOfCharUnsafe_4cfef 15 = .ok (.iload_n 1, 1) := by decide +kernel
theorem dJ2_indexOfCharUnsafe_4cfef_16 : decode cJ2_indexOfCharUnsafe_4cfef 16 = .ok (.if_icmp .ne 6, 3) := by decide +kernel
theorem dJ2_indexOfCharUnsafe_4cfef_19 : decode cJ2_indexOfCharUnsafe_4cfef 19 = .ok (.iload 4, 2) := by decide +kernel
theorem dJ2_indexOfCharUnsafe_4cfef_21 : decode cJ2_indexOfCharUnsafe_4cfef 21 = .ok (.ireturn, 1) := by decide +kernel
theorem dJ2_indexOfCharUnsafe_4cfef_22 : decode cJ2_indexOfCharUnsafe_4cfef 22 = .ok (.iinc 4 1, 3) := by decide +kernel
theorem dJ2_indexOfCharUnsafe_4cfef_25 : decode cJ2_indexOfCharUnsafe_4cfef 25 = .ok (.goto (-22), 3) := by decide +kernel
theorem dJ2_indexOfCharUnsafe_4cfef_28 : decode cJ2_indexOfCharUnsafe_4cfef 28 = .ok (.iconst (-1), 1) := by decide +kernel
theorem dJ2_indexOfCharUnsafe_4cfef_29 : decode cJ2_indexOfCharUnsafe_4cfef 29 = .ok (.ireturn, 1) := by decide +kernel
theorem dJ2_indexOfSupplementary_4cfef_0 : decode cJ2_indexOfSupplementary_4cfef 0 = .ok (.iload_n 1, 1) := by decide +kernel
theorem dJ2_indexOfSupplementary_4cfef_1 : decode cJ2_indexOfSupplementary_4cfef 1 = .ok (.invokestatic 164, 3) := by decide +kernel
theorem dJ2_indexOfSupplementary_4cfef_4 : decode cJ2_indexOfSupplementary_4cfef 4 = .ok (.ifCond .eq 65, 3) := by decide +kernel
theorem dJ2_indexOfSupplementary_4cfef_7 : decode cJ2_indexOfSupplementary_4cfef 7 = .ok (.iload_n 1, 1) := by decide +kernel
theorem dJ2_indexOfSupplementary_4cfef_8 : decode cJ2_indexOfSupplementary_4cfef 8 = .ok (.invokestatic 157, 3) := by decide +kernel
theorem dJ2_indexOfSupplementary_4cfef_11 : decode cJ2_indexOfSupplementary_4cfef 11 = .ok (.istore 4, 2) := by decide +kernel
theorem dJ2_indexOfSupplementary_4cfef_13 : decode cJ2_indexOfSupplementary_4cfef 13 = .ok (.iload_n 1, 1) := by decide +kernel
theorem dJ2_indexOfSupplementary_4cfef_14 : decode cJ2_indexOfSupplementary_4cfef 14 = .ok (.invokestatic 161, 3) := by decide +kernel
theorem dJ2_indexOfSupplementary_4cfef_17 : decode cJ2_indexOfSupplementary_4cfef 17 = .ok (.istore 5, 2) := by decide +kernel
theorem dJ2_indexOfSupplementary_4cfef_19 : decode cJ2_indexOfSupplementary_4cfef 19 = .ok (.iload_n 2, 1) := by decide +kernel
theorem dJ2_indexOfSupplementary_4cfef_20 : decode cJ2_indexOfSupplementary_4cfef 20 = .ok (.iload_n 3, 1) := by decide +kernel
theorem dJ2_indexOfSupplementary_4cfef_21 : decode cJ2_indexOfSupplementary_4cfef 21 = .ok (.aload_n 0, 1) := by decide +kernel
theorem dJ2_indexOfSupplementary_4cfef_22 : decode cJ2_indexOfSupplementary_4cfef 22 = .ok (.invokestatic 96, 3) := by decide +kernel
theorem dJ2_indexOfSupplementary_4cfef_25 : decode cJ2_indexOfSupplementary_4cfef 25 = .ok (.iload_n 2, 1) := by decide +kernel
theorem dJ2_indexOfSupplementary_4cfef_26 : decode cJ2_indexOfSupplementary_4cfef 26 = .ok (.istore 6, 2) := by decide +kernel
theorem dJ2_indexOfSupplementary_4cfef_28 : decode cJ2_indexOfSupplementary_4cfef 28 = .ok (.iload 6, 2) := by decide +kernel
theorem dJ2_indexOfSupplementary_4cfef_30 : decode cJ2_indexOfSupplementary_4cfef 30 = .ok (.iload_n 3, 1) := by decide +kernel
theorem dJ2_indexOfSupplementary_4cfef_31 : decode cJ2_indexOfSupplementary_4cfef 31 = .ok (.iconst 1, 1) := by decide +kernel
theorem dJ2_indexOfSupplementary_4cfef_32 : decode cJ2_indexOfSupplementary_4cfef 32 = .ok (.isub, 1) := by decide +kernel
theorem dJ2_indexOfSupplementary_4cfef_33 : decode cJ2_indexOfSupplementary_4cfef 33 = .ok (.if_icmp .ge 36, 3) := by decide +kernel
theorem dJ2_indexOfSupplementary_4cfef_36 : decode cJ2_indexOfSupplementary_4cfef 36 = .ok (.aload_n 0, 1) := by decide +kernel
theorem dJ2_indexOfSupplementary_4cfef_37 : decode cJ2_indexOfSupplementary_4cfef 37 = .ok (.iload 6, 2) := by decide +kernel
theorem dJ2_indexOfSupplementary_4cfef_39 : decode cJ2_indexOfSupplementary_4cfef 39 = .ok (.invokestatic 71, 3) := by decide +kernel
theorem dJ2_indexOfSupplementary_4cfef_42 : decode cJ2_indexOfSupplementary_4cfef 42 = .ok (.iload 4, 2) := by decide +kernel
theorem dJ2_indexOfSupplementary_4cfef_44 : decode cJ2_indexOfSupplementary_4cfef 44 = .ok (.if_icmp .ne 19, 3) := by decide +kernel
theorem dJ2_indexOfSupplementary_4cfef_47 : decode cJ2_indexOfSupplementary_4cfef 47 = .ok (.aload_n 0, 1) := by decide +kernel
theorem dJ2_indexOfSupplementary_4cfef_48 : decode cJ2_indexOfSupplementary_4cfef 48 = .ok (.iload 6, 2) := by decide +kernel
theorem dJ2_indexOfSupplementary_4cfef_50 : decode cJ2_indexOfSupplementary_4cfef 50 = .ok (.iconst 1, 1) := by decide +kernel
theorem dJ2_indexOfSupplementary_4cfef_51 : decode cJ2_indexOfSupplementary_4cfef 51 = .ok (.iadd, 1) := by decide +kernel
theorem dJ2_indexOfSupplementary_4cfef_52 : decode cJ2_indexOfSupplementary_4cfef 52 = .ok (.invokestatic 71, 3) := by decide +kernel
theorem dJ2_indexOfSupplementary_4cfef_55 : decode cJ2_indexOfSupplementary_4cfef 55 = .ok (.iload 5, 2) := by decide +kernel
theorem dJ2_indexOfSupplementary_4cfef_57 : decode cJ2_indexOfSupplementary_4cfef 57 = .ok (.if_icmp .ne 6, 3) := by decide +kernel
theorem dJ2_indexOfSupplementary_4cfef_60 : decode cJ2_indexOfSupplementary_4cfef 60 = .ok (.iload 6, 2) := by decide +kernel
theorem dJ2_indexOfSupplementary_4cfef_62 : decode cJ2_indexOfSupplementary_4cfef 62 = .ok (.ireturn, 1) := by decide +kernel
theorem dJ2_indexOfSupplementary_4cfef_63 : decode cJ2_indexOfSupplementary_4cfef 63 = .ok (.iinc 6 1, 3) := by decide +kernel
theorem dJ2_indexOfSupplementary_4cfef_66 : decode cJ2_indexOfSupplementary_4cfef 66 = .ok (.goto (-38), 3) := by decide +kernel
theorem dJ2_indexOfSupplementary_4cfef_69 : decode cJ2_indexOfSupplementary_4cfef 69 = .ok (.iconst (-1), 1) := by decide +kernel
theorem dJ2_indexOfSupplementary_4cfef_70 : decode cJ2_indexOfSupplementary_4cfef 70 = .ok (.ireturn, 1) := by decide +kernel
theorem dJ2_charAt_3b067_0 : decode cJ2_charAt_3b067 0 = .ok (.iload_n 1, 1) := by decide +kernel
theorem dJ2_charAt_3b067_1 : decode cJ2_charAt_3b067 1 = .ok (.aload_n 0, 1) := by decide +kernel
theorem dJ2_charAt_3b067_2 : decode cJ2_charAt_3b067 2 = .ok (.invokestatic 67, 3) := by decide +kernel
theorem dJ2_charAt_3b067_5 : decode cJ2_charAt_3b067 5 = .ok (.aload_n 0, 1) := by decide +kernel
theorem dJ2_charAt_3b067_6 : decode cJ2_charAt_3b067 6 = .ok (.iload_n 1, 1) := by decide +kernel
theorem dJ2_charAt_3b067_7 : decode cJ2_charAt_3b067 7 = .ok (.invokestatic 71, 3) := by decide +kernel
theorem dJ2_charAt_3b067_10 : decode cJ2_charAt_3b067 10 = .ok (.ireturn, 1) := by decide +kernel
theorem dJ2_checkIndex_2214a_0 : decode cJ2_checkIndex_2214a 0 = .ok (.iload_n 0, 1) := by decide +kernel
theorem dJ2_checkIndex_2214a_1 : decode cJ2_checkIndex_2214a 1 = .ok (.aload_n 1, 1) := by decide +kernel
theorem dJ2_checkIndex_2214a_2 : decode cJ2_checkIndex_2214a 2 = .ok (.invokestatic 48, 3) := by decide +kernel
theorem dJ2_checkIndex_2214a_5 : decode cJ2_checkIndex_2214a 5 = .ok (.invokestatic 414, 3) := by decide +kernel
theorem dJ2_checkIndex_2214a_8 : decode cJ2_checkIndex_2214a 8 = .ok (.return_, 1) := by decide +kernel
theorem dJ2_checkBoundsBeginEnd_d044e_0 : decode cJ2_checkBoundsBeginEnd_d044e 0 = .ok (.iload_n 0, 1) := by decide +kernel
theorem dJ2_checkBoundsBeginEnd_d044e_1 : decode cJ2_checkBoundsBeginEnd_d044e 1 = .ok (.iload_n 1, 1) := by decide +kernel
theorem dJ2_checkBoundsBeginEnd_d044e_2 : decode cJ2_checkBoundsBeginEnd_d044e 2 = .ok (.aload_n 2, 1) := by decide +kernel
theorem dJ2_checkBoundsBeginEnd_d044e_3 : decode cJ2_checkBoundsBeginEnd_d044e 3 = .ok (.invokestatic 48, 3) := by decide +kernel
theorem dJ2_checkBoundsBeginEnd_d044e_6 : decode cJ2_checkBoundsBeginEnd_d044e 6 = .ok (.invokestatic 241, 3) := by decide +kernel
theorem dJ2_checkBoundsBeginEnd_d044e_9 : decode cJ2_checkBoundsBeginEnd_d044e 9 = .ok (.return_, 1) := by decide +kernel
theorem dJ3_checkIndex_8e157_0 : decode cJ3_checkIndex_8e157 0 = .ok (.iload_n 0, 1) := by decide +kernel
theorem dJ3_checkIndex_8e157_1 : decode cJ3_checkIndex_8e157 1 = .ok (.ifCond .lt 8, 3) := by decide +kernel
theorem dJ3_checkIndex_8e157_4 : decode cJ3_checkIndex_8e157 4 = .ok (.iload_n 0, 1) := by decide +kernel
theorem dJ3_checkIndex_8e157_5 : decode cJ3_checkIndex_8e157 5 = .ok (.iload_n 1, 1) := by decide +kernel
theorem dJ3_checkIndex_8e157_6 : decode cJ3_checkIndex_8e157 6 = .ok (.if_icmp .lt 10, 3) := by decide +kernel
theorem dJ3_checkIndex_8e157_9 : decode cJ3_checkIndex_8e157 9 = .ok (.aload_n 2, 1) := by decide +kernel
theorem dJ3_checkIndex_8e157_10 : decode cJ3_checkIndex_8e157 10 = .ok (.iload_n 0, 1) := by decide +kernel
theorem dJ3_checkIndex_8e157_11 : decode cJ3_checkIndex_8e157 11 = .ok (.iload_n 1, 1) := by decide +kernel
theorem dJ3_checkIndex_8e157_12 : decode cJ3_checkIndex_8e157 12 = .ok (.invokestatic 95, 3) := by decide +kernel
theorem dJ3_checkIndex_8e157_15 : decode cJ3_checkIndex_8e157 15 = .ok (.athrow, 1) := by decide +kernel
theorem dJ3_checkIndex_8e157_16 : decode cJ3_checkIndex_8e157 16 = .ok (.iload_n 0, 1) := by decide +kernel
theorem dJ3_checkIndex_8e157_17 : decode cJ3_checkIndex_8e157 17 = .ok (.ireturn, 1) := by decide +kernel
theorem dJ3_checkFromToIndex_8c36e_0 : decode cJ3_checkFromToIndex_8c36e 0 = .ok (.iload_n 0, 1) := by decide +kernel
theorem dJ3_checkFromToIndex_8c36e_1 : decode cJ3_checkFromToIndex_8c36e 1 = .ok (.ifCond .lt 13, 3) := by decide +kernel
theorem dJ3_checkFromToIndex_8c36e_4 : decode cJ3_checkFromToIndex_8c36e 4 = .ok (.iload_n 0, 1) := by decide +kernel
theorem dJ3_checkFromToIndex_8c36e_5 : decode cJ3_checkFromToIndex_8c36e 5 = .ok (.iload_n 1, 1) := by decide +kernel
theorem dJ3_checkFromToIndex_8c36e_6 : decode cJ3_checkFromToIndex_8c36e 6 = .ok (.if_icmp .gt 8, 3) := by decide +kernel
theorem dJ3_checkFromToIndex_8c36e_9 : decode cJ3_checkFromToIndex_8c36e 9 = .ok (.iload_n 1, 1) := by decide +kernel
theorem dJ3_checkFromToIndex_8c36e_10 : decode cJ3_checkFromToIndex_8c36e 10 = .ok (.iload_n 2, 1) := by decide +kernel
theorem dJ3_checkFromToIndex_8c36e_11 : decode cJ3_checkFromToIndex_8c36e 11 = .ok (.if_icmp .le 11, 3) := by decide +kernel
theorem dJ3_checkFromToIndex_8c36e_14 : decode cJ3_checkFromToIndex_8c36e 14 = .ok (.aload_n 3, 1) := by decide +kernel
theorem dJ3_checkFromToIndex_8c36e_15 : decode cJ3_checkFromToIndex_8c36e 15 = .ok (.iload_n 0, 1) := by decide +kernel
theorem dJ3_checkFromToIndex_8c36e_16 : decode cJ3_checkFromToIndex_8c36e 16 = .ok (.iload_n 1, 1) := by decide +kernel
theorem dJ3_checkFromToIndex_8c36e_17 : decode cJ3_checkFromToIndex_8c36e 17 = .ok (.iload_n 2, 1) := by decide +kernel
theorem dJ3_checkFromToIndex_8c36e_18 : decode cJ3_checkFromToIndex_8c36e 18 = .ok (.invokestatic 99, 3) := by decide +kernel
theorem dJ3_checkFromToIndex_8c36e_21 : decode cJ3_checkFromToIndex_8c36e 21 = .ok (.athrow, 1) := by decide +kernel
theorem dJ3_checkFromToIndex_8c36e_22 : decode cJ3_checkFromToIndex_8c36e 22 = .ok (.iload_n 0, 1) := by decide +kernel
theorem dJ3_checkFromToIndex_8c36e_23 : decode cJ3_checkFromToIndex_8c36e 23 = .ok (.ireturn, 1) := by decide +kernel
theorem dL_tie_0 : decode cL_tie 0 = .ok (.aload_n 2, 1) := by decide +kernel
theorem dL_tie_1 : decode cL_tie 1 = .ok (.iconst 0, 1) := by decide +kernel
theorem dL_tie_2 : decode cL_tie 2 = .ok (.aload_n 0, 1) := by decide +kernel
theorem dL_tie_3 : decode cL_tie 3 = .ok (.iload_n 1, 1) := by decide +kernel
theorem dL_tie_4 : decode cL_tie 4 = .ok (.invokevirtual 7, 3) := by decide +kernel
theorem dL_tie_7 : decode cL_tie 7 = .ok (.i2l, 1) := by decide +kernel
theorem dL_tie_8 : decode cL_tie 8 = .ok (.lastore, 1) := by decide +kernel
theorem dL_tie_9 : decode cL_tie 9 = .ok (.goto 12, 3) := by decide +kernel
theorem dL_tie_12 : decode cL_tie 12 = .ok (.astore_n 3, 1) := by decide +kernel
theorem dL_tie_13 : decode cL_tie 13 = .ok (.iconst 1, 1) := by decide +kernel
theorem dL_tie_14 : decode cL_tie 14 = .ok (.ireturn, 1) := by decide +kernel
theorem dL_tie_15 : decode cL_tie 15 = .ok (.astore_n 3, 1) := by decide +kernel
theorem dL_tie_16 : decode cL_tie 16 = .ok (.iconst 2, 1) := by decide +kernel
theorem dL_tie_17 : decode cL_tie 17 = .ok (.ireturn, 1) := by decide +kernel
theorem dL_tie_18 : decode cL_tie 18 = .ok (.astore_n 3, 1) := by decide +kernel
theorem dL_tie_19 : decode cL_tie 19 = .ok (.iconst 3, 1) := by decide +kernel
theorem dL_tie_20 : decode cL_tie 20 = .ok (.ireturn, 1) := by decide +kernel
theorem dL_tie_21 : decode cL_tie 21 = .ok (.iconst 0, 1) := by decide +kernel
theorem dL_tie_22 : decode cL_tie 22 = .ok (.ireturn, 1) := by decide +kernel
theorem dL_cut_0 : decode cL_cut 0 = .ok (.aload_n 3, 1) := by decide +kernel
theorem dL_cut_1 : decode cL_cut 1 = .ok (.iconst 0, 1) := by decide +kernel
theorem dL_cut_2 : decode cL_cut 2 = .ok (.aload_n 0, 1) := by decide +kernel
theorem dL_cut_3 : decode cL_cut 3 = .ok (.iload_n 1, 1) := by decide +kernel
theorem dL_cut_4 : decode cL_cut 4 = .ok (.iload_n 2, 1) := by decide +kernel
theorem dL_cut_5 : decode cL_cut 5 = .ok (.invokevirtual 19, 3) := by decide +kernel
theorem dL_cut_8 : decode cL_cut 8 = .ok (.i2l, 1) := by decide +kernel
theorem dL_cut_9 : decode cL_cut 9 = .ok (.lastore, 1) := by decide +kernel
theorem dL_cut_10 : decode cL_cut 10 = .ok (.goto 7, 3) := by decide +kernel
theorem dL_cut_13 : decode cL_cut 13 = .ok (.astore 4, 2) := by decide +kernel
theorem dL_cut_15 : decode cL_cut 15 = .ok (.iconst 1, 1) := by decide +kernel
theorem dL_cut_16 : decode cL_cut 16 = .ok (.ireturn, 1) := by decide +kernel
theorem dL_cut_17 : decode cL_cut 17 = .ok (.iconst 0, 1) := by decide +kernel
theorem dL_cut_18 : decode cL_cut 18 = .ok (.ireturn, 1) := by decide +kernel
theorem dL_fast_0 : decode cL_fast 0 = .ok (.aload_n 3, 1) := by decide +kernel
theorem dL_fast_1 : decode cL_fast 1 = .ok (.iconst 0, 1) := by decide +kernel
theorem dL_fast_2 : decode cL_fast 2 = .ok (.aload_n 0, 1) := by decide +kernel
theorem dL_fast_3 : decode cL_fast 3 = .ok (.iload_n 1, 1) := by decide +kernel
theorem dL_fast_4 : decode cL_fast 4 = .ok (.iload_n 2, 1) := by decide +kernel
theorem dL_fast_5 : decode cL_fast 5 = .ok (.invokevirtual 23, 3) := by decide +kernel
theorem dL_fast_8 : decode cL_fast 8 = .ok (.i2l, 1) := by decide +kernel
theorem dL_fast_9 : decode cL_fast 9 = .ok (.lastore, 1) := by decide +kernel
theorem dL_fast_10 : decode cL_fast 10 = .ok (.goto 11, 3) := by decide +kernel
theorem dL_fast_13 : decode cL_fast 13 = .ok (.astore 4, 2) := by decide +kernel
theorem dL_fast_15 : decode cL_fast 15 = .ok (.iconst 1, 1) := by decide +kernel
theorem dL_fast_16 : decode cL_fast 16 = .ok (.ireturn, 1) := by decide +kernel
theorem dL_fast_17 : decode cL_fast 17 = .ok (.astore 4, 2) := by decide +kernel
theorem dL_fast_19 : decode cL_fast 19 = .ok (.iconst 2, 1) := by decide +kernel
theorem dL_fast_20 : decode cL_fast 20 = .ok (.ireturn, 1) := by decide +kernel
theorem dL_fast_21 : decode cL_fast 21 = .ok (.iconst 0, 1) := by decide +kernel
theorem dL_fast_22 : decode cL_fast 22 = .ok (.ireturn, 1) := by decide +kernel
theorem dL_give_0 : decode cL_give 0 = .ok (.aload 4, 2) := by decide +kernel
theorem dL_give_2 : decode cL_give 2 = .ok (.iconst 0, 1) := by decide +kernel
theorem dL_give_3 : decode cL_give 3 = .ok (.aload_n 0, 1) := by decide +kernel
theorem dL_give_4 : decode cL_give 4 = .ok (.iload_n 1, 1) := by decide +kernel
theorem dL_give_5 : decode cL_give 5 = .ok (.iload_n 2, 1) := by decide +kernel
theorem dL_give_6 : decode cL_give 6 = .ok (.iload_n 3, 1) := by decide +kernel
theorem dL_give_7 : decode cL_give 7 = .ok (.invokevirtual 26, 3) := by decide +kernel
theorem dL_give_10 : decode cL_give 10 = .ok (.i2l, 1) := by decide +kernel
theorem dL_give_11 : decode cL_give 11 = .ok (.lastore, 1) := by decide +kernel
theorem dL_give_12 : decode cL_give 12 = .ok (.goto 11, 3) := by decide +kernel
theorem dL_give_15 : decode cL_give 15 = .ok (.astore 5, 2) := by decide +kernel
theorem dL_give_17 : decode cL_give 17 = .ok (.iconst 1, 1) := by decide +kernel
theorem dL_give_18 : decode cL_give 18 = .ok (.ireturn, 1) := by decide +kernel
theorem dL_give_19 : decode cL_give 19 = .ok (.astore 5, 2) := by decide +kernel
theorem dL_give_21 : decode cL_give 21 = .ok (.iconst 2, 1) := by decide +kernel
theorem dL_give_22 : decode cL_give 22 = .ok (.ireturn, 1) := by decide +kernel
theorem dL_give_23 : decode cL_give 23 = .ok (.iconst 0, 1) := by decide +kernel
theorem dL_give_24 : decode cL_give 24 = .ok (.ireturn, 1) := by decide +kernel
theorem dL_storm_0 : decode cL_storm 0 = .ok (.aload_n 2, 1) := by decide +kernel
theorem dL_storm_1 : decode cL_storm 1 = .ok (.iconst 0, 1) := by decide +kernel
theorem dL_storm_2 : decode cL_storm 2 = .ok (.aload_n 0, 1) := by decide +kernel
theorem dL_storm_3 : decode cL_storm 3 = .ok (.iload_n 1, 1) := by decide +kernel
theorem dL_storm_4 : decode cL_storm 4 = .ok (.invokevirtual 30, 3) := by decide +kernel
theorem dL_storm_7 : decode cL_storm 7 = .ok (.i2l, 1) := by decide +kernel
theorem dL_storm_8 : decode cL_storm 8 = .ok (.lastore, 1) := by decide +kernel
theorem dL_storm_9 : decode cL_storm 9 = .ok (.goto 6, 3) := by decide +kernel
theorem dL_storm_12 : decode cL_storm 12 = .ok (.astore_n 3, 1) := by decide +kernel
theorem dL_storm_13 : decode cL_storm 13 = .ok (.iconst 1, 1) := by decide +kernel
theorem dL_storm_14 : decode cL_storm 14 = .ok (.ireturn, 1) := by decide +kernel
theorem dL_storm_15 : decode cL_storm 15 = .ok (.iconst 0, 1) := by decide +kernel
theorem dL_storm_16 : decode cL_storm 16 = .ok (.ireturn, 1) := by decide +kernel
theorem dL_belt_0 : decode cL_belt 0 = .ok (.aload_n 3, 1) := by decide +kernel
theorem dL_belt_1 : decode cL_belt 1 = .ok (.iconst 0, 1) := by decide +kernel
theorem dL_belt_2 : decode cL_belt 2 = .ok (.aload_n 0, 1) := by decide +kernel
theorem dL_belt_3 : decode cL_belt 3 = .ok (.iload_n 1, 1) := by decide +kernel
theorem dL_belt_4 : decode cL_belt 4 = .ok (.iload_n 2, 1) := by decide +kernel
theorem dL_belt_5 : decode cL_belt 5 = .ok (.invokevirtual 33, 3) := by decide +kernel
theorem dL_belt_8 : decode cL_belt 8 = .ok (.i2l, 1) := by decide +kernel
theorem dL_belt_9 : decode cL_belt 9 = .ok (.lastore, 1) := by decide +kernel
theorem dL_belt_10 : decode cL_belt 10 = .ok (.goto 15, 3) := by decide +kernel
theorem dL_belt_13 : decode cL_belt 13 = .ok (.astore 4, 2) := by decide +kernel
theorem dL_belt_15 : decode cL_belt 15 = .ok (.iconst 1, 1) := by decide +kernel
theorem dL_belt_16 : decode cL_belt 16 = .ok (.ireturn, 1) := by decide +kernel
theorem dL_belt_17 : decode cL_belt 17 = .ok (.astore 4, 2) := by decide +kernel
theorem dL_belt_19 : decode cL_belt 19 = .ok (.iconst 2, 1) := by decide +kernel
theorem dL_belt_20 : decode cL_belt 20 = .ok (.ireturn, 1) := by decide +kernel
theorem dL_belt_21 : decode cL_belt 21 = .ok (.astore 4, 2) := by decide +kernel
theorem dL_belt_23 : decode cL_belt 23 = .ok (.iconst 3, 1) := by decide +kernel
theorem dL_belt_24 : decode cL_belt 24 = .ok (.ireturn, 1) := by decide +kernel
theorem dL_belt_25 : decode cL_belt 25 = .ok (.iconst 0, 1) := by decide +kernel
theorem dL_belt_26 : decode cL_belt 26 = .ok (.ireturn, 1) := by decide +kernel
theorem dL_set_0 : decode cL_set 0 = .ok (.aload_n 3, 1) := by decide +kernel
theorem dL_set_1 : decode cL_set 1 = .ok (.iconst 0, 1) := by decide +kernel
theorem dL_set_2 : decode cL_set 2 = .ok (.aload_n 0, 1) := by decide +kernel
theorem dL_set_3 : decode cL_set 3 = .ok (.iload_n 1, 1) := by decide +kernel
theorem dL_set_4 : decode cL_set 4 = .ok (.iload_n 2, 1) := by decide +kernel
theorem dL_set_5 : decode cL_set 5 = .ok (.invokevirtual 36, 3) := by decide +kernel
theorem dL_set_8 : decode cL_set 8 = .ok (.i2l, 1) := by decide +kernel
theorem dL_set_9 : decode cL_set 9 = .ok (.lastore, 1) := by decide +kernel
theorem dL_set_10 : decode cL_set 10 = .ok (.goto 11, 3) := by decide +kernel
theorem dL_set_13 : decode cL_set 13 = .ok (.astore 4, 2) := by decide +kernel
theorem dL_set_15 : decode cL_set 15 = .ok (.iconst 1, 1) := by decide +kernel
theorem dL_set_16 : decode cL_set 16 = .ok (.ireturn, 1) := by decide +kernel
theorem dL_set_17 : decode cL_set 17 = .ok (.astore 4, 2) := by decide +kernel
theorem dL_set_19 : decode cL_set 19 = .ok (.iconst 2, 1) := by decide +kernel
theorem dL_set_20 : decode cL_set 20 = .ok (.ireturn, 1) := by decide +kernel
theorem dL_set_21 : decode cL_set 21 = .ok (.iconst 0, 1) := by decide +kernel
theorem dL_set_22 : decode cL_set 22 = .ok (.ireturn, 1) := by decide +kernel
theorem dL_append_0 : decode cL_append 0 = .ok (.aload_n 2, 1) := by decide +kernel
theorem dL_append_1 : decode cL_append 1 = .ok (.iconst 0, 1) := by decide +kernel
theorem dL_append_2 : decode cL_append 2 = .ok (.aload_n 0, 1) := by decide +kernel
theorem dL_append_3 : decode cL_append 3 = .ok (.iload_n 1, 1) := by decide +kernel
theorem dL_append_4 : decode cL_append 4 = .ok (.invokevirtual 39, 3) := by decide +kernel
theorem dL_append_7 : decode cL_append 7 = .ok (.i2l, 1) := by decide +kernel
theorem dL_append_8 : decode cL_append 8 = .ok (.lastore, 1) := by decide +kernel
theorem dL_append_9 : decode cL_append 9 = .ok (.goto 9, 3) := by decide +kernel
theorem dL_append_12 : decode cL_append 12 = .ok (.astore_n 3, 1) := by decide +kernel
theorem dL_append_13 : decode cL_append 13 = .ok (.iconst 1, 1) := by decide +kernel
theorem dL_append_14 : decode cL_append 14 = .ok (.ireturn, 1) := by decide +kernel
theorem dL_append_15 : decode cL_append 15 = .ok (.astore_n 3, 1) := by decide +kernel
theorem dL_append_16 : decode cL_append 16 = .ok (.iconst 2, 1) := by decide +kernel
theorem dL_append_17 : decode cL_append 17 = .ok (.ireturn, 1) := by decide +kernel
theorem dL_append_18 : decode cL_append 18 = .ok (.iconst 0, 1) := by decide +kernel
theorem dL_append_19 : decode cL_append 19 = .ok (.ireturn, 1) := by decide +kernel
theorem dL_work_0 : decode cL_work 0 = .ok (.aload_n 1, 1) := by decide +kernel
theorem dL_work_1 : decode cL_work 1 = .ok (.iconst 0, 1) := by decide +kernel
theorem dL_work_2 : decode cL_work 2 = .ok (.aload_n 0, 1) := by decide +kernel
theorem dL_work_3 : decode cL_work 3 = .ok (.invokevirtual 42, 3) := by decide +kernel
theorem dL_work_6 : decode cL_work 6 = .ok (.i2l, 1) := by decide +kernel
theorem dL_work_7 : decode cL_work 7 = .ok (.lastore, 1) := by decide +kernel
theorem dL_work_8 : decode cL_work 8 = .ok (.goto 6, 3) := by decide +kernel
theorem dL_work_11 : decode cL_work 11 = .ok (.astore_n 2, 1) := by decide +kernel
theorem dL_work_12 : decode cL_work 12 = .ok (.iconst 1, 1) := by decide +kernel
theorem dL_work_13 : decode cL_work 13 = .ok (.ireturn, 1) := by decide +kernel
theorem dL_work_14 : decode cL_work 14 = .ok (.iconst 0, 1) := by decide +kernel
theorem dL_work_15 : decode cL_work 15 = .ok (.ireturn, 1) := by decide +kernel
theorem dL_stopped_0 : decode cL_stopped 0 = .ok (.aload_n 2, 1) := by decide +kernel
theorem dL_stopped_1 : decode cL_stopped 1 = .ok (.iconst 0, 1) := by decide +kernel
theorem dL_stopped_2 : decode cL_stopped 2 = .ok (.aload_n 0, 1) := by decide +kernel
theorem dL_stopped_3 : decode cL_stopped 3 = .ok (.iload_n 1, 1) := by decide +kernel
theorem dL_stopped_4 : decode cL_stopped 4 = .ok (.invokevirtual 46, 3) := by decide +kernel
theorem dL_stopped_7 : decode cL_stopped 7 = .ok (.i2l, 1) := by decide +kernel
theorem dL_stopped_8 : decode cL_stopped 8 = .ok (.lastore, 1) := by decide +kernel
theorem dL_stopped_9 : decode cL_stopped 9 = .ok (.goto 6, 3) := by decide +kernel
theorem dL_stopped_12 : decode cL_stopped 12 = .ok (.astore_n 3, 1) := by decide +kernel
theorem dL_stopped_13 : decode cL_stopped 13 = .ok (.iconst 1, 1) := by decide +kernel
theorem dL_stopped_14 : decode cL_stopped 14 = .ok (.ireturn, 1) := by decide +kernel
theorem dL_stopped_15 : decode cL_stopped 15 = .ok (.iconst 0, 1) := by decide +kernel
theorem dL_stopped_16 : decode cL_stopped 16 = .ok (.ireturn, 1) := by decide +kernel
theorem dL_told_0 : decode cL_told 0 = .ok (.aload_n 3, 1) := by decide +kernel
theorem dL_told_1 : decode cL_told 1 = .ok (.iconst 0, 1) := by decide +kernel
theorem dL_told_2 : decode cL_told 2 = .ok (.aload_n 0, 1) := by decide +kernel
theorem dL_told_3 : decode cL_told 3 = .ok (.iload_n 1, 1) := by decide +kernel
theorem dL_told_4 : decode cL_told 4 = .ok (.iload_n 2, 1) := by decide +kernel
theorem dL_told_5 : decode cL_told 5 = .ok (.invokevirtual 49, 3) := by decide +kernel
theorem dL_told_8 : decode cL_told 8 = .ok (.i2l, 1) := by decide +kernel
theorem dL_told_9 : decode cL_told 9 = .ok (.lastore, 1) := by decide +kernel
theorem dL_told_10 : decode cL_told 10 = .ok (.goto 11, 3) := by decide +kernel
theorem dL_told_13 : decode cL_told 13 = .ok (.astore 4, 2) := by decide +kernel
theorem dL_told_15 : decode cL_told 15 = .ok (.iconst 1, 1) := by decide +kernel
theorem dL_told_16 : decode cL_told 16 = .ok (.ireturn, 1) := by decide +kernel
theorem dL_told_17 : decode cL_told 17 = .ok (.astore 4, 2) := by decide +kernel
theorem dL_told_19 : decode cL_told 19 = .ok (.iconst 2, 1) := by decide +kernel
theorem dL_told_20 : decode cL_told 20 = .ok (.ireturn, 1) := by decide +kernel
theorem dL_told_21 : decode cL_told 21 = .ok (.iconst 0, 1) := by decide +kernel
theorem dL_told_22 : decode cL_told 22 = .ok (.ireturn, 1) := by decide +kernel
theorem dL_undo_0 : decode cL_undo 0 = .ok (.aload_n 1, 1) := by decide +kernel
theorem dL_undo_1 : decode cL_undo 1 = .ok (.iconst 0, 1) := by decide +kernel
theorem dL_undo_2 : decode cL_undo 2 = .ok (.aload_n 0, 1) := by decide +kernel
theorem dL_undo_3 : decode cL_undo 3 = .ok (.invokevirtual 52, 3) := by decide +kernel
theorem dL_undo_6 : decode cL_undo 6 = .ok (.i2l, 1) := by decide +kernel
theorem dL_undo_7 : decode cL_undo 7 = .ok (.lastore, 1) := by decide +kernel
theorem dL_undo_8 : decode cL_undo 8 = .ok (.goto 6, 3) := by decide +kernel
theorem dL_undo_11 : decode cL_undo 11 = .ok (.astore_n 2, 1) := by decide +kernel
theorem dL_undo_12 : decode cL_undo 12 = .ok (.iconst 1, 1) := by decide +kernel
theorem dL_undo_13 : decode cL_undo 13 = .ok (.ireturn, 1) := by decide +kernel
theorem dL_undo_14 : decode cL_undo 14 = .ok (.iconst 0, 1) := by decide +kernel
theorem dL_undo_15 : decode cL_undo 15 = .ok (.ireturn, 1) := by decide +kernel
theorem dL_restore_0 : decode cL_restore 0 = .ok (.aload_n 1, 1) := by decide +kernel
theorem dL_restore_1 : decode cL_restore 1 = .ok (.iconst 0, 1) := by decide +kernel
theorem dL_restore_2 : decode cL_restore 2 = .ok (.aload_n 0, 1) := by decide +kernel
theorem dL_restore_3 : decode cL_restore 3 = .ok (.invokevirtual 55, 3) := by decide +kernel
theorem dL_restore_6 : decode cL_restore 6 = .ok (.i2l, 1) := by decide +kernel
theorem dL_restore_7 : decode cL_restore 7 = .ok (.lastore, 1) := by decide +kernel
theorem dL_restore_8 : decode cL_restore 8 = .ok (.goto 6, 3) := by decide +kernel
theorem dL_restore_11 : decode cL_restore 11 = .ok (.astore_n 2, 1) := by decide +kernel
theorem dL_restore_12 : decode cL_restore 12 = .ok (.iconst 1, 1) := by decide +kernel
theorem dL_restore_13 : decode cL_restore 13 = .ok (.ireturn, 1) := by decide +kernel
theorem dL_restore_14 : decode cL_restore 14 = .ok (.iconst 0, 1) := by decide +kernel
theorem dL_restore_15 : decode cL_restore 15 = .ok (.ireturn, 1) := by decide +kernel
theorem dL_letter_0 : decode cL_letter 0 = .ok (.aload_n 3, 1) := by decide +kernel
theorem dL_letter_1 : decode cL_letter 1 = .ok (.iconst 0, 1) := by decide +kernel
theorem dL_letter_2 : decode cL_letter 2 = .ok (.aload_n 0, 1) := by decide +kernel
theorem dL_letter_3 : decode cL_letter 3 = .ok (.iload_n 1, 1) := by decide +kernel
theorem dL_letter_4 : decode cL_letter 4 = .ok (.iload_n 2, 1) := by decide +kernel
theorem dL_letter_5 : decode cL_letter 5 = .ok (.invokevirtual 58, 3) := by decide +kernel
theorem dL_letter_8 : decode cL_letter 8 = .ok (.i2l, 1) := by decide +kernel
theorem dL_letter_9 : decode cL_letter 9 = .ok (.lastore, 1) := by decide +kernel
theorem dL_letter_10 : decode cL_letter 10 = .ok (.goto 11, 3) := by decide +kernel
theorem dL_letter_13 : decode cL_letter 13 = .ok (.astore 4, 2) := by decide +kernel
theorem dL_letter_15 : decode cL_letter 15 = .ok (.iconst 1, 1) := by decide +kernel
theorem dL_letter_16 : decode cL_letter 16 = .ok (.ireturn, 1) := by decide +kernel
theorem dL_letter_17 : decode cL_letter 17 = .ok (.astore 4, 2) := by decide +kernel
theorem dL_letter_19 : decode cL_letter 19 = .ok (.iconst 2, 1) := by decide +kernel
theorem dL_letter_20 : decode cL_letter 20 = .ok (.ireturn, 1) := by decide +kernel
theorem dL_letter_21 : decode cL_letter 21 = .ok (.iconst 0, 1) := by decide +kernel
theorem dL_letter_22 : decode cL_letter 22 = .ok (.ireturn, 1) := by decide +kernel
theorem dL_knot_0 : decode cL_knot 0 = .ok (.aload 5, 2) := by decide +kernel
theorem dL_knot_2 : decode cL_knot 2 = .ok (.iconst 0, 1) := by decide +kernel
theorem dL_knot_3 : decode cL_knot 3 = .ok (.aload_n 0, 1) := by decide +kernel
theorem dL_knot_4 : decode cL_knot 4 = .ok (.iload_n 1, 1) := by decide +kernel
theorem dL_knot_5 : decode cL_knot 5 = .ok (.iload_n 2, 1) := by decide +kernel
theorem dL_knot_6 : decode cL_knot 6 = .ok (.iload_n 3, 1) := by decide +kernel
theorem dL_knot_7 : decode cL_knot 7 = .ok (.iload 4, 2) := by decide +kernel
theorem dL_knot_9 : decode cL_knot 9 = .ok (.invokevirtual 61, 3) := by decide +kernel
theorem dL_knot_12 : decode cL_knot 12 = .ok (.i2l, 1) := by decide +kernel
theorem dL_knot_13 : decode cL_knot 13 = .ok (.lastore, 1) := by decide +kernel
theorem dL_knot_14 : decode cL_knot 14 = .ok (.goto 11, 3) := by decide +kernel
theorem dL_knot_17 : decode cL_knot 17 = .ok (.astore 6, 2) := by decide +kernel
theorem dL_knot_19 : decode cL_knot 19 = .ok (.iconst 1, 1) := by decide +kernel
theorem dL_knot_20 : decode cL_knot 20 = .ok (.ireturn, 1) := by decide +kernel
theorem dL_knot_21 : decode cL_knot 21 = .ok (.astore 6, 2) := by decide +kernel
theorem dL_knot_23 : decode cL_knot 23 = .ok (.iconst 2, 1) := by decide +kernel
theorem dL_knot_24 : decode cL_knot 24 = .ok (.ireturn, 1) := by decide +kernel
theorem dL_knot_25 : decode cL_knot 25 = .ok (.iconst 0, 1) := by decide +kernel
theorem dL_knot_26 : decode cL_knot 26 = .ok (.ireturn, 1) := by decide +kernel
theorem dL_name_0 : decode cL_name 0 = .ok (.aload 4, 2) := by decide +kernel
theorem dL_name_2 : decode cL_name 2 = .ok (.iconst 0, 1) := by decide +kernel
theorem dL_name_3 : decode cL_name 3 = .ok (.aload_n 0, 1) := by decide +kernel
theorem dL_name_4 : decode cL_name 4 = .ok (.iload_n 1, 1) := by decide +kernel
theorem dL_name_5 : decode cL_name 5 = .ok (.iload_n 2, 1) := by decide +kernel
theorem dL_name_6 : decode cL_name 6 = .ok (.iload_n 3, 1) := by decide +kernel
theorem dL_name_7 : decode cL_name 7 = .ok (.invokevirtual 65, 3) := by decide +kernel
theorem dL_name_10 : decode cL_name 10 = .ok (.i2l, 1) := by decide +kernel
theorem dL_name_11 : decode cL_name 11 = .ok (.lastore, 1) := by decide +kernel
theorem dL_name_12 : decode cL_name 12 = .ok (.goto 11, 3) := by decide +kernel
theorem dL_name_15 : decode cL_name 15 = .ok (.astore 5, 2) := by decide +kernel
theorem dL_name_17 : decode cL_name 17 = .ok (.iconst 1, 1) := by decide +kernel
theorem dL_name_18 : decode cL_name 18 = .ok (.ireturn, 1) := by decide +kernel
theorem dL_name_19 : decode cL_name 19 = .ok (.astore 5, 2) := by decide +kernel
theorem dL_name_21 : decode cL_name 21 = .ok (.iconst 2, 1) := by decide +kernel
theorem dL_name_22 : decode cL_name 22 = .ok (.ireturn, 1) := by decide +kernel
theorem dL_name_23 : decode cL_name 23 = .ok (.iconst 0, 1) := by decide +kernel
theorem dL_name_24 : decode cL_name 24 = .ok (.ireturn, 1) := by decide +kernel
theorem dL_fisher_0 : decode cL_fisher 0 = .ok (.aload_n 3, 1) := by decide +kernel
theorem dL_fisher_1 : decode cL_fisher 1 = .ok (.iconst 0, 1) := by decide +kernel
theorem dL_fisher_2 : decode cL_fisher 2 = .ok (.aload_n 0, 1) := by decide +kernel
theorem dL_fisher_3 : decode cL_fisher 3 = .ok (.iload_n 1, 1) := by decide +kernel
theorem dL_fisher_4 : decode cL_fisher 4 = .ok (.iload_n 2, 1) := by decide +kernel
theorem dL_fisher_5 : decode cL_fisher 5 = .ok (.invokevirtual 68, 3) := by decide +kernel
theorem dL_fisher_8 : decode cL_fisher 8 = .ok (.i2l, 1) := by decide +kernel
theorem dL_fisher_9 : decode cL_fisher 9 = .ok (.lastore, 1) := by decide +kernel
theorem dL_fisher_10 : decode cL_fisher 10 = .ok (.goto 11, 3) := by decide +kernel
theorem dL_fisher_13 : decode cL_fisher 13 = .ok (.astore 4, 2) := by decide +kernel
theorem dL_fisher_15 : decode cL_fisher 15 = .ok (.iconst 1, 1) := by decide +kernel
theorem dL_fisher_16 : decode cL_fisher 16 = .ok (.ireturn, 1) := by decide +kernel
theorem dL_fisher_17 : decode cL_fisher 17 = .ok (.astore 4, 2) := by decide +kernel
theorem dL_fisher_19 : decode cL_fisher 19 = .ok (.iconst 2, 1) := by decide +kernel
theorem dL_fisher_20 : decode cL_fisher 20 = .ok (.ireturn, 1) := by decide +kernel
theorem dL_fisher_21 : decode cL_fisher 21 = .ok (.iconst 0, 1) := by decide +kernel
theorem dL_fisher_22 : decode cL_fisher 22 = .ok (.ireturn, 1) := by decide +kernel
theorem dL_drowned_0 : decode cL_drowned 0 = .ok (.aload_n 3, 1) := by decide +kernel
theorem dL_drowned_1 : decode cL_drowned 1 = .ok (.iconst 0, 1) := by decide +kernel
theorem dL_drowned_2 : decode cL_drowned 2 = .ok (.aload_n 0, 1) := by decide +kernel
theorem dL_drowned_3 : decode cL_drowned 3 = .ok (.iload_n 1, 1) := by decide +kernel
theorem dL_drowned_4 : decode cL_drowned 4 = .ok (.iload_n 2, 1) := by decide +kernel
theorem dL_drowned_5 : decode cL_drowned 5 = .ok (.invokevirtual 71, 3) := by decide +kernel
theorem dL_drowned_8 : decode cL_drowned 8 = .ok (.i2l, 1) := by decide +kernel
theorem dL_drowned_9 : decode cL_drowned 9 = .ok (.lastore, 1) := by decide +kernel
theorem dL_drowned_10 : decode cL_drowned 10 = .ok (.goto 7, 3) := by decide +kernel
theorem dL_drowned_13 : decode cL_drowned 13 = .ok (.astore 4, 2) := by decide +kernel
theorem dL_drowned_15 : decode cL_drowned 15 = .ok (.iconst 1, 1) := by decide +kernel
theorem dL_drowned_16 : decode cL_drowned 16 = .ok (.ireturn, 1) := by decide +kernel
theorem dL_drowned_17 : decode cL_drowned 17 = .ok (.iconst 0, 1) := by decide +kernel
theorem dL_drowned_18 : decode cL_drowned 18 = .ok (.ireturn, 1) := by decide +kernel
theorem dL_find_0 : decode cL_find 0 = .ok (.aload_n 1, 1) := by decide +kernel
theorem dL_find_1 : decode cL_find 1 = .ok (.iconst 0, 1) := by decide +kernel
theorem dL_find_2 : decode cL_find 2 = .ok (.aload_n 0, 1) := by decide +kernel
theorem dL_find_3 : decode cL_find 3 = .ok (.invokevirtual 74, 3) := by decide +kernel
theorem dL_find_6 : decode cL_find 6 = .ok (.i2l, 1) := by decide +kernel
theorem dL_find_7 : decode cL_find 7 = .ok (.lastore, 1) := by decide +kernel
theorem dL_find_8 : decode cL_find 8 = .ok (.goto 6, 3) := by decide +kernel
theorem dL_find_11 : decode cL_find 11 = .ok (.astore_n 2, 1) := by decide +kernel
theorem dL_find_12 : decode cL_find 12 = .ok (.iconst 1, 1) := by decide +kernel
theorem dL_find_13 : decode cL_find 13 = .ok (.ireturn, 1) := by decide +kernel
theorem dL_find_14 : decode cL_find 14 = .ok (.iconst 0, 1) := by decide +kernel
theorem dL_find_15 : decode cL_find 15 = .ok (.ireturn, 1) := by decide +kernel
theorem dL_count_0 : decode cL_count 0 = .ok (.aload_n 2, 1) := by decide +kernel
theorem dL_count_1 : decode cL_count 1 = .ok (.iconst 0, 1) := by decide +kernel
theorem dL_count_2 : decode cL_count 2 = .ok (.aload_n 0, 1) := by decide +kernel
theorem dL_count_3 : decode cL_count 3 = .ok (.iload_n 1, 1) := by decide +kernel
theorem dL_count_4 : decode cL_count 4 = .ok (.invokevirtual 77, 3) := by decide +kernel
theorem dL_count_7 : decode cL_count 7 = .ok (.i2l, 1) := by decide +kernel
theorem dL_count_8 : decode cL_count 8 = .ok (.lastore, 1) := by decide +kernel
theorem dL_count_9 : decode cL_count 9 = .ok (.goto 6, 3) := by decide +kernel
theorem dL_count_12 : decode cL_count 12 = .ok (.astore_n 3, 1) := by decide +kernel
theorem dL_count_13 : decode cL_count 13 = .ok (.iconst 1, 1) := by decide +kernel
theorem dL_count_14 : decode cL_count 14 = .ok (.ireturn, 1) := by decide +kernel
theorem dL_count_15 : decode cL_count 15 = .ok (.iconst 0, 1) := by decide +kernel
theorem dL_count_16 : decode cL_count 16 = .ok (.ireturn, 1) := by decide +kernel
theorem dL_whyNot_0 : decode cL_whyNot 0 = .ok (.aload_n 2, 1) := by decide +kernel
theorem dL_whyNot_1 : decode cL_whyNot 1 = .ok (.iconst 0, 1) := by decide +kernel
theorem dL_whyNot_2 : decode cL_whyNot 2 = .ok (.aload_n 0, 1) := by decide +kernel
theorem dL_whyNot_3 : decode cL_whyNot 3 = .ok (.iload_n 1, 1) := by decide +kernel
theorem dL_whyNot_4 : decode cL_whyNot 4 = .ok (.invokevirtual 80, 3) := by decide +kernel
theorem dL_whyNot_7 : decode cL_whyNot 7 = .ok (.i2l, 1) := by decide +kernel
theorem dL_whyNot_8 : decode cL_whyNot 8 = .ok (.lastore, 1) := by decide +kernel
theorem dL_whyNot_9 : decode cL_whyNot 9 = .ok (.goto 9, 3) := by decide +kernel
theorem dL_whyNot_12 : decode cL_whyNot 12 = .ok (.astore_n 3, 1) := by decide +kernel
theorem dL_whyNot_13 : decode cL_whyNot 13 = .ok (.iconst 1, 1) := by decide +kernel
theorem dL_whyNot_14 : decode cL_whyNot 14 = .ok (.ireturn, 1) := by decide +kernel
theorem dL_whyNot_15 : decode cL_whyNot 15 = .ok (.astore_n 3, 1) := by decide +kernel
theorem dL_whyNot_16 : decode cL_whyNot 16 = .ok (.iconst 2, 1) := by decide +kernel
theorem dL_whyNot_17 : decode cL_whyNot 17 = .ok (.ireturn, 1) := by decide +kernel
theorem dL_whyNot_18 : decode cL_whyNot 18 = .ok (.iconst 0, 1) := by decide +kernel
theorem dL_whyNot_19 : decode cL_whyNot 19 = .ok (.ireturn, 1) := by decide +kernel
theorem dL_noGift_0 : decode cL_noGift 0 = .ok (.aload 4, 2) := by decide +kernel
theorem dL_noGift_2 : decode cL_noGift 2 = .ok (.iconst 0, 1) := by decide +kernel
theorem dL_noGift_3 : decode cL_noGift 3 = .ok (.aload_n 0, 1) := by decide +kernel
theorem dL_noGift_4 : decode cL_noGift 4 = .ok (.iload_n 1, 1) := by decide +kernel
theorem dL_noGift_5 : decode cL_noGift 5 = .ok (.iload_n 2, 1) := by decide +kernel
theorem dL_noGift_6 : decode cL_noGift 6 = .ok (.iload_n 3, 1) := by decide +kernel
theorem dL_noGift_7 : decode cL_noGift 7 = .ok (.invokevirtual 83, 3) := by decide +kernel
theorem dL_noGift_10 : decode cL_noGift 10 = .ok (.i2l, 1) := by decide +kernel
theorem dL_noGift_11 : decode cL_noGift 11 = .ok (.lastore, 1) := by decide +kernel
theorem dL_noGift_12 : decode cL_noGift 12 = .ok (.goto 7, 3) := by decide +kernel
theorem dL_noGift_15 : decode cL_noGift 15 = .ok (.astore 5, 2) := by decide +kernel
theorem dL_noGift_17 : decode cL_noGift 17 = .ok (.iconst 1, 1) := by decide +kernel
theorem dL_noGift_18 : decode cL_noGift 18 = .ok (.ireturn, 1) := by decide +kernel
theorem dL_noGift_19 : decode cL_noGift 19 = .ok (.iconst 0, 1) := by decide +kernel
theorem dL_noGift_20 : decode cL_noGift 20 = .ok (.ireturn, 1) := by decide +kernel
theorem dL_ifStorm_0 : decode cL_ifStorm 0 = .ok (.aload_n 3, 1) := by decide +kernel
theorem dL_ifStorm_1 : decode cL_ifStorm 1 = .ok (.iconst 0, 1) := by decide +kernel
theorem dL_ifStorm_2 : decode cL_ifStorm 2 = .ok (.aload_n 0, 1) := by decide +kernel
theorem dL_ifStorm_3 : decode cL_ifStorm 3 = .ok (.iload_n 1, 1) := by decide +kernel
theorem dL_ifStorm_4 : decode cL_ifStorm 4 = .ok (.iload_n 2, 1) := by decide +kernel
theorem dL_ifStorm_5 : decode cL_ifStorm 5 = .ok (.invokevirtual 86, 3) := by decide +kernel
theorem dL_ifStorm_8 : decode cL_ifStorm 8 = .ok (.i2l, 1) := by decide +kernel
theorem dL_ifStorm_9 : decode cL_ifStorm 9 = .ok (.lastore, 1) := by decide +kernel
theorem dL_ifStorm_10 : decode cL_ifStorm 10 = .ok (.goto 11, 3) := by decide +kernel
theorem dL_ifStorm_13 : decode cL_ifStorm 13 = .ok (.astore 4, 2) := by decide +kernel
theorem dL_ifStorm_15 : decode cL_ifStorm 15 = .ok (.iconst 1, 1) := by decide +kernel
theorem dL_ifStorm_16 : decode cL_ifStorm 16 = .ok (.ireturn, 1) := by decide +kernel
theorem dL_ifStorm_17 : decode cL_ifStorm 17 = .ok (.astore 4, 2) := by decide +kernel
theorem dL_ifStorm_19 : decode cL_ifStorm 19 = .ok (.iconst 2, 1) := by decide +kernel
theorem dL_ifStorm_20 : decode cL_ifStorm 20 = .ok (.ireturn, 1) := by decide +kernel
theorem dL_ifStorm_21 : decode cL_ifStorm 21 = .ok (.iconst 0, 1) := by decide +kernel
theorem dL_ifStorm_22 : decode cL_ifStorm 22 = .ok (.ireturn, 1) := by decide +kernel
theorem dL_bestBelt_0 : decode cL_bestBelt 0 = .ok (.aload_n 1, 1) := by decide +kernel
theorem dL_bestBelt_1 : decode cL_bestBelt 1 = .ok (.iconst 0, 1) := by decide +kernel
theorem dL_bestBelt_2 : decode cL_bestBelt 2 = .ok (.aload_n 0, 1) := by decide +kernel
theorem dL_bestBelt_3 : decode cL_bestBelt 3 = .ok (.invokevirtual 89, 3) := by decide +kernel
theorem dL_bestBelt_6 : decode cL_bestBelt 6 = .ok (.i2l, 1) := by decide +kernel
theorem dL_bestBelt_7 : decode cL_bestBelt 7 = .ok (.lastore, 1) := by decide +kernel
theorem dL_bestBelt_8 : decode cL_bestBelt 8 = .ok (.goto 6, 3) := by decide +kernel
theorem dL_bestBelt_11 : decode cL_bestBelt 11 = .ok (.astore_n 2, 1) := by decide +kernel
theorem dL_bestBelt_12 : decode cL_bestBelt 12 = .ok (.iconst 1, 1) := by decide +kernel
theorem dL_bestBelt_13 : decode cL_bestBelt 13 = .ok (.ireturn, 1) := by decide +kernel
theorem dL_bestBelt_14 : decode cL_bestBelt 14 = .ok (.iconst 0, 1) := by decide +kernel
theorem dL_bestBelt_15 : decode cL_bestBelt 15 = .ok (.ireturn, 1) := by decide +kernel
theorem dL_law_0 : decode cL_law 0 = .ok (.new 8, 3) := by decide +kernel
theorem dL_law_3 : decode cL_law 3 = .ok (.dup, 1) := by decide +kernel
theorem dL_law_4 : decode cL_law 4 = .ok (.invokespecial 92, 3) := by decide +kernel
theorem dL_law_7 : decode cL_law 7 = .ok (.astore_n 1, 1) := by decide +kernel
theorem dL_law_8 : decode cL_law 8 = .ok (.new 93, 3) := by decide +kernel
theorem dL_law_11 : decode cL_law 11 = .ok (.dup, 1) := by decide +kernel
theorem dL_law_12 : decode cL_law 12 = .ok (.invokespecial 95, 3) := by decide +kernel
theorem dL_law_15 : decode cL_law 15 = .ok (.astore_n 2, 1) := by decide +kernel
theorem dL_law_16 : decode cL_law 16 = .ok (.iconst 1, 1) := by decide +kernel
theorem dL_law_17 : decode cL_law 17 = .ok (.newarray .long, 2) := by decide +kernel
theorem dL_law_19 : decode cL_law 19 = .ok (.astore_n 3, 1) := by decide +kernel
theorem dL_law_20 : decode cL_law 20 = .ok (.iconst 0, 1) := by decide +kernel
theorem dL_law_21 : decode cL_law 21 = .ok (.istore 4, 2) := by decide +kernel
theorem dL_law_23 : decode cL_law 23 = .ok (.iload 4, 2) := by decide +kernel
theorem dL_law_25 : decode cL_law 25 = .ok (.aload_n 0, 1) := by decide +kernel
theorem dL_law_26 : decode cL_law 26 = .ok (.arraylength, 1) := by decide +kernel
theorem dL_law_27 : decode cL_law 27 = .ok (.iconst 5, 1) := by decide +kernel
theorem dL_law_28 : decode cL_law 28 = .ok (.isub, 1) := by decide +kernel
theorem dL_law_29 : decode cL_law 29 = .ok (.if_icmp .gt 1739, 3) := by decide +kernel
theorem dL_law_32 : decode cL_law 32 = .ok (.aload_n 0, 1) := by decide +kernel
theorem dL_law_33 : decode cL_law 33 = .ok (.iload 4, 2) := by decide +kernel
theorem dL_law_35 : decode cL_law 35 = .ok (.iaload, 1) := by decide +kernel
theorem dL_law_36 : decode cL_law 36 = .ok (.bipush 31, 2) := by decide +kernel
theorem dL_law_38 : decode cL_law 38 = .ok (.iand, 1) := by decide +kernel
theorem dL_law_39 : decode cL_law 39 = .ok (.tableswitch 1723 0 28 #[129, 185, 253, 321, 401, 457, 525, 593, 649, 662, 675, 719, 775, 843, 887, 900, 944, 1012, 1104, 1184, 1252, 1320, 1364, 1420, 1476, 1556, 1624, 1668, 1709], 129) := by decide +kernel
theorem dL_law_168 : decode cL_law 168 = .ok (.aload_n 1, 1) := by decide +kernel
theorem dL_law_169 : decode cL_law 169 = .ok (.aload_n 0, 1) := by decide +kernel
theorem dL_law_170 : decode cL_law 170 = .ok (.iload 4, 2) := by decide +kernel
theorem dL_law_172 : decode cL_law 172 = .ok (.iconst 1, 1) := by decide +kernel
theorem dL_law_173 : decode cL_law 173 = .ok (.iadd, 1) := by decide +kernel
theorem dL_law_174 : decode cL_law 174 = .ok (.iaload, 1) := by decide +kernel
theorem dL_law_175 : decode cL_law 175 = .ok (.aload_n 3, 1) := by decide +kernel
theorem dL_law_176 : decode cL_law 176 = .ok (.invokestatic 96, 3) := by decide +kernel
theorem dL_law_179 : decode cL_law 179 = .ok (.istore 5, 2) := by decide +kernel
theorem dL_law_181 : decode cL_law 181 = .ok (.aload_n 2, 1) := by decide +kernel
theorem dL_law_182 : decode cL_law 182 = .ok (.aload_n 0, 1) := by decide +kernel
theorem dL_law_183 : decode cL_law 183 = .ok (.iload 4, 2) := by decide +kernel
theorem dL_law_185 : decode cL_law 185 = .ok (.iconst 1, 1) := by decide +kernel
theorem dL_law_186 : decode cL_law 186 = .ok (.iadd, 1) := by decide +kernel
theorem dL_law_187 : decode cL_law 187 = .ok (.iaload, 1) := by decide +kernel
theorem dL_law_188 : decode cL_law 188 = .ok (.invokevirtual 101, 3) := by decide +kernel
theorem dL_law_191 : decode cL_law 191 = .ok (.istore 6, 2) := by decide +kernel
theorem dL_law_193 : decode cL_law 193 = .ok (.aload_n 2, 1) := by decide +kernel
theorem dL_law_194 : decode cL_law 194 = .ok (.invokevirtual 102, 3) := by decide +kernel
theorem dL_law_197 : decode cL_law 197 = .ok (.iload 5, 2) := by decide +kernel
theorem dL_law_199 : decode cL_law 199 = .ok (.if_icmp .eq 5, 3) := by decide +kernel
theorem dL_law_202 : decode cL_law 202 = .ok (.iconst 0, 1) := by decide +kernel
theorem dL_law_203 : decode cL_law 203 = .ok (.ireturn, 1) := by decide +kernel
theorem dL_law_204 : decode cL_law 204 = .ok (.iload 5, 2) := by decide +kernel
theorem dL_law_206 : decode cL_law 206 = .ok (.ifCond .ne 15, 3) := by decide +kernel
theorem dL_law_209 : decode cL_law 209 = .ok (.aload_n 3, 1) := by decide +kernel
theorem dL_law_210 : decode cL_law 210 = .ok (.iconst 0, 1) := by decide +kernel
theorem dL_law_211 : decode cL_law 211 = .ok (.laload, 1) := by decide +kernel
theorem dL_law_212 : decode cL_law 212 = .ok (.iload 6, 2) := by decide +kernel
theorem dL_law_214 : decode cL_law 214 = .ok (.i2l, 1) := by decide +kernel
theorem dL_law_215 : decode cL_law 215 = .ok (.lcmp, 1) := by decide +kernel
theorem dL_law_216 : decode cL_law 216 = .ok (.ifCond .eq 5, 3) := by decide +kernel
theorem dL_law_219 : decode cL_law 219 = .ok (.iconst 0, 1) := by decide +kernel
theorem dL_law_220 : decode cL_law 220 = .ok (.ireturn, 1) := by decide +kernel
theorem dL_law_221 : decode cL_law 221 = .ok (.goto 1541, 3) := by decide +kernel
theorem dL_law_224 : decode cL_law 224 = .ok (.aload_n 1, 1) := by decide +kernel
theorem dL_law_225 : decode cL_law 225 = .ok (.aload_n 0, 1) := by decide +kernel
theorem dL_law_226 : decode cL_law 226 = .ok (.iload 4, 2) := by decide +kernel
theorem dL_law_228 : decode cL_law 228 = .ok (.iconst 1, 1) := by decide +kernel
theorem dL_law_229 : decode cL_law 229 = .ok (.iadd, 1) := by decide +kernel
theorem dL_law_230 : decode cL_law 230 = .ok (.iaload, 1) := by decide +kernel
theorem dL_law_231 : decode cL_law 231 = .ok (.aload_n 0, 1) := by decide +kernel
theorem dL_law_232 : decode cL_law 232 = .ok (.iload 4, 2) := by decide +kernel
theorem dL_law_234 : decode cL_law 234 = .ok (.iconst 2, 1) := by decide +kernel
theorem dL_law_235 : decode cL_law 235 = .ok (.iadd, 1) := by decide +kernel
theorem dL_law_236 : decode cL_law 236 = .ok (.iaload, 1) := by decide +kernel
theorem dL_law_237 : decode cL_law 237 = .ok (.aload_n 3, 1) := by decide +kernel
theorem dL_law_238 : decode cL_law 238 = .ok (.invokestatic 105, 3) := by decide +kernel
theorem dL_law_241 : decode cL_law 241 = .ok (.istore 5, 2) := by decide +kernel
theorem dL_law_243 : decode cL_law 243 = .ok (.aload_n 2, 1) := by decide +kernel
theorem dL_law_244 : decode cL_law 244 = .ok (.aload_n 0, 1) := by decide +kernel
theorem dL_law_245 : decode cL_law 245 = .ok (.iload 4, 2) := by decide +kernel
theorem dL_law_247 : decode cL_law 247 = .ok (.iconst 1, 1) := by decide +kernel
theorem dL_law_248 : decode cL_law 248 = .ok (.iadd, 1) := by decide +kernel
theorem dL_law_249 : decode cL_law 249 = .ok (.iaload, 1) := by decide +kernel
theorem dL_law_250 : decode cL_law 250 = .ok (.aload_n 0, 1) := by decide +kernel
theorem dL_law_251 : decode cL_law 251 = .ok (.iload 4, 2) := by decide +kernel
theorem dL_law_253 : decode cL_law 253 = .ok (.iconst 2, 1) := by decide +kernel
theorem dL_law_254 : decode cL_law 254 = .ok (.iadd, 1) := by decide +kernel
theorem dL_law_255 : decode cL_law 255 = .ok (.iaload, 1) := by decide +kernel
theorem dL_law_256 : decode cL_law 256 = .ok (.invokevirtual 108, 3) := by decide +kernel
theorem dL_law_259 : decode cL_law 259 = .ok (.istore 6, 2) := by decide +kernel
theorem dL_law_261 : decode cL_law 261 = .ok (.aload_n 2, 1) := by decide +kernel
theorem dL_law_262 : decode cL_law 262 = .ok (.invokevirtual 102, 3) := by decide +kernel
theorem dL_law_265 : decode cL_law 265 = .ok (.iload 5, 2) := by decide +kernel
theorem dL_law_267 : decode cL_law 267 = .ok (.if_icmp .eq 5, 3) := by decide +kernel
theorem dL_law_270 : decode cL_law 270 = .ok (.iconst 0, 1) := by decide +kernel
theorem dL_law_271 : decode cL_law 271 = .ok (.ireturn, 1) := by decide +kernel
theorem dL_law_272 : decode cL_law 272 = .ok (.iload 5, 2) := by decide +kernel
theorem dL_law_274 : decode cL_law 274 = .ok (.ifCond .ne 15, 3) := by decide +kernel
theorem dL_law_277 : decode cL_law 277 = .ok (.aload_n 3, 1) := by decide +kernel
theorem dL_law_278 : decode cL_law 278 = .ok (.iconst 0, 1) := by decide +kernel
theorem dL_law_279 : decode cL_law 279 = .ok (.laload, 1) := by decide +kernel
theorem dL_law_280 : decode cL_law 280 = .ok (.iload 6, 2) := by decide +kernel
theorem dL_law_282 : decode cL_law 282 = .ok (.i2l, 1) := by decide +kernel
theorem dL_law_283 : decode cL_law 283 = .ok (.lcmp, 1) := by decide +kernel
theorem dL_law_284 : decode cL_law 284 = .ok (.ifCond .eq 5, 3) := by decide +kernel
theorem dL_law_287 : decode cL_law 287 = .ok (.iconst 0, 1) := by decide +kernel
theorem dL_law_288 : decode cL_law 288 = .ok (.ireturn, 1) := by decide +kernel
theorem dL_law_289 : decode cL_law 289 = .ok (.goto 1473, 3) := by decide +kernel
theorem dL_law_292 : decode cL_law 292 = .ok (.aload_n 1, 1) := by decide +kernel
theorem dL_law_293 : decode cL_law 293 = .ok (.aload_n 0, 1) := by decide +kernel
theorem dL_law_294 : decode cL_law 294 = .ok (.iload 4, 2) := by decide +kernel
theorem dL_law_296 : decode cL_law 296 = .ok (.iconst 1, 1) := by decide +kernel
theorem dL_law_297 : decode cL_law 297 = .ok (.iadd, 1) := by decide +kernel
theorem dL_law_298 : decode cL_law 298 = .ok (.iaload, 1) := by decide +kernel
theorem dL_law_299 : decode cL_law 299 = .ok (.aload_n 0, 1) := by decide +kernel
theorem dL_law_300 : decode cL_law 300 = .ok (.iload 4, 2) := by decide +kernel
theorem dL_law_302 : decode cL_law 302 = .ok (.iconst 2, 1) := by decide +kernel
theorem dL_law_303 : decode cL_law 303 = .ok (.iadd, 1) := by decide +kernel
theorem dL_law_304 : decode cL_law 304 = .ok (.iaload, 1) := by decide +kernel
theorem dL_law_305 : decode cL_law 305 = .ok (.aload_n 3, 1) := by decide +kernel
theorem dL_law_306 : decode cL_law 306 = .ok (.invokestatic 109, 3) := by decide +kernel
theorem dL_law_309 : decode cL_law 309 = .ok (.istore 5, 2) := by decide +kernel
theorem dL_law_311 : decode cL_law 311 = .ok (.aload_n 2, 1) := by decide +kernel
theorem dL_law_312 : decode cL_law 312 = .ok (.aload_n 0, 1) := by decide +kernel
theorem dL_law_313 : decode cL_law 313 = .ok (.iload 4, 2) := by decide +kernel
theorem dL_law_315 : decode cL_law 315 = .ok (.iconst 1, 1) := by decide +kernel
theorem dL_law_316 : decode cL_law 316 = .ok (.iadd, 1) := by decide +kernel
theorem dL_law_317 : decode cL_law 317 = .ok (.iaload, 1) := by decide +kernel
theorem dL_law_318 : decode cL_law 318 = .ok (.aload_n 0, 1) := by decide +kernel
theorem dL_law_319 : decode cL_law 319 = .ok (.iload 4, 2) := by decide +kernel
theorem dL_law_321 : decode cL_law 321 = .ok (.iconst 2, 1) := by decide +kernel
theorem dL_law_322 : decode cL_law 322 = .ok (.iadd, 1) := by decide +kernel
theorem dL_law_323 : decode cL_law 323 = .ok (.iaload, 1) := by decide +kernel
theorem dL_law_324 : decode cL_law 324 = .ok (.invokevirtual 111, 3) := by decide +kernel
theorem dL_law_327 : decode cL_law 327 = .ok (.istore 6, 2) := by decide +kernel
theorem dL_law_329 : decode cL_law 329 = .ok (.aload_n 2, 1) := by decide +kernel
theorem dL_law_330 : decode cL_law 330 = .ok (.invokevirtual 102, 3) := by decide +kernel
theorem dL_law_333 : decode cL_law 333 = .ok (.iload 5, 2) := by decide +kernel
theorem dL_law_335 : decode cL_law 335 = .ok (.if_icmp .eq 5, 3) := by decide +kernel
theorem dL_law_338 : decode cL_law 338 = .ok (.iconst 0, 1) := by decide +kernel
theorem dL_law_339 : decode cL_law 339 = .ok (.ireturn, 1) := by decide +kernel
theorem dL_law_340 : decode cL_law 340 = .ok (.iload 5, 2) := by decide +kernel
theorem dL_law_342 : decode cL_law 342 = .ok (.ifCond .ne 15, 3) := by decide +kernel
theorem dL_law_345 : decode cL_law 345 = .ok (.aload_n 3, 1) := by decide +kernel
theorem dL_law_346 : decode cL_law 346 = .ok (.iconst 0, 1) := by decide +kernel
theorem dL_law_347 : decode cL_law 347 = .ok (.laload, 1) := by decide +kernel
theorem dL_law_348 : decode cL_law 348 = .ok (.iload 6, 2) := by decide +kernel
theorem dL_law_350 : decode cL_law 350 = .ok (.i2l, 1) := by decide +kernel
theorem dL_law_351 : decode cL_law 351 = .ok (.lcmp, 1) := by decide +kernel
theorem dL_law_352 : decode cL_law 352 = .ok (.ifCond .eq 5, 3) := by decide +kernel
theorem dL_law_355 : decode cL_law 355 = .ok (.iconst 0, 1) := by decide +kernel
theorem dL_law_356 : decode cL_law 356 = .ok (.ireturn, 1) := by decide +kernel
theorem dL_law_357 : decode cL_law 357 = .ok (.goto 1405, 3) := by decide +kernel
theorem dL_law_360 : decode cL_law 360 = .ok (.aload_n 1, 1) := by decide +kernel
theorem dL_law_361 : decode cL_law 361 = .ok (.aload_n 0, 1) := by decide +kernel
theorem dL_law_362 : decode cL_law 362 = .ok (.iload 4, 2) := by decide +kernel
theorem dL_law_364 : decode cL_law 364 = .ok (.iconst 1, 1) := by decide +kernel
theorem dL_law_365 : decode cL_law 365 = .ok (.iadd, 1) := by decide +kernel
theorem dL_law_366 : decode cL_law 366 = .ok (.iaload, 1) := by decide +kernel
theorem dL_law_367 : decode cL_law 367 = .ok (.aload_n 0, 1) := by decide +kernel
theorem dL_law_368 : decode cL_law 368 = .ok (.iload 4, 2) := by decide +kernel
theorem dL_law_370 : decode cL_law 370 = .ok (.iconst 2, 1) := by decide +kernel
theorem dL_law_371 : decode cL_law 371 = .ok (.iadd, 1) := by decide +kernel
theorem dL_law_372 : decode cL_law 372 = .ok (.iaload, 1) := by decide +kernel
theorem dL_law_373 : decode cL_law 373 = .ok (.aload_n 0, 1) := by decide +kernel
theorem dL_law_374 : decode cL_law 374 = .ok (.iload 4, 2) := by decide +kernel
theorem dL_law_376 : decode cL_law 376 = .ok (.iconst 3, 1) := by decide +kernel
theorem dL_law_377 : decode cL_law 377 = .ok (.iadd, 1) := by decide +kernel
theorem dL_law_378 : decode cL_law 378 = .ok (.iaload, 1) := by decide +kernel
theorem dL_law_379 : decode cL_law 379 = .ok (.aload_n 3, 1) := by decide +kernel
theorem dL_law_380 : decode cL_law 380 = .ok (.invokestatic 112, 3) := by decide +kernel
theorem dL_law_383 : decode cL_law 383 = .ok (.istore 5, 2) := by decide +kernel
theorem dL_law_385 : decode cL_law 385 = .ok (.aload_n 2, 1) := by decide +kernel
theorem dL_law_386 : decode cL_law 386 = .ok (.aload_n 0, 1) := by decide +kernel
theorem dL_law_387 : decode cL_law 387 = .ok (.iload 4, 2) := by decide +kernel
theorem dL_law_389 : decode cL_law 389 = .ok (.iconst 1, 1) := by decide +kernel
theorem dL_law_390 : decode cL_law 390 = .ok (.iadd, 1) := by decide +kernel
theorem dL_law_391 : decode cL_law 391 = .ok (.iaload, 1) := by decide +kernel
theorem dL_law_392 : decode cL_law 392 = .ok (.aload_n 0, 1) := by decide +kernel
theorem dL_law_393 : decode cL_law 393 = .ok (.iload 4, 2) := by decide +kernel
theorem dL_law_395 : decode cL_law 395 = .ok (.iconst 2, 1) := by decide +kernel
theorem dL_law_396 : decode cL_law 396 = .ok (.iadd, 1) := by decide +kernel
theorem dL_law_397 : decode cL_law 397 = .ok (.iaload, 1) := by decide +kernel
theorem dL_law_398 : decode cL_law 398 = .ok (.aload_n 0, 1) := by decide +kernel
theorem dL_law_399 : decode cL_law 399 = .ok (.iload 4, 2) := by decide +kernel
theorem dL_law_401 : decode cL_law 401 = .ok (.iconst 3, 1) := by decide +kernel
theorem dL_law_402 : decode cL_law 402 = .ok (.iadd, 1) := by decide +kernel
theorem dL_law_403 : decode cL_law 403 = .ok (.iaload, 1) := by decide +kernel
theorem dL_law_404 : decode cL_law 404 = .ok (.invokevirtual 115, 3) := by decide +kernel
theorem dL_law_407 : decode cL_law 407 = .ok (.istore 6, 2) := by decide +kernel
theorem dL_law_409 : decode cL_law 409 = .ok (.aload_n 2, 1) := by decide +kernel
theorem dL_law_410 : decode cL_law 410 = .ok (.invokevirtual 102, 3) := by decide +kernel
theorem dL_law_413 : decode cL_law 413 = .ok (.iload 5, 2) := by decide +kernel
theorem dL_law_415 : decode cL_law 415 = .ok (.if_icmp .eq 5, 3) := by decide +kernel
theorem dL_law_418 : decode cL_law 418 = .ok (.iconst 0, 1) := by decide +kernel
theorem dL_law_419 : decode cL_law 419 = .ok (.ireturn, 1) := by decide +kernel
theorem dL_law_420 : decode cL_law 420 = .ok (.iload 5, 2) := by decide +kernel
theorem dL_law_422 : decode cL_law 422 = .ok (.ifCond .ne 15, 3) := by decide +kernel
theorem dL_law_425 : decode cL_law 425 = .ok (.aload_n 3, 1) := by decide +kernel
theorem dL_law_426 : decode cL_law 426 = .ok (.iconst 0, 1) := by decide +kernel
theorem dL_law_427 : decode cL_law 427 = .ok (.laload, 1) := by decide +kernel
theorem dL_law_428 : decode cL_law 428 = .ok (.iload 6, 2) := by decide +kernel
theorem dL_law_430 : decode cL_law 430 = .ok (.i2l, 1) := by decide +kernel
theorem dL_law_431 : decode cL_law 431 = .ok (.lcmp, 1) := by decide +kernel
theorem dL_law_432 : decode cL_law 432 = .ok (.ifCond .eq 5, 3) := by decide +kernel
theorem dL_law_435 : decode cL_law 435 = .ok (.iconst 0, 1) := by decide +kernel
theorem dL_law_436 : decode cL_law 436 = .ok (.ireturn, 1) := by decide +kernel
theorem dL_law_437 : decode cL_law 437 = .ok (.goto 1325, 3) := by decide +kernel
theorem dL_law_440 : decode cL_law 440 = .ok (.aload_n 1, 1) := by decide +kernel
theorem dL_law_441 : decode cL_law 441 = .ok (.aload_n 0, 1) := by decide +kernel
theorem dL_law_442 : decode cL_law 442 = .ok (.iload 4, 2) := by decide +kernel
theorem dL_law_444 : decode cL_law 444 = .ok (.iconst 1, 1) := by decide +kernel
theorem dL_law_445 : decode cL_law 445 = .ok (.iadd, 1) := by decide +kernel
theorem dL_law_446 : decode cL_law 446 = .ok (.iaload, 1) := by decide +kernel
theorem dL_law_447 : decode cL_law 447 = .ok (.aload_n 3, 1) := by decide +kernel
theorem dL_law_448 : decode cL_law 448 = .ok (.invokestatic 116, 3) := by decide +kernel
theorem dL_law_451 : decode cL_law 451 = .ok (.istore 5, 2) := by decide +kernel
theorem dL_law_453 : decode cL_law 453 = .ok (.aload_n 2, 1) := by decide +kernel
theorem dL_law_454 : decode cL_law 454 = .ok (.aload_n 0, 1) := by decide +kernel
theorem dL_law_455 : decode cL_law 455 = .ok (.iload 4, 2) := by decide +kernel
theorem dL_law_457 : decode cL_law 457 = .ok (.iconst 1, 1) := by decide +kernel
theorem dL_law_458 : decode cL_law 458 = .ok (.iadd, 1) := by decide +kernel
theorem dL_law_459 : decode cL_law 459 = .ok (.iaload, 1) := by decide +kernel
theorem dL_law_460 : decode cL_law 460 = .ok (.invokevirtual 118, 3) := by decide +kernel
theorem dL_law_463 : decode cL_law 463 = .ok (.istore 6, 2) := by decide +kernel
theorem dL_law_465 : decode cL_law 465 = .ok (.aload_n 2, 1) := by decide +kernel
theorem dL_law_466 : decode cL_law 466 = .ok (.invokevirtual 102, 3) := by decide +kernel
theorem dL_law_469 : decode cL_law 469 = .ok (.iload 5, 2) := by decide +kernel
theorem dL_law_471 : decode cL_law 471 = .ok (.if_icmp .eq 5, 3) := by decide +kernel
theorem dL_law_474 : decode cL_law 474 = .ok (.iconst 0, 1) := by decide +kernel
theorem dL_law_475 : decode cL_law 475 = .ok (.ireturn, 1) := by decide +kernel
theorem dL_law_476 : decode cL_law 476 = .ok (.iload 5, 2) := by decide +kernel
theorem dL_law_478 : decode cL_law 478 = .ok (.ifCond .ne 15, 3) := by decide +kernel
theorem dL_law_481 : decode cL_law 481 = .ok (.aload_n 3, 1) := by decide +kernel
theorem dL_law_482 : decode cL_law 482 = .ok (.iconst 0, 1) := by decide +kernel
theorem dL_law_483 : decode cL_law 483 = .ok (.laload, 1) := by decide +kernel
theorem dL_law_484 : decode cL_law 484 = .ok (.iload 6, 2) := by decide +kernel
theorem dL_law_486 : decode cL_law 486 = .ok (.i2l, 1) := by decide +kernel
theorem dL_law_487 : decode cL_law 487 = .ok (.lcmp, 1) := by decide +kernel
theorem dL_law_488 : decode cL_law 488 = .ok (.ifCond .eq 5, 3) := by decide +kernel
theorem dL_law_491 : decode cL_law 491 = .ok (.iconst 0, 1) := by decide +kernel
theorem dL_law_492 : decode cL_law 492 = .ok (.ireturn, 1) := by decide +kernel
theorem dL_law_493 : decode cL_law 493 = .ok (.goto 1269, 3) := by decide +kernel
theorem dL_law_496 : decode cL_law 496 = .ok (.aload_n 1, 1) := by decide +kernel
theorem dL_law_497 : decode cL_law 497 = .ok (.aload_n 0, 1) := by decide +kernel
theorem dL_law_498 : decode cL_law 498 = .ok (.iload 4, 2) := by decide +kernel
theorem dL_law_500 : decode cL_law 500 = .ok (.iconst 1, 1) := by decide +kernel
theorem dL_law_501 : decode cL_law 501 = .ok (.iadd, 1) := by decide +kernel
theorem dL_law_502 : decode cL_law 502 = .ok (.iaload, 1) := by decide +kernel
theorem dL_law_503 : decode cL_law 503 = .ok (.aload_n 0, 1) := by decide +kernel
theorem dL_law_504 : decode cL_law 504 = .ok (.iload 4, 2) := by decide +kernel
theorem dL_law_506 : decode cL_law 506 = .ok (.iconst 2, 1) := by decide +kernel
theorem dL_law_507 : decode cL_law 507 = .ok (.iadd, 1) := by decide +kernel
theorem dL_law_508 : decode cL_law 508 = .ok (.iaload, 1) := by decide +kernel
theorem dL_law_509 : decode cL_law 509 = .ok (.aload_n 3, 1) := by decide +kernel
theorem dL_law_510 : decode cL_law 510 = .ok (.invokestatic 119, 3) := by decide +kernel
theorem dL_law_513 : decode cL_law 513 = .ok (.istore 5, 2) := by decide +kernel
theorem dL_law_515 : decode cL_law 515 = .ok (.aload_n 2, 1) := by decide +kernel
theorem dL_law_516 : decode cL_law 516 = .ok (.aload_n 0, 1) := by decide +kernel
theorem dL_law_517 : decode cL_law 517 = .ok (.iload 4, 2) := by decide +kernel
theorem dL_law_519 : decode cL_law 519 = .ok (.iconst 1, 1) := by decide +kernel
theorem dL_law_520 : decode cL_law 520 = .ok (.iadd, 1) := by decide +kernel
theorem dL_law_521 : decode cL_law 521 = .ok (.iaload, 1) := by decide +kernel
theorem dL_law_522 : decode cL_law 522 = .ok (.aload_n 0, 1) := by decide +kernel
theorem dL_law_523 : decode cL_law 523 = .ok (.iload 4, 2) := by decide +kernel
theorem dL_law_525 : decode cL_law 525 = .ok (.iconst 2, 1) := by decide +kernel
theorem dL_law_526 : decode cL_law 526 = .ok (.iadd, 1) := by decide +kernel
theorem dL_law_527 : decode cL_law 527 = .ok (.iaload, 1) := by decide +kernel
theorem dL_law_528 : decode cL_law 528 = .ok (.invokevirtual 121, 3) := by decide +kernel
theorem dL_law_531 : decode cL_law 531 = .ok (.istore 6, 2) := by decide +kernel
theorem dL_law_533 : decode cL_law 533 = .ok (.aload_n 2, 1) := by decide +kernel
theorem dL_law_534 : decode cL_law 534 = .ok (.invokevirtual 102, 3) := by decide +kernel
theorem dL_law_537 : decode cL_law 537 = .ok (.iload 5, 2) := by decide +kernel
theorem dL_law_539 : decode cL_law 539 = .ok (.if_icmp .eq 5, 3) := by decide +kernel
theorem dL_law_542 : decode cL_law 542 = .ok (.iconst 0, 1) := by decide +kernel
theorem dL_law_543 : decode cL_law 543 = .ok (.ireturn, 1) := by decide +kernel
theorem dL_law_544 : decode cL_law 544 = .ok (.iload 5, 2) := by decide +kernel
theorem dL_law_546 : decode cL_law 546 = .ok (.ifCond .ne 15, 3) := by decide +kernel
theorem dL_law_549 : decode cL_law 549 = .ok (.aload_n 3, 1) := by decide +kernel
theorem dL_law_550 : decode cL_law 550 = .ok (.iconst 0, 1) := by decide +kernel
theorem dL_law_551 : decode cL_law 551 = .ok (.laload, 1) := by decide +kernel
theorem dL_law_552 : decode cL_law 552 = .ok (.iload 6, 2) := by decide +kernel
theorem dL_law_554 : decode cL_law 554 = .ok (.i2l, 1) := by decide +kernel
theorem dL_law_555 : decode cL_law 555 = .ok (.lcmp, 1) := by decide +kernel
theorem dL_law_556 : decode cL_law 556 = .ok (.ifCond .eq 5, 3) := by decide +kernel
theorem dL_law_559 : decode cL_law 559 = .ok (.iconst 0, 1) := by decide +kernel
theorem dL_law_560 : decode cL_law 560 = .ok (.ireturn, 1) := by decide +kernel
theorem dL_law_561 : decode cL_law 561 = .ok (.goto 1201, 3) := by decide +kernel
theorem dL_law_564 : decode cL_law 564 = .ok (.aload_n 1, 1) := by decide +kernel
theorem dL_law_565 : decode cL_law 565 = .ok (.aload_n 0, 1) := by decide +kernel
theorem dL_law_566 : decode cL_law 566 = .ok (.iload 4, 2) := by decide +kernel
theorem dL_law_568 : decode cL_law 568 = .ok (.iconst 1, 1) := by decide +kernel
theorem dL_law_569 : decode cL_law 569 = .ok (.iadd, 1) := by decide +kernel
theorem dL_law_570 : decode cL_law 570 = .ok (.iaload, 1) := by decide +kernel
theorem dL_law_571 : decode cL_law 571 = .ok (.aload_n 0, 1) := by decide +kernel
theorem dL_law_572 : decode cL_law 572 = .ok (.iload 4, 2) := by decide +kernel
theorem dL_law_574 : decode cL_law 574 = .ok (.iconst 2, 1) := by decide +kernel
theorem dL_law_575 : decode cL_law 575 = .ok (.iadd, 1) := by decide +kernel
theorem dL_law_576 : decode cL_law 576 = .ok (.iaload, 1) := by decide +kernel
theorem dL_law_577 : decode cL_law 577 = .ok (.aload_n 3, 1) := by decide +kernel
theorem dL_law_578 : decode cL_law 578 = .ok (.invokestatic 122, 3) := by decide +kernel
theorem dL_law_581 : decode cL_law 581 = .ok (.istore 5, 2) := by decide +kernel
theorem dL_law_583 : decode cL_law 583 = .ok (.aload_n 2, 1) := by decide +kernel
theorem dL_law_584 : decode cL_law 584 = .ok (.aload_n 0, 1) := by decide +kernel
theorem dL_law_585 : decode cL_law 585 = .ok (.iload 4, 2) := by decide +kernel
theorem dL_law_587 : decode cL_law 587 = .ok (.iconst 1, 1) := by decide +kernel
theorem dL_law_588 : decode cL_law 588 = .ok (.iadd, 1) := by decide +kernel
theorem dL_law_589 : decode cL_law 589 = .ok (.iaload, 1) := by decide +kernel
theorem dL_law_590 : decode cL_law 590 = .ok (.aload_n 0, 1) := by decide +kernel
theorem dL_law_591 : decode cL_law 591 = .ok (.iload 4, 2) := by decide +kernel
theorem dL_law_593 : decode cL_law 593 = .ok (.iconst 2, 1) := by decide +kernel
theorem dL_law_594 : decode cL_law 594 = .ok (.iadd, 1) := by decide +kernel
theorem dL_law_595 : decode cL_law 595 = .ok (.iaload, 1) := by decide +kernel
theorem dL_law_596 : decode cL_law 596 = .ok (.invokevirtual 124, 3) := by decide +kernel
theorem dL_law_599 : decode cL_law 599 = .ok (.istore 6, 2) := by decide +kernel
theorem dL_law_601 : decode cL_law 601 = .ok (.aload_n 2, 1) := by decide +kernel
theorem dL_law_602 : decode cL_law 602 = .ok (.invokevirtual 102, 3) := by decide +kernel
theorem dL_law_605 : decode cL_law 605 = .ok (.iload 5, 2) := by decide +kernel
theorem dL_law_607 : decode cL_law 607 = .ok (.if_icmp .eq 5, 3) := by decide +kernel
theorem dL_law_610 : decode cL_law 610 = .ok (.iconst 0, 1) := by decide +kernel
theorem dL_law_611 : decode cL_law 611 = .ok (.ireturn, 1) := by decide +kernel
theorem dL_law_612 : decode cL_law 612 = .ok (.iload 5, 2) := by decide +kernel
theorem dL_law_614 : decode cL_law 614 = .ok (.ifCond .ne 15, 3) := by decide +kernel
theorem dL_law_617 : decode cL_law 617 = .ok (.aload_n 3, 1) := by decide +kernel
theorem dL_law_618 : decode cL_law 618 = .ok (.iconst 0, 1) := by decide +kernel
theorem dL_law_619 : decode cL_law 619 = .ok (.laload, 1) := by decide +kernel
theorem dL_law_620 : decode cL_law 620 = .ok (.iload 6, 2) := by decide +kernel
theorem dL_law_622 : decode cL_law 622 = .ok (.i2l, 1) := by decide +kernel
theorem dL_law_623 : decode cL_law 623 = .ok (.lcmp, 1) := by decide +kernel
theorem dL_law_624 : decode cL_law 624 = .ok (.ifCond .eq 5, 3) := by decide +kernel
theorem dL_law_627 : decode cL_law 627 = .ok (.iconst 0, 1) := by decide +kernel
theorem dL_law_628 : decode cL_law 628 = .ok (.ireturn, 1) := by decide +kernel
theorem dL_law_629 : decode cL_law 629 = .ok (.goto 1133, 3) := by decide +kernel
theorem dL_law_632 : decode cL_law 632 = .ok (.aload_n 1, 1) := by decide +kernel
theorem dL_law_633 : decode cL_law 633 = .ok (.aload_n 0, 1) := by decide +kernel
theorem dL_law_634 : decode cL_law 634 = .ok (.iload 4, 2) := by decide +kernel
theorem dL_law_636 : decode cL_law 636 = .ok (.iconst 1, 1) := by decide +kernel
theorem dL_law_637 : decode cL_law 637 = .ok (.iadd, 1) := by decide +kernel
theorem dL_law_638 : decode cL_law 638 = .ok (.iaload, 1) := by decide +kernel
theorem dL_law_639 : decode cL_law 639 = .ok (.aload_n 3, 1) := by decide +kernel
theorem dL_law_640 : decode cL_law 640 = .ok (.invokestatic 125, 3) := by decide +kernel
theorem dL_law_643 : decode cL_law 643 = .ok (.istore 5, 2) := by decide +kernel
theorem dL_law_645 : decode cL_law 645 = .ok (.aload_n 2, 1) := by decide +kernel
theorem dL_law_646 : decode cL_law 646 = .ok (.aload_n 0, 1) := by decide +kernel
theorem dL_law_647 : decode cL_law 647 = .ok (.iload 4, 2) := by decide +kernel
theorem dL_law_649 : decode cL_law 649 = .ok (.iconst 1, 1) := by decide +kernel
theorem dL_law_650 : decode cL_law 650 = .ok (.iadd, 1) := by decide +kernel
theorem dL_law_651 : decode cL_law 651 = .ok (.iaload, 1) := by decide +kernel
theorem dL_law_652 : decode cL_law 652 = .ok (.invokevirtual 127, 3) := by decide +kernel
theorem dL_law_655 : decode cL_law 655 = .ok (.istore 6, 2) := by decide +kernel
theorem dL_law_657 : decode cL_law 657 = .ok (.aload_n 2, 1) := by decide +kernel
theorem dL_law_658 : decode cL_law 658 = .ok (.invokevirtual 102, 3) := by decide +kernel
theorem dL_law_661 : decode cL_law 661 = .ok (.iload 5, 2) := by decide +kernel
theorem dL_law_663 : decode cL_law 663 = .ok (.if_icmp .eq 5, 3) := by decide +kernel
theorem dL_law_666 : decode cL_law 666 = .ok (.iconst 0, 1) := by decide +kernel
theorem dL_law_667 : decode cL_law 667 = .ok (.ireturn, 1) := by decide +kernel
theorem dL_law_668 : decode cL_law 668 = .ok (.iload 5, 2) := by decide +kernel
theorem dL_law_670 : decode cL_law 670 = .ok (.ifCond .ne 15, 3) := by decide +kernel
theorem dL_law_673 : decode cL_law 673 = .ok (.aload_n 3, 1) := by decide +kernel
theorem dL_law_674 : decode cL_law 674 = .ok (.iconst 0, 1) := by decide +kernel
theorem dL_law_675 : decode cL_law 675 = .ok (.laload, 1) := by decide +kernel
theorem dL_law_676 : decode cL_law 676 = .ok (.iload 6, 2) := by decide +kernel
theorem dL_law_678 : decode cL_law 678 = .ok (.i2l, 1) := by decide +kernel
theorem dL_law_679 : decode cL_law 679 = .ok (.lcmp, 1) := by decide +kernel
theorem dL_law_680 : decode cL_law 680 = .ok (.ifCond .eq 5, 3) := by decide +kernel
theorem dL_law_683 : decode cL_law 683 = .ok (.iconst 0, 1) := by decide +kernel
theorem dL_law_684 : decode cL_law 684 = .ok (.ireturn, 1) := by decide +kernel
theorem dL_law_685 : decode cL_law 685 = .ok (.goto 1077, 3) := by decide +kernel
theorem dL_law_688 : decode cL_law 688 = .ok (.aload_n 1, 1) := by decide +kernel
theorem dL_law_689 : decode cL_law 689 = .ok (.invokevirtual 128, 3) := by decide +kernel
theorem dL_law_692 : decode cL_law 692 = .ok (.aload_n 2, 1) := by decide +kernel
theorem dL_law_693 : decode cL_law 693 = .ok (.invokevirtual 131, 3) := by decide +kernel
theorem dL_law_696 : decode cL_law 696 = .ok (.if_icmp .eq 1066, 3) := by decide +kernel
theorem dL_law_699 : decode cL_law 699 = .ok (.iconst 0, 1) := by decide +kernel
theorem dL_law_700 : decode cL_law 700 = .ok (.ireturn, 1) := by decide +kernel
theorem dL_law_701 : decode cL_law 701 = .ok (.aload_n 1, 1) := by decide +kernel
theorem dL_law_702 : decode cL_law 702 = .ok (.invokevirtual 132, 3) := by decide +kernel
theorem dL_law_705 : decode cL_law 705 = .ok (.aload_n 2, 1) := by decide +kernel
theorem dL_law_706 : decode cL_law 706 = .ok (.invokevirtual 135, 3) := by decide +kernel
theorem dL_law_709 : decode cL_law 709 = .ok (.if_icmp .eq 1053, 3) := by decide +kernel
theorem dL_law_712 : decode cL_law 712 = .ok (.iconst 0, 1) := by decide +kernel
theorem dL_law_713 : decode cL_law 713 = .ok (.ireturn, 1) := by decide +kernel
theorem dL_law_714 : decode cL_law 714 = .ok (.aload_n 1, 1) := by decide +kernel
theorem dL_law_715 : decode cL_law 715 = .ok (.aload_n 3, 1) := by decide +kernel
theorem dL_law_716 : decode cL_law 716 = .ok (.invokestatic 136, 3) := by decide +kernel
theorem dL_law_719 : decode cL_law 719 = .ok (.istore 5, 2) := by decide +kernel
theorem dL_law_721 : decode cL_law 721 = .ok (.aload_n 2, 1) := by decide +kernel
theorem dL_law_722 : decode cL_law 722 = .ok (.invokevirtual 139, 3) := by decide +kernel
theorem dL_law_725 : decode cL_law 725 = .ok (.istore 6, 2) := by decide +kernel
theorem dL_law_727 : decode cL_law 727 = .ok (.aload_n 2, 1) := by decide +kernel
theorem dL_law_728 : decode cL_law 728 = .ok (.invokevirtual 102, 3) := by decide +kernel
theorem dL_law_731 : decode cL_law 731 = .ok (.iload 5, 2) := by decide +kernel
theorem dL_law_733 : decode cL_law 733 = .ok (.if_icmp .eq 5, 3) := by decide +kernel
theorem dL_law_736 : decode cL_law 736 = .ok (.iconst 0, 1) := by decide +kernel
theorem dL_law_737 : decode cL_law 737 = .ok (.ireturn, 1) := by decide +kernel
theorem dL_law_738 : decode cL_law 738 = .ok (.iload 5, 2) := by decide +kernel
theorem dL_law_740 : decode cL_law 740 = .ok (.ifCond .ne 15, 3) := by decide +kernel
theorem dL_law_743 : decode cL_law 743 = .ok (.aload_n 3, 1) := by decide +kernel
theorem dL_law_744 : decode cL_law 744 = .ok (.iconst 0, 1) := by decide +kernel
theorem dL_law_745 : decode cL_law 745 = .ok (.laload, 1) := by decide +kernel
theorem dL_law_746 : decode cL_law 746 = .ok (.iload 6, 2) := by decide +kernel
theorem dL_law_748 : decode cL_law 748 = .ok (.i2l, 1) := by decide +kernel
theorem dL_law_749 : decode cL_law 749 = .ok (.lcmp, 1) := by decide +kernel
theorem dL_law_750 : decode cL_law 750 = .ok (.ifCond .eq 5, 3) := by decide +kernel
theorem dL_law_753 : decode cL_law 753 = .ok (.iconst 0, 1) := by decide +kernel
theorem dL_law_754 : decode cL_law 754 = .ok (.ireturn, 1) := by decide +kernel
theorem dL_law_755 : decode cL_law 755 = .ok (.goto 1007, 3) := by decide +kernel
theorem dL_law_758 : decode cL_law 758 = .ok (.aload_n 1, 1) := by decide +kernel
theorem dL_law_759 : decode cL_law 759 = .ok (.aload_n 0, 1) := by decide +kernel
theorem dL_law_760 : decode cL_law 760 = .ok (.iload 4, 2) := by decide +kernel
theorem dL_law_762 : decode cL_law 762 = .ok (.iconst 1, 1) := by decide +kernel
theorem dL_law_763 : decode cL_law 763 = .ok (.iadd, 1) := by decide +kernel
theorem dL_law_764 : decode cL_law 764 = .ok (.iaload, 1) := by decide +kernel
theorem dL_law_765 : decode cL_law 765 = .ok (.aload_n 3, 1) := by decide +kernel
theorem dL_law_766 : decode cL_law 766 = .ok (.invokestatic 140, 3) := by decide +kernel
theorem dL_law_769 : decode cL_law 769 = .ok (.istore 5, 2) := by decide +kernel
theorem dL_law_771 : decode cL_law 771 = .ok (.aload_n 2, 1) := by decide +kernel
theorem dL_law_772 : decode cL_law 772 = .ok (.aload_n 0, 1) := by decide +kernel
theorem dL_law_773 : decode cL_law 773 = .ok (.iload 4, 2) := by decide +kernel
theorem dL_law_775 : decode cL_law 775 = .ok (.iconst 1, 1) := by decide +kernel
theorem dL_law_776 : decode cL_law 776 = .ok (.iadd, 1) := by decide +kernel
theorem dL_law_777 : decode cL_law 777 = .ok (.iaload, 1) := by decide +kernel
theorem dL_law_778 : decode cL_law 778 = .ok (.invokevirtual 142, 3) := by decide +kernel
theorem dL_law_781 : decode cL_law 781 = .ok (.istore 6, 2) := by decide +kernel
theorem dL_law_783 : decode cL_law 783 = .ok (.aload_n 2, 1) := by decide +kernel
theorem dL_law_784 : decode cL_law 784 = .ok (.invokevirtual 102, 3) := by decide +kernel
theorem dL_law_787 : decode cL_law 787 = .ok (.iload 5, 2) := by decide +kernel
theorem dL_law_789 : decode cL_law 789 = .ok (.if_icmp .eq 5, 3) := by decide +kernel
theorem dL_law_792 : decode cL_law 792 = .ok (.iconst 0, 1) := by decide +kernel
theorem dL_law_793 : decode cL_law 793 = .ok (.ireturn, 1) := by decide +kernel
theorem dL_law_794 : decode cL_law 794 = .ok (.iload 5, 2) := by decide +kernel
theorem dL_law_796 : decode cL_law 796 = .ok (.ifCond .ne 15, 3) := by decide +kernel
theorem dL_law_799 : decode cL_law 799 = .ok (.aload_n 3, 1) := by decide +kernel
theorem dL_law_800 : decode cL_law 800 = .ok (.iconst 0, 1) := by decide +kernel
theorem dL_law_801 : decode cL_law 801 = .ok (.laload, 1) := by decide +kernel
theorem dL_law_802 : decode cL_law 802 = .ok (.iload 6, 2) := by decide +kernel
theorem dL_law_804 : decode cL_law 804 = .ok (.i2l, 1) := by decide +kernel
theorem dL_law_805 : decode cL_law 805 = .ok (.lcmp, 1) := by decide +kernel
theorem dL_law_806 : decode cL_law 806 = .ok (.ifCond .eq 5, 3) := by decide +kernel
theorem dL_law_809 : decode cL_law 809 = .ok (.iconst 0, 1) := by decide +kernel
theorem dL_law_810 : decode cL_law 810 = .ok (.ireturn, 1) := by decide +kernel
theorem dL_law_811 : decode cL_law 811 = .ok (.goto 951, 3) := by decide +kernel
theorem dL_law_814 : decode cL_law 814 = .ok (.aload_n 1, 1) := by decide +kernel
theorem dL_law_815 : decode cL_law 815 = .ok (.aload_n 0, 1) := by decide +kernel
theorem dL_law_816 : decode cL_law 816 = .ok (.iload 4, 2) := by decide +kernel
theorem dL_law_818 : decode cL_law 818 = .ok (.iconst 1, 1) := by decide +kernel
theorem dL_law_819 : decode cL_law 819 = .ok (.iadd, 1) := by decide +kernel
theorem dL_law_820 : decode cL_law 820 = .ok (.iaload, 1) := by decide +kernel
theorem dL_law_821 : decode cL_law 821 = .ok (.aload_n 0, 1) := by decide +kernel
theorem dL_law_822 : decode cL_law 822 = .ok (.iload 4, 2) := by decide +kernel
theorem dL_law_824 : decode cL_law 824 = .ok (.iconst 2, 1) := by decide +kernel
theorem dL_law_825 : decode cL_law 825 = .ok (.iadd, 1) := by decide +kernel
theorem dL_law_826 : decode cL_law 826 = .ok (.iaload, 1) := by decide +kernel
theorem dL_law_827 : decode cL_law 827 = .ok (.aload_n 3, 1) := by decide +kernel
theorem dL_law_828 : decode cL_law 828 = .ok (.invokestatic 143, 3) := by decide +kernel
theorem dL_law_831 : decode cL_law 831 = .ok (.istore 5, 2) := by decide +kernel
theorem dL_law_833 : decode cL_law 833 = .ok (.aload_n 2, 1) := by decide +kernel
theorem dL_law_834 : decode cL_law 834 = .ok (.aload_n 0, 1) := by decide +kernel
theorem dL_law_835 : decode cL_law 835 = .ok (.iload 4, 2) := by decide +kernel
theorem dL_law_837 : decode cL_law 837 = .ok (.iconst 1, 1) := by decide +kernel
theorem dL_law_838 : decode cL_law 838 = .ok (.iadd, 1) := by decide +kernel
theorem dL_law_839 : decode cL_law 839 = .ok (.iaload, 1) := by decide +kernel
theorem dL_law_840 : decode cL_law 840 = .ok (.aload_n 0, 1) := by decide +kernel
theorem dL_law_841 : decode cL_law 841 = .ok (.iload 4, 2) := by decide +kernel
theorem dL_law_843 : decode cL_law 843 = .ok (.iconst 2, 1) := by decide +kernel
theorem dL_law_844 : decode cL_law 844 = .ok (.iadd, 1) := by decide +kernel
theorem dL_law_845 : decode cL_law 845 = .ok (.iaload, 1) := by decide +kernel
theorem dL_law_846 : decode cL_law 846 = .ok (.invokevirtual 145, 3) := by decide +kernel
theorem dL_law_849 : decode cL_law 849 = .ok (.istore 6, 2) := by decide +kernel
theorem dL_law_851 : decode cL_law 851 = .ok (.aload_n 2, 1) := by decide +kernel
theorem dL_law_852 : decode cL_law 852 = .ok (.invokevirtual 102, 3) := by decide +kernel
theorem dL_law_855 : decode cL_law 855 = .ok (.iload 5, 2) := by decide +kernel
theorem dL_law_857 : decode cL_law 857 = .ok (.if_icmp .eq 5, 3) := by decide +kernel
theorem dL_law_860 : decode cL_law 860 = .ok (.iconst 0, 1) := by decide +kernel
theorem dL_law_861 : decode cL_law 861 = .ok (.ireturn, 1) := by decide +kernel
theorem dL_law_862 : decode cL_law 862 = .ok (.iload 5, 2) := by decide +kernel
theorem dL_law_864 : decode cL_law 864 = .ok (.ifCond .ne 15, 3) := by decide +kernel
theorem dL_law_867 : decode cL_law 867 = .ok (.aload_n 3, 1) := by decide +kernel
theorem dL_law_868 : decode cL_law 868 = .ok (.iconst 0, 1) := by decide +kernel
theorem dL_law_869 : decode cL_law 869 = .ok (.laload, 1) := by decide +kernel
theorem dL_law_870 : decode cL_law 870 = .ok (.iload 6, 2) := by decide +kernel
theorem dL_law_872 : decode cL_law 872 = .ok (.i2l, 1) := by decide +kernel
theorem dL_law_873 : decode cL_law 873 = .ok (.lcmp, 1) := by decide +kernel
theorem dL_law_874 : decode cL_law 874 = .ok (.ifCond .eq 5, 3) := by decide +kernel
theorem dL_law_877 : decode cL_law 877 = .ok (.iconst 0, 1) := by decide +kernel
theorem dL_law_878 : decode cL_law 878 = .ok (.ireturn, 1) := by decide +kernel
theorem dL_law_879 : decode cL_law 879 = .ok (.goto 883, 3) := by decide +kernel
theorem dL_law_882 : decode cL_law 882 = .ok (.aload_n 1, 1) := by decide +kernel
theorem dL_law_883 : decode cL_law 883 = .ok (.aload_n 3, 1) := by decide +kernel
theorem dL_law_884 : decode cL_law 884 = .ok (.invokestatic 146, 3) := by decide +kernel
theorem dL_law_887 : decode cL_law 887 = .ok (.istore 5, 2) := by decide +kernel
theorem dL_law_889 : decode cL_law 889 = .ok (.aload_n 2, 1) := by decide +kernel
theorem dL_law_890 : decode cL_law 890 = .ok (.invokevirtual 148, 3) := by decide +kernel
theorem dL_law_893 : decode cL_law 893 = .ok (.istore 6, 2) := by decide +kernel
theorem dL_law_895 : decode cL_law 895 = .ok (.aload_n 2, 1) := by decide +kernel
theorem dL_law_896 : decode cL_law 896 = .ok (.invokevirtual 102, 3) := by decide +kernel
theorem dL_law_899 : decode cL_law 899 = .ok (.iload 5, 2) := by decide +kernel
theorem dL_law_901 : decode cL_law 901 = .ok (.if_icmp .eq 5, 3) := by decide +kernel
theorem dL_law_904 : decode cL_law 904 = .ok (.iconst 0, 1) := by decide +kernel
theorem dL_law_905 : decode cL_law 905 = .ok (.ireturn, 1) := by decide +kernel
theorem dL_law_906 : decode cL_law 906 = .ok (.iload 5, 2) := by decide +kernel
theorem dL_law_908 : decode cL_law 908 = .ok (.ifCond .ne 15, 3) := by decide +kernel
theorem dL_law_911 : decode cL_law 911 = .ok (.aload_n 3, 1) := by decide +kernel
theorem dL_law_912 : decode cL_law 912 = .ok (.iconst 0, 1) := by decide +kernel
theorem dL_law_913 : decode cL_law 913 = .ok (.laload, 1) := by decide +kernel
theorem dL_law_914 : decode cL_law 914 = .ok (.iload 6, 2) := by decide +kernel
theorem dL_law_916 : decode cL_law 916 = .ok (.i2l, 1) := by decide +kernel
theorem dL_law_917 : decode cL_law 917 = .ok (.lcmp, 1) := by decide +kernel
theorem dL_law_918 : decode cL_law 918 = .ok (.ifCond .eq 5, 3) := by decide +kernel
theorem dL_law_921 : decode cL_law 921 = .ok (.iconst 0, 1) := by decide +kernel
theorem dL_law_922 : decode cL_law 922 = .ok (.ireturn, 1) := by decide +kernel
theorem dL_law_923 : decode cL_law 923 = .ok (.goto 839, 3) := by decide +kernel
theorem dL_law_926 : decode cL_law 926 = .ok (.aload_n 1, 1) := by decide +kernel
theorem dL_law_927 : decode cL_law 927 = .ok (.invokevirtual 149, 3) := by decide +kernel
theorem dL_law_930 : decode cL_law 930 = .ok (.aload_n 2, 1) := by decide +kernel
theorem dL_law_931 : decode cL_law 931 = .ok (.invokevirtual 152, 3) := by decide +kernel
theorem dL_law_934 : decode cL_law 934 = .ok (.if_icmp .eq 828, 3) := by decide +kernel
theorem dL_law_937 : decode cL_law 937 = .ok (.iconst 0, 1) := by decide +kernel
theorem dL_law_938 : decode cL_law 938 = .ok (.ireturn, 1) := by decide +kernel
theorem dL_law_939 : decode cL_law 939 = .ok (.aload_n 1, 1) := by decide +kernel
theorem dL_law_940 : decode cL_law 940 = .ok (.aload_n 3, 1) := by decide +kernel
theorem dL_law_941 : decode cL_law 941 = .ok (.invokestatic 153, 3) := by decide +kernel
theorem dL_law_944 : decode cL_law 944 = .ok (.istore 5, 2) := by decide +kernel
theorem dL_law_946 : decode cL_law 946 = .ok (.aload_n 2, 1) := by decide +kernel
theorem dL_law_947 : decode cL_law 947 = .ok (.invokevirtual 155, 3) := by decide +kernel
theorem dL_law_950 : decode cL_law 950 = .ok (.istore 6, 2) := by decide +kernel
theorem dL_law_952 : decode cL_law 952 = .ok (.aload_n 2, 1) := by decide +kernel
theorem dL_law_953 : decode cL_law 953 = .ok (.invokevirtual 102, 3) := by decide +kernel
theorem dL_law_956 : decode cL_law 956 = .ok (.iload 5, 2) := by decide +kernel
theorem dL_law_958 : decode cL_law 958 = .ok (.if_icmp .eq 5, 3) := by decide +kernel
theorem dL_law_961 : decode cL_law 961 = .ok (.iconst 0, 1) := by decide +kernel
theorem dL_law_962 : decode cL_law 962 = .ok (.ireturn, 1) := by decide +kernel
theorem dL_law_963 : decode cL_law 963 = .ok (.iload 5, 2) := by decide +kernel
theorem dL_law_965 : decode cL_law 965 = .ok (.ifCond .ne 15, 3) := by decide +kernel
theorem dL_law_968 : decode cL_law 968 = .ok (.aload_n 3, 1) := by decide +kernel
theorem dL_law_969 : decode cL_law 969 = .ok (.iconst 0, 1) := by decide +kernel
theorem dL_law_970 : decode cL_law 970 = .ok (.laload, 1) := by decide +kernel
theorem dL_law_971 : decode cL_law 971 = .ok (.iload 6, 2) := by decide +kernel
theorem dL_law_973 : decode cL_law 973 = .ok (.i2l, 1) := by decide +kernel
theorem dL_law_974 : decode cL_law 974 = .ok (.lcmp, 1) := by decide +kernel
theorem dL_law_975 : decode cL_law 975 = .ok (.ifCond .eq 5, 3) := by decide +kernel
theorem dL_law_978 : decode cL_law 978 = .ok (.iconst 0, 1) := by decide +kernel
theorem dL_law_979 : decode cL_law 979 = .ok (.ireturn, 1) := by decide +kernel
theorem dL_law_980 : decode cL_law 980 = .ok (.goto 782, 3) := by decide +kernel
theorem dL_law_983 : decode cL_law 983 = .ok (.aload_n 1, 1) := by decide +kernel
theorem dL_law_984 : decode cL_law 984 = .ok (.aload_n 0, 1) := by decide +kernel
theorem dL_law_985 : decode cL_law 985 = .ok (.iload 4, 2) := by decide +kernel
theorem dL_law_987 : decode cL_law 987 = .ok (.iconst 1, 1) := by decide +kernel
theorem dL_law_988 : decode cL_law 988 = .ok (.iadd, 1) := by decide +kernel
theorem dL_law_989 : decode cL_law 989 = .ok (.iaload, 1) := by decide +kernel
theorem dL_law_990 : decode cL_law 990 = .ok (.aload_n 0, 1) := by decide +kernel
theorem dL_law_991 : decode cL_law 991 = .ok (.iload 4, 2) := by decide +kernel
theorem dL_law_993 : decode cL_law 993 = .ok (.iconst 2, 1) := by decide +kernel
theorem dL_law_994 : decode cL_law 994 = .ok (.iadd, 1) := by decide +kernel
theorem dL_law_995 : decode cL_law 995 = .ok (.iaload, 1) := by decide +kernel
theorem dL_law_996 : decode cL_law 996 = .ok (.aload_n 3, 1) := by decide +kernel
theorem dL_law_997 : decode cL_law 997 = .ok (.invokestatic 156, 3) := by decide +kernel
theorem dL_law_1000 : decode cL_law 1000 = .ok (.istore 5, 2) := by decide +kernel
theorem dL_law_1002 : decode cL_law 1002 = .ok (.aload_n 2, 1) := by decide +kernel
theorem dL_law_1003 : decode cL_law 1003 = .ok (.aload_n 0, 1) := by decide +kernel
theorem dL_law_1004 : decode cL_law 1004 = .ok (.iload 4, 2) := by decide +kernel
theorem dL_law_1006 : decode cL_law 1006 = .ok (.iconst 1, 1) := by decide +kernel
theorem dL_law_1007 : decode cL_law 1007 = .ok (.iadd, 1) := by decide +kernel
theorem dL_law_1008 : decode cL_law 1008 = .ok (.iaload, 1) := by decide +kernel
theorem dL_law_1009 : decode cL_law 1009 = .ok (.aload_n 0, 1) := by decide +kernel
theorem dL_law_1010 : decode cL_law 1010 = .ok (.iload 4, 2) := by decide +kernel
theorem dL_law_1012 : decode cL_law 1012 = .ok (.iconst 2, 1) := by decide +kernel
theorem dL_law_1013 : decode cL_law 1013 = .ok (.iadd, 1) := by decide +kernel
theorem dL_law_1014 : decode cL_law 1014 = .ok (.iaload, 1) := by decide +kernel
theorem dL_law_1015 : decode cL_law 1015 = .ok (.invokevirtual 158, 3) := by decide +kernel
theorem dL_law_1018 : decode cL_law 1018 = .ok (.istore 6, 2) := by decide +kernel
theorem dL_law_1020 : decode cL_law 1020 = .ok (.aload_n 2, 1) := by decide +kernel
theorem dL_law_1021 : decode cL_law 1021 = .ok (.invokevirtual 102, 3) := by decide +kernel
theorem dL_law_1024 : decode cL_law 1024 = .ok (.iload 5, 2) := by decide +kernel
theorem dL_law_1026 : decode cL_law 1026 = .ok (.if_icmp .eq 5, 3) := by decide +kernel
theorem dL_law_1029 : decode cL_law 1029 = .ok (.iconst 0, 1) := by decide +kernel
theorem dL_law_1030 : decode cL_law 1030 = .ok (.ireturn, 1) := by decide +kernel
theorem dL_law_1031 : decode cL_law 1031 = .ok (.iload 5, 2) := by decide +kernel
theorem dL_law_1033 : decode cL_law 1033 = .ok (.ifCond .ne 15, 3) := by decide +kernel
theorem dL_law_1036 : decode cL_law 1036 = .ok (.aload_n 3, 1) := by decide +kernel
theorem dL_law_1037 : decode cL_law 1037 = .ok (.iconst 0, 1) := by decide +kernel
theorem dL_law_1038 : decode cL_law 1038 = .ok (.laload, 1) := by decide +kernel
theorem dL_law_1039 : decode cL_law 1039 = .ok (.iload 6, 2) := by decide +kernel
theorem dL_law_1041 : decode cL_law 1041 = .ok (.i2l, 1) := by decide +kernel
theorem dL_law_1042 : decode cL_law 1042 = .ok (.lcmp, 1) := by decide +kernel
theorem dL_law_1043 : decode cL_law 1043 = .ok (.ifCond .eq 5, 3) := by decide +kernel
theorem dL_law_1046 : decode cL_law 1046 = .ok (.iconst 0, 1) := by decide +kernel
theorem dL_law_1047 : decode cL_law 1047 = .ok (.ireturn, 1) := by decide +kernel
theorem dL_law_1048 : decode cL_law 1048 = .ok (.goto 714, 3) := by decide +kernel
theorem dL_law_1051 : decode cL_law 1051 = .ok (.aload_n 1, 1) := by decide +kernel
theorem dL_law_1052 : decode cL_law 1052 = .ok (.aload_n 0, 1) := by decide +kernel
theorem dL_law_1053 : decode cL_law 1053 = .ok (.iload 4, 2) := by decide +kernel
theorem dL_law_1055 : decode cL_law 1055 = .ok (.iconst 1, 1) := by decide +kernel
theorem dL_law_1056 : decode cL_law 1056 = .ok (.iadd, 1) := by decide +kernel
theorem dL_law_1057 : decode cL_law 1057 = .ok (.iaload, 1) := by decide +kernel
theorem dL_law_1058 : decode cL_law 1058 = .ok (.aload_n 0, 1) := by decide +kernel
theorem dL_law_1059 : decode cL_law 1059 = .ok (.iload 4, 2) := by decide +kernel
theorem dL_law_1061 : decode cL_law 1061 = .ok (.iconst 2, 1) := by decide +kernel
theorem dL_law_1062 : decode cL_law 1062 = .ok (.iadd, 1) := by decide +kernel
theorem dL_law_1063 : decode cL_law 1063 = .ok (.iaload, 1) := by decide +kernel
theorem dL_law_1064 : decode cL_law 1064 = .ok (.aload_n 0, 1) := by decide +kernel
theorem dL_law_1065 : decode cL_law 1065 = .ok (.iload 4, 2) := by decide +kernel
theorem dL_law_1067 : decode cL_law 1067 = .ok (.iconst 3, 1) := by decide +kernel
theorem dL_law_1068 : decode cL_law 1068 = .ok (.iadd, 1) := by decide +kernel
theorem dL_law_1069 : decode cL_law 1069 = .ok (.iaload, 1) := by decide +kernel
theorem dL_law_1070 : decode cL_law 1070 = .ok (.aload_n 0, 1) := by decide +kernel
theorem dL_law_1071 : decode cL_law 1071 = .ok (.iload 4, 2) := by decide +kernel
theorem dL_law_1073 : decode cL_law 1073 = .ok (.iconst 4, 1) := by decide +kernel
theorem dL_law_1074 : decode cL_law 1074 = .ok (.iadd, 1) := by decide +kernel
theorem dL_law_1075 : decode cL_law 1075 = .ok (.iaload, 1) := by decide +kernel
theorem dL_law_1076 : decode cL_law 1076 = .ok (.aload_n 3, 1) := by decide +kernel
theorem dL_law_1077 : decode cL_law 1077 = .ok (.invokestatic 159, 3) := by decide +kernel
theorem dL_law_1080 : decode cL_law 1080 = .ok (.istore 5, 2) := by decide +kernel
theorem dL_law_1082 : decode cL_law 1082 = .ok (.aload_n 2, 1) := by decide +kernel
theorem dL_law_1083 : decode cL_law 1083 = .ok (.aload_n 0, 1) := by decide +kernel
theorem dL_law_1084 : decode cL_law 1084 = .ok (.iload 4, 2) := by decide +kernel
theorem dL_law_1086 : decode cL_law 1086 = .ok (.iconst 1, 1) := by decide +kernel
theorem dL_law_1087 : decode cL_law 1087 = .ok (.iadd, 1) := by decide +kernel
theorem dL_law_1088 : decode cL_law 1088 = .ok (.iaload, 1) := by decide +kernel
theorem dL_law_1089 : decode cL_law 1089 = .ok (.aload_n 0, 1) := by decide +kernel
theorem dL_law_1090 : decode cL_law 1090 = .ok (.iload 4, 2) := by decide +kernel
theorem dL_law_1092 : decode cL_law 1092 = .ok (.iconst 2, 1) := by decide +kernel
theorem dL_law_1093 : decode cL_law 1093 = .ok (.iadd, 1) := by decide +kernel
theorem dL_law_1094 : decode cL_law 1094 = .ok (.iaload, 1) := by decide +kernel
theorem dL_law_1095 : decode cL_law 1095 = .ok (.aload_n 0, 1) := by decide +kernel
theorem dL_law_1096 : decode cL_law 1096 = .ok (.iload 4, 2) := by decide +kernel
theorem dL_law_1098 : decode cL_law 1098 = .ok (.iconst 3, 1) := by decide +kernel
theorem dL_law_1099 : decode cL_law 1099 = .ok (.iadd, 1) := by decide +kernel
theorem dL_law_1100 : decode cL_law 1100 = .ok (.iaload, 1) := by decide +kernel
theorem dL_law_1101 : decode cL_law 1101 = .ok (.aload_n 0, 1) := by decide +kernel
theorem dL_law_1102 : decode cL_law 1102 = .ok (.iload 4, 2) := by decide +kernel
theorem dL_law_1104 : decode cL_law 1104 = .ok (.iconst 4, 1) := by decide +kernel
theorem dL_law_1105 : decode cL_law 1105 = .ok (.iadd, 1) := by decide +kernel
theorem dL_law_1106 : decode cL_law 1106 = .ok (.iaload, 1) := by decide +kernel
theorem dL_law_1107 : decode cL_law 1107 = .ok (.invokevirtual 162, 3) := by decide +kernel
theorem dL_law_1110 : decode cL_law 1110 = .ok (.istore 6, 2) := by decide +kernel
theorem dL_law_1112 : decode cL_law 1112 = .ok (.aload_n 2, 1) := by decide +kernel
theorem dL_law_1113 : decode cL_law 1113 = .ok (.invokevirtual 102, 3) := by decide +kernel
theorem dL_law_1116 : decode cL_law 1116 = .ok (.iload 5, 2) := by decide +kernel
theorem dL_law_1118 : decode cL_law 1118 = .ok (.if_icmp .eq 5, 3) := by decide +kernel
theorem dL_law_1121 : decode cL_law 1121 = .ok (.iconst 0, 1) := by decide +kernel
theorem dL_law_1122 : decode cL_law 1122 = .ok (.ireturn, 1) := by decide +kernel
theorem dL_law_1123 : decode cL_law 1123 = .ok (.iload 5, 2) := by decide +kernel
theorem dL_law_1125 : decode cL_law 1125 = .ok (.ifCond .ne 15, 3) := by decide +kernel
theorem dL_law_1128 : decode cL_law 1128 = .ok (.aload_n 3, 1) := by decide +kernel
theorem dL_law_1129 : decode cL_law 1129 = .ok (.iconst 0, 1) := by decide +kernel
theorem dL_law_1130 : decode cL_law 1130 = .ok (.laload, 1) := by decide +kernel
theorem dL_law_1131 : decode cL_law 1131 = .ok (.iload 6, 2) := by decide +kernel
theorem dL_law_1133 : decode cL_law 1133 = .ok (.i2l, 1) := by decide +kernel
theorem dL_law_1134 : decode cL_law 1134 = .ok (.lcmp, 1) := by decide +kernel
theorem dL_law_1135 : decode cL_law 1135 = .ok (.ifCond .eq 5, 3) := by decide +kernel
theorem dL_law_1138 : decode cL_law 1138 = .ok (.iconst 0, 1) := by decide +kernel
theorem dL_law_1139 : decode cL_law 1139 = .ok (.ireturn, 1) := by decide +kernel
theorem dL_law_1140 : decode cL_law 1140 = .ok (.goto 622, 3) := by decide +kernel
theorem dL_law_1143 : decode cL_law 1143 = .ok (.aload_n 1, 1) := by decide +kernel
theorem dL_law_1144 : decode cL_law 1144 = .ok (.aload_n 0, 1) := by decide +kernel
theorem dL_law_1145 : decode cL_law 1145 = .ok (.iload 4, 2) := by decide +kernel
theorem dL_law_1147 : decode cL_law 1147 = .ok (.iconst 1, 1) := by decide +kernel
theorem dL_law_1148 : decode cL_law 1148 = .ok (.iadd, 1) := by decide +kernel
theorem dL_law_1149 : decode cL_law 1149 = .ok (.iaload, 1) := by decide +kernel
theorem dL_law_1150 : decode cL_law 1150 = .ok (.aload_n 0, 1) := by decide +kernel
theorem dL_law_1151 : decode cL_law 1151 = .ok (.iload 4, 2) := by decide +kernel
theorem dL_law_1153 : decode cL_law 1153 = .ok (.iconst 2, 1) := by decide +kernel
theorem dL_law_1154 : decode cL_law 1154 = .ok (.iadd, 1) := by decide +kernel
theorem dL_law_1155 : decode cL_law 1155 = .ok (.iaload, 1) := by decide +kernel
theorem dL_law_1156 : decode cL_law 1156 = .ok (.aload_n 0, 1) := by decide +kernel
theorem dL_law_1157 : decode cL_law 1157 = .ok (.iload 4, 2) := by decide +kernel
theorem dL_law_1159 : decode cL_law 1159 = .ok (.iconst 3, 1) := by decide +kernel
theorem dL_law_1160 : decode cL_law 1160 = .ok (.iadd, 1) := by decide +kernel
theorem dL_law_1161 : decode cL_law 1161 = .ok (.iaload, 1) := by decide +kernel
theorem dL_law_1162 : decode cL_law 1162 = .ok (.aload_n 3, 1) := by decide +kernel
theorem dL_law_1163 : decode cL_law 1163 = .ok (.invokestatic 163, 3) := by decide +kernel
theorem dL_law_1166 : decode cL_law 1166 = .ok (.istore 5, 2) := by decide +kernel
theorem dL_law_1168 : decode cL_law 1168 = .ok (.aload_n 2, 1) := by decide +kernel
theorem dL_law_1169 : decode cL_law 1169 = .ok (.aload_n 0, 1) := by decide +kernel
theorem dL_law_1170 : decode cL_law 1170 = .ok (.iload 4, 2) := by decide +kernel
theorem dL_law_1172 : decode cL_law 1172 = .ok (.iconst 1, 1) := by decide +kernel
theorem dL_law_1173 : decode cL_law 1173 = .ok (.iadd, 1) := by decide +kernel
theorem dL_law_1174 : decode cL_law 1174 = .ok (.iaload, 1) := by decide +kernel
theorem dL_law_1175 : decode cL_law 1175 = .ok (.aload_n 0, 1) := by decide +kernel
theorem dL_law_1176 : decode cL_law 1176 = .ok (.iload 4, 2) := by decide +kernel
theorem dL_law_1178 : decode cL_law 1178 = .ok (.iconst 2, 1) := by decide +kernel
theorem dL_law_1179 : decode cL_law 1179 = .ok (.iadd, 1) := by decide +kernel
theorem dL_law_1180 : decode cL_law 1180 = .ok (.iaload, 1) := by decide +kernel
theorem dL_law_1181 : decode cL_law 1181 = .ok (.aload_n 0, 1) := by decide +kernel
theorem dL_law_1182 : decode cL_law 1182 = .ok (.iload 4, 2) := by decide +kernel
theorem dL_law_1184 : decode cL_law 1184 = .ok (.iconst 3, 1) := by decide +kernel
theorem dL_law_1185 : decode cL_law 1185 = .ok (.iadd, 1) := by decide +kernel
theorem dL_law_1186 : decode cL_law 1186 = .ok (.iaload, 1) := by decide +kernel
theorem dL_law_1187 : decode cL_law 1187 = .ok (.invokevirtual 165, 3) := by decide +kernel
theorem dL_law_1190 : decode cL_law 1190 = .ok (.istore 6, 2) := by decide +kernel
theorem dL_law_1192 : decode cL_law 1192 = .ok (.aload_n 2, 1) := by decide +kernel
theorem dL_law_1193 : decode cL_law 1193 = .ok (.invokevirtual 102, 3) := by decide +kernel
theorem dL_law_1196 : decode cL_law 1196 = .ok (.iload 5, 2) := by decide +kernel
theorem dL_law_1198 : decode cL_law 1198 = .ok (.if_icmp .eq 5, 3) := by decide +kernel
theorem dL_law_1201 : decode cL_law 1201 = .ok (.iconst 0, 1) := by decide +kernel
theorem dL_law_1202 : decode cL_law 1202 = .ok (.ireturn, 1) := by decide +kernel
theorem dL_law_1203 : decode cL_law 1203 = .ok (.iload 5, 2) := by decide +kernel
theorem dL_law_1205 : decode cL_law 1205 = .ok (.ifCond .ne 15, 3) := by decide +kernel
theorem dL_law_1208 : decode cL_law 1208 = .ok (.aload_n 3, 1) := by decide +kernel
theorem dL_law_1209 : decode cL_law 1209 = .ok (.iconst 0, 1) := by decide +kernel
theorem dL_law_1210 : decode cL_law 1210 = .ok (.laload, 1) := by decide +kernel
theorem dL_law_1211 : decode cL_law 1211 = .ok (.iload 6, 2) := by decide +kernel
theorem dL_law_1213 : decode cL_law 1213 = .ok (.i2l, 1) := by decide +kernel
theorem dL_law_1214 : decode cL_law 1214 = .ok (.lcmp, 1) := by decide +kernel
theorem dL_law_1215 : decode cL_law 1215 = .ok (.ifCond .eq 5, 3) := by decide +kernel
theorem dL_law_1218 : decode cL_law 1218 = .ok (.iconst 0, 1) := by decide +kernel
theorem dL_law_1219 : decode cL_law 1219 = .ok (.ireturn, 1) := by decide +kernel
theorem dL_law_1220 : decode cL_law 1220 = .ok (.goto 542, 3) := by decide +kernel
theorem dL_law_1223 : decode cL_law 1223 = .ok (.aload_n 1, 1) := by decide +kernel
theorem dL_law_1224 : decode cL_law 1224 = .ok (.aload_n 0, 1) := by decide +kernel
theorem dL_law_1225 : decode cL_law 1225 = .ok (.iload 4, 2) := by decide +kernel
theorem dL_law_1227 : decode cL_law 1227 = .ok (.iconst 1, 1) := by decide +kernel
theorem dL_law_1228 : decode cL_law 1228 = .ok (.iadd, 1) := by decide +kernel
theorem dL_law_1229 : decode cL_law 1229 = .ok (.iaload, 1) := by decide +kernel
theorem dL_law_1230 : decode cL_law 1230 = .ok (.aload_n 0, 1) := by decide +kernel
theorem dL_law_1231 : decode cL_law 1231 = .ok (.iload 4, 2) := by decide +kernel
theorem dL_law_1233 : decode cL_law 1233 = .ok (.iconst 2, 1) := by decide +kernel
theorem dL_law_1234 : decode cL_law 1234 = .ok (.iadd, 1) := by decide +kernel
theorem dL_law_1235 : decode cL_law 1235 = .ok (.iaload, 1) := by decide +kernel
theorem dL_law_1236 : decode cL_law 1236 = .ok (.aload_n 3, 1) := by decide +kernel
theorem dL_law_1237 : decode cL_law 1237 = .ok (.invokestatic 166, 3) := by decide +kernel
theorem dL_law_1240 : decode cL_law 1240 = .ok (.istore 5, 2) := by decide +kernel
theorem dL_law_1242 : decode cL_law 1242 = .ok (.aload_n 2, 1) := by decide +kernel
theorem dL_law_1243 : decode cL_law 1243 = .ok (.aload_n 0, 1) := by decide +kernel
theorem dL_law_1244 : decode cL_law 1244 = .ok (.iload 4, 2) := by decide +kernel
theorem dL_law_1246 : decode cL_law 1246 = .ok (.iconst 1, 1) := by decide +kernel
theorem dL_law_1247 : decode cL_law 1247 = .ok (.iadd, 1) := by decide +kernel
theorem dL_law_1248 : decode cL_law 1248 = .ok (.iaload, 1) := by decide +kernel
theorem dL_law_1249 : decode cL_law 1249 = .ok (.aload_n 0, 1) := by decide +kernel
theorem dL_law_1250 : decode cL_law 1250 = .ok (.iload 4, 2) := by decide +kernel
theorem dL_law_1252 : decode cL_law 1252 = .ok (.iconst 2, 1) := by decide +kernel
theorem dL_law_1253 : decode cL_law 1253 = .ok (.iadd, 1) := by decide +kernel
theorem dL_law_1254 : decode cL_law 1254 = .ok (.iaload, 1) := by decide +kernel
theorem dL_law_1255 : decode cL_law 1255 = .ok (.invokevirtual 168, 3) := by decide +kernel
theorem dL_law_1258 : decode cL_law 1258 = .ok (.istore 6, 2) := by decide +kernel
theorem dL_law_1260 : decode cL_law 1260 = .ok (.aload_n 2, 1) := by decide +kernel
theorem dL_law_1261 : decode cL_law 1261 = .ok (.invokevirtual 102, 3) := by decide +kernel
theorem dL_law_1264 : decode cL_law 1264 = .ok (.iload 5, 2) := by decide +kernel
theorem dL_law_1266 : decode cL_law 1266 = .ok (.if_icmp .eq 5, 3) := by decide +kernel
theorem dL_law_1269 : decode cL_law 1269 = .ok (.iconst 0, 1) := by decide +kernel
theorem dL_law_1270 : decode cL_law 1270 = .ok (.ireturn, 1) := by decide +kernel
theorem dL_law_1271 : decode cL_law 1271 = .ok (.iload 5, 2) := by decide +kernel
theorem dL_law_1273 : decode cL_law 1273 = .ok (.ifCond .ne 15, 3) := by decide +kernel
theorem dL_law_1276 : decode cL_law 1276 = .ok (.aload_n 3, 1) := by decide +kernel
theorem dL_law_1277 : decode cL_law 1277 = .ok (.iconst 0, 1) := by decide +kernel
theorem dL_law_1278 : decode cL_law 1278 = .ok (.laload, 1) := by decide +kernel
theorem dL_law_1279 : decode cL_law 1279 = .ok (.iload 6, 2) := by decide +kernel
theorem dL_law_1281 : decode cL_law 1281 = .ok (.i2l, 1) := by decide +kernel
theorem dL_law_1282 : decode cL_law 1282 = .ok (.lcmp, 1) := by decide +kernel
theorem dL_law_1283 : decode cL_law 1283 = .ok (.ifCond .eq 5, 3) := by decide +kernel
theorem dL_law_1286 : decode cL_law 1286 = .ok (.iconst 0, 1) := by decide +kernel
theorem dL_law_1287 : decode cL_law 1287 = .ok (.ireturn, 1) := by decide +kernel
theorem dL_law_1288 : decode cL_law 1288 = .ok (.goto 474, 3) := by decide +kernel
theorem dL_law_1291 : decode cL_law 1291 = .ok (.aload_n 1, 1) := by decide +kernel
theorem dL_law_1292 : decode cL_law 1292 = .ok (.aload_n 0, 1) := by decide +kernel
theorem dL_law_1293 : decode cL_law 1293 = .ok (.iload 4, 2) := by decide +kernel
theorem dL_law_1295 : decode cL_law 1295 = .ok (.iconst 1, 1) := by decide +kernel
theorem dL_law_1296 : decode cL_law 1296 = .ok (.iadd, 1) := by decide +kernel
theorem dL_law_1297 : decode cL_law 1297 = .ok (.iaload, 1) := by decide +kernel
theorem dL_law_1298 : decode cL_law 1298 = .ok (.aload_n 0, 1) := by decide +kernel
theorem dL_law_1299 : decode cL_law 1299 = .ok (.iload 4, 2) := by decide +kernel
theorem dL_law_1301 : decode cL_law 1301 = .ok (.iconst 2, 1) := by decide +kernel
theorem dL_law_1302 : decode cL_law 1302 = .ok (.iadd, 1) := by decide +kernel
theorem dL_law_1303 : decode cL_law 1303 = .ok (.iaload, 1) := by decide +kernel
theorem dL_law_1304 : decode cL_law 1304 = .ok (.aload_n 3, 1) := by decide +kernel
theorem dL_law_1305 : decode cL_law 1305 = .ok (.invokestatic 169, 3) := by decide +kernel
theorem dL_law_1308 : decode cL_law 1308 = .ok (.istore 5, 2) := by decide +kernel
theorem dL_law_1310 : decode cL_law 1310 = .ok (.aload_n 2, 1) := by decide +kernel
theorem dL_law_1311 : decode cL_law 1311 = .ok (.aload_n 0, 1) := by decide +kernel
theorem dL_law_1312 : decode cL_law 1312 = .ok (.iload 4, 2) := by decide +kernel
theorem dL_law_1314 : decode cL_law 1314 = .ok (.iconst 1, 1) := by decide +kernel
theorem dL_law_1315 : decode cL_law 1315 = .ok (.iadd, 1) := by decide +kernel
theorem dL_law_1316 : decode cL_law 1316 = .ok (.iaload, 1) := by decide +kernel
theorem dL_law_1317 : decode cL_law 1317 = .ok (.aload_n 0, 1) := by decide +kernel
theorem dL_law_1318 : decode cL_law 1318 = .ok (.iload 4, 2) := by decide +kernel
theorem dL_law_1320 : decode cL_law 1320 = .ok (.iconst 2, 1) := by decide +kernel
theorem dL_law_1321 : decode cL_law 1321 = .ok (.iadd, 1) := by decide +kernel
theorem dL_law_1322 : decode cL_law 1322 = .ok (.iaload, 1) := by decide +kernel
theorem dL_law_1323 : decode cL_law 1323 = .ok (.invokevirtual 171, 3) := by decide +kernel
theorem dL_law_1326 : decode cL_law 1326 = .ok (.istore 6, 2) := by decide +kernel
theorem dL_law_1328 : decode cL_law 1328 = .ok (.aload_n 2, 1) := by decide +kernel
theorem dL_law_1329 : decode cL_law 1329 = .ok (.invokevirtual 102, 3) := by decide +kernel
theorem dL_law_1332 : decode cL_law 1332 = .ok (.iload 5, 2) := by decide +kernel
theorem dL_law_1334 : decode cL_law 1334 = .ok (.if_icmp .eq 5, 3) := by decide +kernel
theorem dL_law_1337 : decode cL_law 1337 = .ok (.iconst 0, 1) := by decide +kernel
theorem dL_law_1338 : decode cL_law 1338 = .ok (.ireturn, 1) := by decide +kernel
theorem dL_law_1339 : decode cL_law 1339 = .ok (.iload 5, 2) := by decide +kernel
theorem dL_law_1341 : decode cL_law 1341 = .ok (.ifCond .ne 15, 3) := by decide +kernel
theorem dL_law_1344 : decode cL_law 1344 = .ok (.aload_n 3, 1) := by decide +kernel
theorem dL_law_1345 : decode cL_law 1345 = .ok (.iconst 0, 1) := by decide +kernel
theorem dL_law_1346 : decode cL_law 1346 = .ok (.laload, 1) := by decide +kernel
theorem dL_law_1347 : decode cL_law 1347 = .ok (.iload 6, 2) := by decide +kernel
theorem dL_law_1349 : decode cL_law 1349 = .ok (.i2l, 1) := by decide +kernel
theorem dL_law_1350 : decode cL_law 1350 = .ok (.lcmp, 1) := by decide +kernel
theorem dL_law_1351 : decode cL_law 1351 = .ok (.ifCond .eq 5, 3) := by decide +kernel
theorem dL_law_1354 : decode cL_law 1354 = .ok (.iconst 0, 1) := by decide +kernel
theorem dL_law_1355 : decode cL_law 1355 = .ok (.ireturn, 1) := by decide +kernel
theorem dL_law_1356 : decode cL_law 1356 = .ok (.goto 406, 3) := by decide +kernel
theorem dL_law_1359 : decode cL_law 1359 = .ok (.aload_n 1, 1) := by decide +kernel
theorem dL_law_1360 : decode cL_law 1360 = .ok (.aload_n 3, 1) := by decide +kernel
theorem dL_law_1361 : decode cL_law 1361 = .ok (.invokestatic 172, 3) := by decide +kernel
theorem dL_law_1364 : decode cL_law 1364 = .ok (.istore 5, 2) := by decide +kernel
theorem dL_law_1366 : decode cL_law 1366 = .ok (.aload_n 2, 1) := by decide +kernel
theorem dL_law_1367 : decode cL_law 1367 = .ok (.invokevirtual 174, 3) := by decide +kernel
theorem dL_law_1370 : decode cL_law 1370 = .ok (.istore 6, 2) := by decide +kernel
theorem dL_law_1372 : decode cL_law 1372 = .ok (.aload_n 2, 1) := by decide +kernel
theorem dL_law_1373 : decode cL_law 1373 = .ok (.invokevirtual 102, 3) := by decide +kernel
theorem dL_law_1376 : decode cL_law 1376 = .ok (.iload 5, 2) := by decide +kernel
theorem dL_law_1378 : decode cL_law 1378 = .ok (.if_icmp .eq 5, 3) := by decide +kernel
theorem dL_law_1381 : decode cL_law 1381 = .ok (.iconst 0, 1) := by decide +kernel
theorem dL_law_1382 : decode cL_law 1382 = .ok (.ireturn, 1) := by decide +kernel
theorem dL_law_1383 : decode cL_law 1383 = .ok (.iload 5, 2) := by decide +kernel
theorem dL_law_1385 : decode cL_law 1385 = .ok (.ifCond .ne 15, 3) := by decide +kernel
theorem dL_law_1388 : decode cL_law 1388 = .ok (.aload_n 3, 1) := by decide +kernel
theorem dL_law_1389 : decode cL_law 1389 = .ok (.iconst 0, 1) := by decide +kernel
theorem dL_law_1390 : decode cL_law 1390 = .ok (.laload, 1) := by decide +kernel
theorem dL_law_1391 : decode cL_law 1391 = .ok (.iload 6, 2) := by decide +kernel
theorem dL_law_1393 : decode cL_law 1393 = .ok (.i2l, 1) := by decide +kernel
theorem dL_law_1394 : decode cL_law 1394 = .ok (.lcmp, 1) := by decide +kernel
theorem dL_law_1395 : decode cL_law 1395 = .ok (.ifCond .eq 5, 3) := by decide +kernel
theorem dL_law_1398 : decode cL_law 1398 = .ok (.iconst 0, 1) := by decide +kernel
theorem dL_law_1399 : decode cL_law 1399 = .ok (.ireturn, 1) := by decide +kernel
theorem dL_law_1400 : decode cL_law 1400 = .ok (.goto 362, 3) := by decide +kernel
theorem dL_law_1403 : decode cL_law 1403 = .ok (.aload_n 1, 1) := by decide +kernel
theorem dL_law_1404 : decode cL_law 1404 = .ok (.aload_n 0, 1) := by decide +kernel
theorem dL_law_1405 : decode cL_law 1405 = .ok (.iload 4, 2) := by decide +kernel
theorem dL_law_1407 : decode cL_law 1407 = .ok (.iconst 1, 1) := by decide +kernel
theorem dL_law_1408 : decode cL_law 1408 = .ok (.iadd, 1) := by decide +kernel
theorem dL_law_1409 : decode cL_law 1409 = .ok (.iaload, 1) := by decide +kernel
theorem dL_law_1410 : decode cL_law 1410 = .ok (.aload_n 3, 1) := by decide +kernel
theorem dL_law_1411 : decode cL_law 1411 = .ok (.invokestatic 175, 3) := by decide +kernel
theorem dL_law_1414 : decode cL_law 1414 = .ok (.istore 5, 2) := by decide +kernel
theorem dL_law_1416 : decode cL_law 1416 = .ok (.aload_n 2, 1) := by decide +kernel
theorem dL_law_1417 : decode cL_law 1417 = .ok (.aload_n 0, 1) := by decide +kernel
theorem dL_law_1418 : decode cL_law 1418 = .ok (.iload 4, 2) := by decide +kernel
theorem dL_law_1420 : decode cL_law 1420 = .ok (.iconst 1, 1) := by decide +kernel
theorem dL_law_1421 : decode cL_law 1421 = .ok (.iadd, 1) := by decide +kernel
theorem dL_law_1422 : decode cL_law 1422 = .ok (.iaload, 1) := by decide +kernel
theorem dL_law_1423 : decode cL_law 1423 = .ok (.invokevirtual 177, 3) := by decide +kernel
theorem dL_law_1426 : decode cL_law 1426 = .ok (.istore 6, 2) := by decide +kernel
theorem dL_law_1428 : decode cL_law 1428 = .ok (.aload_n 2, 1) := by decide +kernel
theorem dL_law_1429 : decode cL_law 1429 = .ok (.invokevirtual 102, 3) := by decide +kernel
theorem dL_law_1432 : decode cL_law 1432 = .ok (.iload 5, 2) := by decide +kernel
theorem dL_law_1434 : decode cL_law 1434 = .ok (.if_icmp .eq 5, 3) := by decide +kernel
theorem dL_law_1437 : decode cL_law 1437 = .ok (.iconst 0, 1) := by decide +kernel
theorem dL_law_1438 : decode cL_law 1438 = .ok (.ireturn, 1) := by decide +kernel
theorem dL_law_1439 : decode cL_law 1439 = .ok (.iload 5, 2) := by decide +kernel
theorem dL_law_1441 : decode cL_law 1441 = .ok (.ifCond .ne 15, 3) := by decide +kernel
theorem dL_law_1444 : decode cL_law 1444 = .ok (.aload_n 3, 1) := by decide +kernel
theorem dL_law_1445 : decode cL_law 1445 = .ok (.iconst 0, 1) := by decide +kernel
theorem dL_law_1446 : decode cL_law 1446 = .ok (.laload, 1) := by decide +kernel
theorem dL_law_1447 : decode cL_law 1447 = .ok (.iload 6, 2) := by decide +kernel
theorem dL_law_1449 : decode cL_law 1449 = .ok (.i2l, 1) := by decide +kernel
theorem dL_law_1450 : decode cL_law 1450 = .ok (.lcmp, 1) := by decide +kernel
theorem dL_law_1451 : decode cL_law 1451 = .ok (.ifCond .eq 5, 3) := by decide +kernel
theorem dL_law_1454 : decode cL_law 1454 = .ok (.iconst 0, 1) := by decide +kernel
theorem dL_law_1455 : decode cL_law 1455 = .ok (.ireturn, 1) := by decide +kernel
theorem dL_law_1456 : decode cL_law 1456 = .ok (.goto 306, 3) := by decide +kernel
theorem dL_law_1459 : decode cL_law 1459 = .ok (.aload_n 1, 1) := by decide +kernel
theorem dL_law_1460 : decode cL_law 1460 = .ok (.aload_n 0, 1) := by decide +kernel
theorem dL_law_1461 : decode cL_law 1461 = .ok (.iload 4, 2) := by decide +kernel
theorem dL_law_1463 : decode cL_law 1463 = .ok (.iconst 1, 1) := by decide +kernel
theorem dL_law_1464 : decode cL_law 1464 = .ok (.iadd, 1) := by decide +kernel
theorem dL_law_1465 : decode cL_law 1465 = .ok (.iaload, 1) := by decide +kernel
theorem dL_law_1466 : decode cL_law 1466 = .ok (.aload_n 3, 1) := by decide +kernel
theorem dL_law_1467 : decode cL_law 1467 = .ok (.invokestatic 178, 3) := by decide +kernel
theorem dL_law_1470 : decode cL_law 1470 = .ok (.istore 5, 2) := by decide +kernel
theorem dL_law_1472 : decode cL_law 1472 = .ok (.aload_n 2, 1) := by decide +kernel
theorem dL_law_1473 : decode cL_law 1473 = .ok (.aload_n 0, 1) := by decide +kernel
theorem dL_law_1474 : decode cL_law 1474 = .ok (.iload 4, 2) := by decide +kernel
theorem dL_law_1476 : decode cL_law 1476 = .ok (.iconst 1, 1) := by decide +kernel
theorem dL_law_1477 : decode cL_law 1477 = .ok (.iadd, 1) := by decide +kernel
theorem dL_law_1478 : decode cL_law 1478 = .ok (.iaload, 1) := by decide +kernel
theorem dL_law_1479 : decode cL_law 1479 = .ok (.invokevirtual 180, 3) := by decide +kernel
theorem dL_law_1482 : decode cL_law 1482 = .ok (.istore 6, 2) := by decide +kernel
theorem dL_law_1484 : decode cL_law 1484 = .ok (.aload_n 2, 1) := by decide +kernel
theorem dL_law_1485 : decode cL_law 1485 = .ok (.invokevirtual 102, 3) := by decide +kernel
theorem dL_law_1488 : decode cL_law 1488 = .ok (.iload 5, 2) := by decide +kernel
theorem dL_law_1490 : decode cL_law 1490 = .ok (.if_icmp .eq 5, 3) := by decide +kernel
theorem dL_law_1493 : decode cL_law 1493 = .ok (.iconst 0, 1) := by decide +kernel
theorem dL_law_1494 : decode cL_law 1494 = .ok (.ireturn, 1) := by decide +kernel
theorem dL_law_1495 : decode cL_law 1495 = .ok (.iload 5, 2) := by decide +kernel
theorem dL_law_1497 : decode cL_law 1497 = .ok (.ifCond .ne 15, 3) := by decide +kernel
theorem dL_law_1500 : decode cL_law 1500 = .ok (.aload_n 3, 1) := by decide +kernel
theorem dL_law_1501 : decode cL_law 1501 = .ok (.iconst 0, 1) := by decide +kernel
theorem dL_law_1502 : decode cL_law 1502 = .ok (.laload, 1) := by decide +kernel
theorem dL_law_1503 : decode cL_law 1503 = .ok (.iload 6, 2) := by decide +kernel
theorem dL_law_1505 : decode cL_law 1505 = .ok (.i2l, 1) := by decide +kernel
theorem dL_law_1506 : decode cL_law 1506 = .ok (.lcmp, 1) := by decide +kernel
theorem dL_law_1507 : decode cL_law 1507 = .ok (.ifCond .eq 5, 3) := by decide +kernel
theorem dL_law_1510 : decode cL_law 1510 = .ok (.iconst 0, 1) := by decide +kernel
theorem dL_law_1511 : decode cL_law 1511 = .ok (.ireturn, 1) := by decide +kernel
theorem dL_law_1512 : decode cL_law 1512 = .ok (.goto 250, 3) := by decide +kernel
theorem dL_law_1515 : decode cL_law 1515 = .ok (.aload_n 1, 1) := by decide +kernel
theorem dL_law_1516 : decode cL_law 1516 = .ok (.aload_n 0, 1) := by decide +kernel
theorem dL_law_1517 : decode cL_law 1517 = .ok (.iload 4, 2) := by decide +kernel
theorem dL_law_1519 : decode cL_law 1519 = .ok (.iconst 1, 1) := by decide +kernel
theorem dL_law_1520 : decode cL_law 1520 = .ok (.iadd, 1) := by decide +kernel
theorem dL_law_1521 : decode cL_law 1521 = .ok (.iaload, 1) := by decide +kernel
theorem dL_law_1522 : decode cL_law 1522 = .ok (.aload_n 0, 1) := by decide +kernel
theorem dL_law_1523 : decode cL_law 1523 = .ok (.iload 4, 2) := by decide +kernel
theorem dL_law_1525 : decode cL_law 1525 = .ok (.iconst 2, 1) := by decide +kernel
theorem dL_law_1526 : decode cL_law 1526 = .ok (.iadd, 1) := by decide +kernel
theorem dL_law_1527 : decode cL_law 1527 = .ok (.iaload, 1) := by decide +kernel
theorem dL_law_1528 : decode cL_law 1528 = .ok (.aload_n 0, 1) := by decide +kernel
theorem dL_law_1529 : decode cL_law 1529 = .ok (.iload 4, 2) := by decide +kernel
theorem dL_law_1531 : decode cL_law 1531 = .ok (.iconst 3, 1) := by decide +kernel
theorem dL_law_1532 : decode cL_law 1532 = .ok (.iadd, 1) := by decide +kernel
theorem dL_law_1533 : decode cL_law 1533 = .ok (.iaload, 1) := by decide +kernel
theorem dL_law_1534 : decode cL_law 1534 = .ok (.aload_n 3, 1) := by decide +kernel
theorem dL_law_1535 : decode cL_law 1535 = .ok (.invokestatic 181, 3) := by decide +kernel
theorem dL_law_1538 : decode cL_law 1538 = .ok (.istore 5, 2) := by decide +kernel
theorem dL_law_1540 : decode cL_law 1540 = .ok (.aload_n 2, 1) := by decide +kernel
theorem dL_law_1541 : decode cL_law 1541 = .ok (.aload_n 0, 1) := by decide +kernel
theorem dL_law_1542 : decode cL_law 1542 = .ok (.iload 4, 2) := by decide +kernel
theorem dL_law_1544 : decode cL_law 1544 = .ok (.iconst 1, 1) := by decide +kernel
theorem dL_law_1545 : decode cL_law 1545 = .ok (.iadd, 1) := by decide +kernel
theorem dL_law_1546 : decode cL_law 1546 = .ok (.iaload, 1) := by decide +kernel
theorem dL_law_1547 : decode cL_law 1547 = .ok (.aload_n 0, 1) := by decide +kernel
theorem dL_law_1548 : decode cL_law 1548 = .ok (.iload 4, 2) := by decide +kernel
theorem dL_law_1550 : decode cL_law 1550 = .ok (.iconst 2, 1) := by decide +kernel
theorem dL_law_1551 : decode cL_law 1551 = .ok (.iadd, 1) := by decide +kernel
theorem dL_law_1552 : decode cL_law 1552 = .ok (.iaload, 1) := by decide +kernel
theorem dL_law_1553 : decode cL_law 1553 = .ok (.aload_n 0, 1) := by decide +kernel
theorem dL_law_1554 : decode cL_law 1554 = .ok (.iload 4, 2) := by decide +kernel
theorem dL_law_1556 : decode cL_law 1556 = .ok (.iconst 3, 1) := by decide +kernel
theorem dL_law_1557 : decode cL_law 1557 = .ok (.iadd, 1) := by decide +kernel
theorem dL_law_1558 : decode cL_law 1558 = .ok (.iaload, 1) := by decide +kernel
theorem dL_law_1559 : decode cL_law 1559 = .ok (.invokevirtual 183, 3) := by decide +kernel
theorem dL_law_1562 : decode cL_law 1562 = .ok (.istore 6, 2) := by decide +kernel
theorem dL_law_1564 : decode cL_law 1564 = .ok (.aload_n 2, 1) := by decide +kernel
theorem dL_law_1565 : decode cL_law 1565 = .ok (.invokevirtual 102, 3) := by decide +kernel
theorem dL_law_1568 : decode cL_law 1568 = .ok (.iload 5, 2) := by decide +kernel
theorem dL_law_1570 : decode cL_law 1570 = .ok (.if_icmp .eq 5, 3) := by decide +kernel
theorem dL_law_1573 : decode cL_law 1573 = .ok (.iconst 0, 1) := by decide +kernel
theorem dL_law_1574 : decode cL_law 1574 = .ok (.ireturn, 1) := by decide +kernel
theorem dL_law_1575 : decode cL_law 1575 = .ok (.iload 5, 2) := by decide +kernel
theorem dL_law_1577 : decode cL_law 1577 = .ok (.ifCond .ne 15, 3) := by decide +kernel
theorem dL_law_1580 : decode cL_law 1580 = .ok (.aload_n 3, 1) := by decide +kernel
theorem dL_law_1581 : decode cL_law 1581 = .ok (.iconst 0, 1) := by decide +kernel
theorem dL_law_1582 : decode cL_law 1582 = .ok (.laload, 1) := by decide +kernel
theorem dL_law_1583 : decode cL_law 1583 = .ok (.iload 6, 2) := by decide +kernel
theorem dL_law_1585 : decode cL_law 1585 = .ok (.i2l, 1) := by decide +kernel
theorem dL_law_1586 : decode cL_law 1586 = .ok (.lcmp, 1) := by decide +kernel
theorem dL_law_1587 : decode cL_law 1587 = .ok (.ifCond .eq 5, 3) := by decide +kernel
theorem dL_law_1590 : decode cL_law 1590 = .ok (.iconst 0, 1) := by decide +kernel
theorem dL_law_1591 : decode cL_law 1591 = .ok (.ireturn, 1) := by decide +kernel
theorem dL_law_1592 : decode cL_law 1592 = .ok (.goto 170, 3) := by decide +kernel
theorem dL_law_1595 : decode cL_law 1595 = .ok (.aload_n 1, 1) := by decide +kernel
theorem dL_law_1596 : decode cL_law 1596 = .ok (.aload_n 0, 1) := by decide +kernel
theorem dL_law_1597 : decode cL_law 1597 = .ok (.iload 4, 2) := by decide +kernel
theorem dL_law_1599 : decode cL_law 1599 = .ok (.iconst 1, 1) := by decide +kernel
theorem dL_law_1600 : decode cL_law 1600 = .ok (.iadd, 1) := by decide +kernel
theorem dL_law_1601 : decode cL_law 1601 = .ok (.iaload, 1) := by decide +kernel
theorem dL_law_1602 : decode cL_law 1602 = .ok (.aload_n 0, 1) := by decide +kernel
theorem dL_law_1603 : decode cL_law 1603 = .ok (.iload 4, 2) := by decide +kernel
theorem dL_law_1605 : decode cL_law 1605 = .ok (.iconst 2, 1) := by decide +kernel
theorem dL_law_1606 : decode cL_law 1606 = .ok (.iadd, 1) := by decide +kernel
theorem dL_law_1607 : decode cL_law 1607 = .ok (.iaload, 1) := by decide +kernel
theorem dL_law_1608 : decode cL_law 1608 = .ok (.aload_n 3, 1) := by decide +kernel
theorem dL_law_1609 : decode cL_law 1609 = .ok (.invokestatic 184, 3) := by decide +kernel
theorem dL_law_1612 : decode cL_law 1612 = .ok (.istore 5, 2) := by decide +kernel
theorem dL_law_1614 : decode cL_law 1614 = .ok (.aload_n 2, 1) := by decide +kernel
theorem dL_law_1615 : decode cL_law 1615 = .ok (.aload_n 0, 1) := by decide +kernel
theorem dL_law_1616 : decode cL_law 1616 = .ok (.iload 4, 2) := by decide +kernel
theorem dL_law_1618 : decode cL_law 1618 = .ok (.iconst 1, 1) := by decide +kernel
theorem dL_law_1619 : decode cL_law 1619 = .ok (.iadd, 1) := by decide +kernel
theorem dL_law_1620 : decode cL_law 1620 = .ok (.iaload, 1) := by decide +kernel
theorem dL_law_1621 : decode cL_law 1621 = .ok (.aload_n 0, 1) := by decide +kernel
theorem dL_law_1622 : decode cL_law 1622 = .ok (.iload 4, 2) := by decide +kernel
theorem dL_law_1624 : decode cL_law 1624 = .ok (.iconst 2, 1) := by decide +kernel
theorem dL_law_1625 : decode cL_law 1625 = .ok (.iadd, 1) := by decide +kernel
theorem dL_law_1626 : decode cL_law 1626 = .ok (.iaload, 1) := by decide +kernel
theorem dL_law_1627 : decode cL_law 1627 = .ok (.invokevirtual 186, 3) := by decide +kernel
theorem dL_law_1630 : decode cL_law 1630 = .ok (.istore 6, 2) := by decide +kernel
theorem dL_law_1632 : decode cL_law 1632 = .ok (.aload_n 2, 1) := by decide +kernel
theorem dL_law_1633 : decode cL_law 1633 = .ok (.invokevirtual 102, 3) := by decide +kernel
theorem dL_law_1636 : decode cL_law 1636 = .ok (.iload 5, 2) := by decide +kernel
theorem dL_law_1638 : decode cL_law 1638 = .ok (.if_icmp .eq 5, 3) := by decide +kernel
theorem dL_law_1641 : decode cL_law 1641 = .ok (.iconst 0, 1) := by decide +kernel
theorem dL_law_1642 : decode cL_law 1642 = .ok (.ireturn, 1) := by decide +kernel
theorem dL_law_1643 : decode cL_law 1643 = .ok (.iload 5, 2) := by decide +kernel
theorem dL_law_1645 : decode cL_law 1645 = .ok (.ifCond .ne 15, 3) := by decide +kernel
theorem dL_law_1648 : decode cL_law 1648 = .ok (.aload_n 3, 1) := by decide +kernel
theorem dL_law_1649 : decode cL_law 1649 = .ok (.iconst 0, 1) := by decide +kernel
theorem dL_law_1650 : decode cL_law 1650 = .ok (.laload, 1) := by decide +kernel
theorem dL_law_1651 : decode cL_law 1651 = .ok (.iload 6, 2) := by decide +kernel
theorem dL_law_1653 : decode cL_law 1653 = .ok (.i2l, 1) := by decide +kernel
theorem dL_law_1654 : decode cL_law 1654 = .ok (.lcmp, 1) := by decide +kernel
theorem dL_law_1655 : decode cL_law 1655 = .ok (.ifCond .eq 5, 3) := by decide +kernel
theorem dL_law_1658 : decode cL_law 1658 = .ok (.iconst 0, 1) := by decide +kernel
theorem dL_law_1659 : decode cL_law 1659 = .ok (.ireturn, 1) := by decide +kernel
theorem dL_law_1660 : decode cL_law 1660 = .ok (.goto 102, 3) := by decide +kernel
theorem dL_law_1663 : decode cL_law 1663 = .ok (.aload_n 1, 1) := by decide +kernel
theorem dL_law_1664 : decode cL_law 1664 = .ok (.aload_n 3, 1) := by decide +kernel
theorem dL_law_1665 : decode cL_law 1665 = .ok (.invokestatic 187, 3) := by decide +kernel
theorem dL_law_1668 : decode cL_law 1668 = .ok (.istore 5, 2) := by decide +kernel
theorem dL_law_1670 : decode cL_law 1670 = .ok (.aload_n 2, 1) := by decide +kernel
theorem dL_law_1671 : decode cL_law 1671 = .ok (.invokevirtual 189, 3) := by decide +kernel
theorem dL_law_1674 : decode cL_law 1674 = .ok (.istore 6, 2) := by decide +kernel
theorem dL_law_1676 : decode cL_law 1676 = .ok (.aload_n 2, 1) := by decide +kernel
theorem dL_law_1677 : decode cL_law 1677 = .ok (.invokevirtual 102, 3) := by decide +kernel
theorem dL_law_1680 : decode cL_law 1680 = .ok (.iload 5, 2) := by decide +kernel
theorem dL_law_1682 : decode cL_law 1682 = .ok (.if_icmp .eq 5, 3) := by decide +kernel
theorem dL_law_1685 : decode cL_law 1685 = .ok (.iconst 0, 1) := by decide +kernel
theorem dL_law_1686 : decode cL_law 1686 = .ok (.ireturn, 1) := by decide +kernel
theorem dL_law_1687 : decode cL_law 1687 = .ok (.iload 5, 2) := by decide +kernel
theorem dL_law_1689 : decode cL_law 1689 = .ok (.ifCond .ne 15, 3) := by decide +kernel
theorem dL_law_1692 : decode cL_law 1692 = .ok (.aload_n 3, 1) := by decide +kernel
theorem dL_law_1693 : decode cL_law 1693 = .ok (.iconst 0, 1) := by decide +kernel
theorem dL_law_1694 : decode cL_law 1694 = .ok (.laload, 1) := by decide +kernel
theorem dL_law_1695 : decode cL_law 1695 = .ok (.iload 6, 2) := by decide +kernel
theorem dL_law_1697 : decode cL_law 1697 = .ok (.i2l, 1) := by decide +kernel
theorem dL_law_1698 : decode cL_law 1698 = .ok (.lcmp, 1) := by decide +kernel
theorem dL_law_1699 : decode cL_law 1699 = .ok (.ifCond .eq 5, 3) := by decide +kernel
theorem dL_law_1702 : decode cL_law 1702 = .ok (.iconst 0, 1) := by decide +kernel
theorem dL_law_1703 : decode cL_law 1703 = .ok (.ireturn, 1) := by decide +kernel
theorem dL_law_1704 : decode cL_law 1704 = .ok (.goto 58, 3) := by decide +kernel
theorem dL_law_1707 : decode cL_law 1707 = .ok (.aload_n 1, 1) := by decide +kernel
theorem dL_law_1708 : decode cL_law 1708 = .ok (.invokevirtual 190, 3) := by decide +kernel
theorem dL_law_1711 : decode cL_law 1711 = .ok (.dstore 5, 2) := by decide +kernel
theorem dL_law_1713 : decode cL_law 1713 = .ok (.aload_n 2, 1) := by decide +kernel
theorem dL_law_1714 : decode cL_law 1714 = .ok (.invokevirtual 194, 3) := by decide +kernel
theorem dL_law_1717 : decode cL_law 1717 = .ok (.dstore 7, 2) := by decide +kernel
theorem dL_law_1719 : decode cL_law 1719 = .ok (.dload 5, 2) := by decide +kernel
theorem dL_law_1721 : decode cL_law 1721 = .ok (.dload 7, 2) := by decide +kernel
theorem dL_law_1723 : decode cL_law 1723 = .ok (.dcmp .l, 1) := by decide +kernel
theorem dL_law_1724 : decode cL_law 1724 = .ok (.ifCond .eq 21, 3) := by decide +kernel
theorem dL_law_1727 : decode cL_law 1727 = .ok (.dload 5, 2) := by decide +kernel
theorem dL_law_1729 : decode cL_law 1729 = .ok (.dload 5, 2) := by decide +kernel
theorem dL_law_1731 : decode cL_law 1731 = .ok (.dcmp .l, 1) := by decide +kernel
theorem dL_law_1732 : decode cL_law 1732 = .ok (.ifCond .eq 11, 3) := by decide +kernel
theorem dL_law_1735 : decode cL_law 1735 = .ok (.dload 7, 2) := by decide +kernel
theorem dL_law_1737 : decode cL_law 1737 = .ok (.dload 7, 2) := by decide +kernel
theorem dL_law_1739 : decode cL_law 1739 = .ok (.dcmp .l, 1) := by decide +kernel
theorem dL_law_1740 : decode cL_law 1740 = .ok (.ifCond .ne 5, 3) := by decide +kernel
theorem dL_law_1743 : decode cL_law 1743 = .ok (.iconst 0, 1) := by decide +kernel
theorem dL_law_1744 : decode cL_law 1744 = .ok (.ireturn, 1) := by decide +kernel
theorem dL_law_1745 : decode cL_law 1745 = .ok (.goto 17, 3) := by decide +kernel
theorem dL_law_1748 : decode cL_law 1748 = .ok (.aload_n 1, 1) := by decide +kernel
theorem dL_law_1749 : decode cL_law 1749 = .ok (.invokevirtual 195, 3) := by decide +kernel
theorem dL_law_1752 : decode cL_law 1752 = .ok (.aload_n 2, 1) := by decide +kernel
theorem dL_law_1753 : decode cL_law 1753 = .ok (.invokevirtual 199, 3) := by decide +kernel
theorem dL_law_1756 : decode cL_law 1756 = .ok (.lcmp, 1) := by decide +kernel
theorem dL_law_1757 : decode cL_law 1757 = .ok (.ifCond .eq 5, 3) := by decide +kernel
theorem dL_law_1760 : decode cL_law 1760 = .ok (.iconst 0, 1) := by decide +kernel
theorem dL_law_1761 : decode cL_law 1761 = .ok (.ireturn, 1) := by decide +kernel
theorem dL_law_1762 : decode cL_law 1762 = .ok (.iinc 4 5, 3) := by decide +kernel
theorem dL_law_1765 : decode cL_law 1765 = .ok (.goto (-1742), 3) := by decide +kernel
theorem dL_law_1768 : decode cL_law 1768 = .ok (.iconst 1, 1) := by decide +kernel
theorem dL_law_1769 : decode cL_law 1769 = .ok (.ireturn, 1) := by decide +kernel
abbrev vwCl : List vw_C := [(RX1, TX1, 2), (RX3, TX3, 5), (RX5, TX5, 2), (RX7, TX7, 1), (RX9, TX9, 2), (RX10, TX10, 5), (RX11, TX11, 19)]
