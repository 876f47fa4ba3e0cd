def RX0 : String := "BeltKnots$Alphabet"
def TX0 : u_T := fun k => match k with
  | _ => ("", "", "", false)
def tyX0 : Nat → FieldType := fun k => match k with
  | _ => .int
abbrev wsX00 : List Cond := u_ws RX0 TX0 0
theorem nmX0 : ∀ a, a < 0 → ∀ b, b < 0 → a ≠ b → (TX0 a).2.1 ≠ (TX0 b).2.1 := by decide +kernel
theorem tyX0_ok : ∀ k, k < 0 → parseFieldDescriptor (TX0 k).2.2.1 = some (tyX0 k) := by decide +kernel
abbrev cX0_turns : ByteArray := prog_2_method_2_code
def yX0_turns : MethodName := ⟨RX0, "turns", "(I)I"⟩
abbrev cX0_loops : ByteArray := prog_2_method_3_code
def yX0_loops : MethodName := ⟨RX0, "loops", "(I)I"⟩
abbrev cX0_cordOfKnot : ByteArray := prog_2_method_4_code
def yX0_cordOfKnot : MethodName := ⟨RX0, "cordOfKnot", "(I)I"⟩
abbrev cX0_isVowel : ByteArray := prog_2_method_5_code
def yX0_isVowel : MethodName := ⟨RX0, "isVowel", "(I)Z"⟩
abbrev cX0_reading : ByteArray := prog_2_method_6_code
def yX0_reading : MethodName := ⟨RX0, "reading", "(II)I"⟩
abbrev cX0_codeOf : ByteArray := prog_2_method_7_code
def yX0_codeOf : MethodName := ⟨RX0, "codeOf", "(I)I"⟩
abbrev cX0_isCode : ByteArray := prog_2_method_8_code
def yX0_isCode : MethodName := ⟨RX0, "isCode", "(I)Z"⟩
def RX1 : String := "BeltKnots$Buffer"
def TX1 : u_T := fun k => match k with
  | 0 => ("BeltKnots$Buffer", "codes", "[I", true)
  | _ => ("BeltKnots$Buffer", "size", "I", false)
def tyX1 : Nat → FieldType := fun k => match k with
  | 0 => .array .int
  | _ => .int
abbrev wsX10 : List Cond := u_ws RX1 TX1 2
theorem nmX1 : ∀ a, a < 2 → ∀ b, b < 2 → a ≠ b → (TX1 a).2.1 ≠ (TX1 b).2.1 := by decide +kernel
theorem tyX1_ok : ∀ k, k < 2 → parseFieldDescriptor (TX1 k).2.2.1 = some (tyX1 k) := by decide +kernel
abbrev cX1_init : ByteArray := prog_3_method_1_code
def yX1_init : MethodName := ⟨RX1, "<init>", "()V"⟩
abbrev cX1_isFull : ByteArray := prog_3_method_2_code
def yX1_isFull : MethodName := ⟨RX1, "isFull", "()Z"⟩
abbrev cX1_at : ByteArray := prog_3_method_4_code
def yX1_at : MethodName := ⟨RX1, "at", "(I)I"⟩
abbrev cX1_add : ByteArray := prog_3_method_6_code
def yX1_add : MethodName := ⟨RX1, "add", "(I)I"⟩
abbrev cX1_empty : ByteArray := prog_3_method_7_code
def yX1_empty : MethodName := ⟨RX1, "empty", "()I"⟩
abbrev cX1_spell : ByteArray := prog_3_method_10_code
def yX1_spell : MethodName := ⟨RX1, "spell", "(LBeltKnots$Word;II)Z"⟩
abbrev cX1_spells : ByteArray := prog_3_method_11_code
def yX1_spells : MethodName := ⟨RX1, "spells", "(LBeltKnots$Word;)Z"⟩
def RX2 : String := "BeltKnots$Digest"
def TX2 : u_T := fun k => match k with
  | _ => ("", "", "", false)
def tyX2 : Nat → FieldType := fun k => match k with
  | _ => .int
abbrev wsX20 : List Cond := u_ws RX2 TX2 0
theorem nmX2 : ∀ a, a < 0 → ∀ b, b < 0 → a ≠ b → (TX2 a).2.1 ≠ (TX2 b).2.1 := by decide +kernel
theorem tyX2_ok : ∀ k, k < 0 → parseFieldDescriptor (TX2 k).2.2.1 = some (tyX2 k) := by decide +kernel
def RX3 : String := "BeltKnots$History"
def TX3 : u_T := fun k => match k with
  | 0 => ("BeltKnots$History", "saved", "[I", true)
  | 1 => ("BeltKnots$History", "snapshot", "[I", true)
  | 2 => ("BeltKnots$History", "oldest", "I", false)
  | 3 => ("BeltKnots$History", "size", "I", false)
  | _ => ("BeltKnots$History", "snapshotTaken", "Z", false)
def tyX3 : Nat → FieldType := fun k => match k with
  | 0 => .array .int
  | 1 => .array .int
  | 2 => .int
  | 3 => .int
  | _ => .boolean
abbrev wsX30 : List Cond := u_ws RX3 TX3 5
theorem nmX3 : ∀ a, a < 5 → ∀ b, b < 5 → a ≠ b → (TX3 a).2.1 ≠ (TX3 b).2.1 := by decide +kernel
theorem tyX3_ok : ∀ k, k < 5 → parseFieldDescriptor (TX3 k).2.2.1 = some (tyX3 k) := by decide +kernel
abbrev cX3_init : ByteArray := prog_5_method_1_code
def yX3_init : MethodName := ⟨RX3, "<init>", "()V"⟩
abbrev cX3_size : ByteArray := prog_5_method_2_code
def yX3_size : MethodName := ⟨RX3, "size", "()I"⟩
abbrev cX3_push : ByteArray := prog_5_method_3_code
def yX3_push : MethodName := ⟨RX3, "push", "(LBeltKnots$State;)V"⟩
abbrev cX3_cellOf : ByteArray := prog_5_method_5_code
def yX3_cellOf : MethodName := ⟨RX3, "cellOf", "(I)I"⟩
abbrev cX3_hasSnapshot : ByteArray := prog_5_method_6_code
def yX3_hasSnapshot : MethodName := ⟨RX3, "hasSnapshot", "()Z"⟩
abbrev cX3_takeSnapshot : ByteArray := prog_5_method_7_code
def yX3_takeSnapshot : MethodName := ⟨RX3, "takeSnapshot", "(LBeltKnots$State;)V"⟩
abbrev cX3_loadSnapshot : ByteArray := prog_5_method_8_code
def yX3_loadSnapshot : MethodName := ⟨RX3, "loadSnapshot", "(LBeltKnots$State;)V"⟩
def RX4 : String := "BeltKnots$Names"
def TX4 : u_T := fun k => match k with
  | _ => ("", "", "", false)
def tyX4 : Nat → FieldType := fun k => match k with
  | _ => .int
abbrev wsX40 : List Cond := u_ws RX4 TX4 0
theorem nmX4 : ∀ a, a < 0 → ∀ b, b < 0 → a ≠ b → (TX4 a).2.1 ≠ (TX4 b).2.1 := by decide +kernel
theorem tyX4_ok : ∀ k, k < 0 → parseFieldDescriptor (TX4 k).2.2.1 = some (tyX4 k) := by decide +kernel
abbrev cX4_whyNotTied : ByteArray := prog_6_method_2_code
def yX4_whyNotTied : MethodName := ⟨RX4, "whyNotTied", "(LBeltKnots$State;LBeltKnots$Word;I)I"⟩
abbrev cX4_reads : ByteArray := prog_6_method_3_code
def yX4_reads : MethodName := ⟨RX4, "reads", "(LBeltKnots$State;IILBeltKnots$Word;)Z"⟩
abbrev cX4_tieOn : ByteArray := prog_6_method_4_code
def yX4_tieOn : MethodName := ⟨RX4, "tieOn", "(LBeltKnots$State;LBeltKnots$Word;I)I"⟩
abbrev cX4_takeOff : ByteArray := prog_6_method_5_code
def yX4_takeOff : MethodName := ⟨RX4, "takeOff", "(LBeltKnots$State;II)I"⟩
abbrev cX4_whyNotTightened : ByteArray := prog_6_method_6_code
def yX4_whyNotTightened : MethodName := ⟨RX4, "whyNotTightened", "(LBeltKnots$State;II)I"⟩
abbrev cX4_tighten : ByteArray := prog_6_method_7_code
def yX4_tighten : MethodName := ⟨RX4, "tighten", "(LBeltKnots$State;II)I"⟩
abbrev cX4_cordToTighten : ByteArray := prog_6_method_8_code
def yX4_cordToTighten : MethodName := ⟨RX4, "cordToTighten", "(LBeltKnots$State;I)I"⟩
abbrev cX4_whyNotGiven : ByteArray := prog_6_method_9_code
def yX4_whyNotGiven : MethodName := ⟨RX4, "whyNotGiven", "(LBeltKnots$State;LBeltKnots$Word;III)I"⟩
abbrev cX4_handOver : ByteArray := prog_6_method_10_code
def yX4_handOver : MethodName := ⟨RX4, "handOver", "(LBeltKnots$State;LBeltKnots$Word;III)I"⟩
def RX5 : String := "BeltKnots$Reader"
def TX5 : u_T := fun k => match k with
  | 0 => ("BeltKnots$Reader", "pattern", "Ljava/lang/String;", false)
  | _ => ("BeltKnots$Reader", "place", "I", false)
def tyX5 : Nat → FieldType := fun k => match k with
  | 0 => .object "java/lang/String"
  | _ => .int
abbrev wsX50 : List Cond := u_ws RX5 TX5 2
theorem nmX5 : ∀ a, a < 2 → ∀ b, b < 2 → a ≠ b → (TX5 a).2.1 ≠ (TX5 b).2.1 := by decide +kernel
theorem tyX5_ok : ∀ k, k < 2 → parseFieldDescriptor (TX5 k).2.2.1 = some (tyX5 k) := by decide +kernel
abbrev cX5_init : ByteArray := prog_7_method_1_code
def yX5_init : MethodName := ⟨RX5, "<init>", "()V"⟩
def RX6 : String := "BeltKnots$Sea"
def TX6 : u_T := fun k => match k with
  | _ => ("", "", "", false)
def tyX6 : Nat → FieldType := fun k => match k with
  | _ => .int
abbrev wsX60 : List Cond := u_ws RX6 TX6 0
theorem nmX6 : ∀ a, a < 0 → ∀ b, b < 0 → a ≠ b → (TX6 a).2.1 ≠ (TX6 b).2.1 := by decide +kernel
theorem tyX6_ok : ∀ k, k < 0 → parseFieldDescriptor (TX6 k).2.2.1 = some (tyX6 k) := by decide +kernel
abbrev cX6_loosenedBehind : ByteArray := prog_8_method_2_code
def yX6_loosenedBehind : MethodName := ⟨RX6, "loosenedBehind", "(LBeltKnots$State;IIII)I"⟩
abbrev cX6_unreadableBehind : ByteArray := prog_8_method_3_code
def yX6_unreadableBehind : MethodName := ⟨RX6, "unreadableBehind", "(LBeltKnots$State;III)I"⟩
abbrev cX6_stormsToLoss : ByteArray := prog_8_method_4_code
def yX6_stormsToLoss : MethodName := ⟨RX6, "stormsToLoss", "(LBeltKnots$State;II)I"⟩
abbrev cX6_ofNextStorm : ByteArray := prog_8_method_5_code
def yX6_ofNextStorm : MethodName := ⟨RX6, "ofNextStorm", "(LBeltKnots$State;II)I"⟩
abbrev cX6_loosenedByNext : ByteArray := prog_8_method_6_code
def yX6_loosenedByNext : MethodName := ⟨RX6, "loosenedByNext", "(LBeltKnots$State;II)I"⟩
abbrev cX6_comeOver : ByteArray := prog_8_method_7_code
def yX6_comeOver : MethodName := ⟨RX6, "comeOver", "(LBeltKnots$State;I)I"⟩
abbrev cX6_loosen : ByteArray := prog_8_method_8_code
def yX6_loosen : MethodName := ⟨RX6, "loosen", "(LBeltKnots$State;II)V"⟩
abbrev cX6_lose : ByteArray := prog_8_method_9_code
def yX6_lose : MethodName := ⟨RX6, "lose", "(LBeltKnots$State;II)V"⟩
abbrev cX6_enter : ByteArray := prog_8_method_10_code
def yX6_enter : MethodName := ⟨RX6, "enter", "(LBeltKnots$State;II)V"⟩
abbrev cX6_ofEntry : ByteArray := prog_8_method_11_code
def yX6_ofEntry : MethodName := ⟨RX6, "ofEntry", "(LBeltKnots$State;II)I"⟩
def RX7 : String := "BeltKnots$State"
def TX7 : u_T := fun k => match k with
  | _ => ("BeltKnots$State", "cells", "[I", true)
def tyX7 : Nat → FieldType := fun k => match k with
  | _ => .array .int
abbrev wsX70 : List Cond := u_ws RX7 TX7 1
theorem nmX7 : ∀ a, a < 1 → ∀ b, b < 1 → a ≠ b → (TX7 a).2.1 ≠ (TX7 b).2.1 := by decide +kernel
theorem tyX7_ok : ∀ k, k < 1 → parseFieldDescriptor (TX7 k).2.2.1 = some (tyX7 k) := by decide +kernel
abbrev cX7_init : ByteArray := prog_9_method_1_code
def yX7_init : MethodName := ⟨RX7, "<init>", "()V"⟩
abbrev cX7_fisherCell : ByteArray := prog_9_method_2_code
def yX7_fisherCell : MethodName := ⟨RX7, "fisherCell", "(II)I"⟩
abbrev cX7_nameCell : ByteArray := prog_9_method_3_code
def yX7_nameCell : MethodName := ⟨RX7, "nameCell", "(II)I"⟩
abbrev cX7_knotCell : ByteArray := prog_9_method_4_code
def yX7_knotCell : MethodName := ⟨RX7, "knotCell", "(III)I"⟩
abbrev cX7_entryCell : ByteArray := prog_9_method_5_code
def yX7_entryCell : MethodName := ⟨RX7, "entryCell", "(II)I"⟩
abbrev cX7_at : ByteArray := prog_9_method_6_code
def yX7_at : MethodName := ⟨RX7, "at", "(I)I"⟩
abbrev cX7_put : ByteArray := prog_9_method_7_code
def yX7_put : MethodName := ⟨RX7, "put", "(II)V"⟩
abbrev cX7_add : ByteArray := prog_9_method_8_code
def yX7_add : MethodName := ⟨RX7, "add", "(II)V"⟩
abbrev cX7_closeUp : ByteArray := prog_9_method_9_code
def yX7_closeUp : MethodName := ⟨RX7, "closeUp", "(III)V"⟩
abbrev cX7_copyTo : ByteArray := prog_9_method_10_code
def yX7_copyTo : MethodName := ⟨RX7, "copyTo", "([II)V"⟩
abbrev cX7_copyFrom : ByteArray := prog_9_method_11_code
def yX7_copyFrom : MethodName := ⟨RX7, "copyFrom", "([II)V"⟩
abbrev cX7_names : ByteArray := prog_9_method_12_code
def yX7_names : MethodName := ⟨RX7, "names", "(I)I"⟩
abbrev cX7_hasName : ByteArray := prog_9_method_13_code
def yX7_hasName : MethodName := ⟨RX7, "hasName", "(II)Z"⟩
abbrev cX7_knots : ByteArray := prog_9_method_14_code
def yX7_knots : MethodName := ⟨RX7, "knots", "(II)I"⟩
abbrev cX7_loosened : ByteArray := prog_9_method_15_code
def yX7_loosened : MethodName := ⟨RX7, "loosened", "(III)I"⟩
abbrev cX7_readsAs : ByteArray := prog_9_method_16_code
def yX7_readsAs : MethodName := ⟨RX7, "readsAs", "(III)I"⟩
abbrev cX7_cordOf : ByteArray := prog_9_method_17_code
def yX7_cordOf : MethodName := ⟨RX7, "cordOf", "(II)I"⟩
abbrev cX7_left : ByteArray := prog_9_method_18_code
def yX7_left : MethodName := ⟨RX7, "left", "(I)I"⟩
def RX8 : String := "BeltKnots$Tally"
def TX8 : u_T := fun k => match k with
  | _ => ("", "", "", false)
def tyX8 : Nat → FieldType := fun k => match k with
  | _ => .int
abbrev wsX80 : List Cond := u_ws RX8 TX8 0
theorem nmX8 : ∀ a, a < 0 → ∀ b, b < 0 → a ≠ b → (TX8 a).2.1 ≠ (TX8 b).2.1 := by decide +kernel
theorem tyX8_ok : ∀ k, k < 0 → parseFieldDescriptor (TX8 k).2.2.1 = some (tyX8 k) := by decide +kernel
abbrev cX8_knotsThatAre : ByteArray := prog_10_method_2_code
def yX8_knotsThatAre : MethodName := ⟨RX8, "knotsThatAre", "(LBeltKnots$State;II)I"⟩
abbrev cX8_knotsOfName : ByteArray := prog_10_method_3_code
def yX8_knotsOfName : MethodName := ⟨RX8, "knotsOfName", "(LBeltKnots$State;IIII)I"⟩
abbrev cX8_isOfKind : ByteArray := prog_10_method_4_code
def yX8_isOfKind : MethodName := ⟨RX8, "isOfKind", "(LBeltKnots$State;III)Z"⟩
abbrev cX8_ofLetter : ByteArray := prog_10_method_5_code
def yX8_ofLetter : MethodName := ⟨RX8, "ofLetter", "(LBeltKnots$State;II)I"⟩
abbrev cX8_ofKnot : ByteArray := prog_10_method_6_code
def yX8_ofKnot : MethodName := ⟨RX8, "ofKnot", "(LBeltKnots$State;IIII)I"⟩
abbrev cX8_ofName : ByteArray := prog_10_method_7_code
def yX8_ofName : MethodName := ⟨RX8, "ofName", "(LBeltKnots$State;III)I"⟩
abbrev cX8_ofFisher : ByteArray := prog_10_method_8_code
def yX8_ofFisher : MethodName := ⟨RX8, "ofFisher", "(LBeltKnots$State;II)I"⟩
abbrev cX8_ofAll : ByteArray := prog_10_method_9_code
def yX8_ofAll : MethodName := ⟨RX8, "ofAll", "(LBeltKnots$State;I)I"⟩
abbrev cX8_names : ByteArray := prog_10_method_10_code
def yX8_names : MethodName := ⟨RX8, "names", "(LBeltKnots$State;)I"⟩
abbrev cX8_ofFishers : ByteArray := prog_10_method_11_code
def yX8_ofFishers : MethodName := ⟨RX8, "ofFishers", "(LBeltKnots$State;I)I"⟩
abbrev cX8_cordByNames : ByteArray := prog_10_method_12_code
def yX8_cordByNames : MethodName := ⟨RX8, "cordByNames", "(LBeltKnots$State;)I"⟩
abbrev cX8_cordByLetters : ByteArray := prog_10_method_13_code
def yX8_cordByLetters : MethodName := ⟨RX8, "cordByLetters", "(LBeltKnots$State;)I"⟩
abbrev cX8_fishersWithSharedNames : ByteArray := prog_10_method_14_code
def yX8_fishersWithSharedNames : MethodName := ⟨RX8, "fishersWithSharedNames", "(LBeltKnots$State;)I"⟩
abbrev cX8_share : ByteArray := prog_10_method_15_code
def yX8_share : MethodName := ⟨RX8, "share", "(LBeltKnots$State;II)Z"⟩
abbrev cX8_readAlike : ByteArray := prog_10_method_16_code
def yX8_readAlike : MethodName := ⟨RX8, "readAlike", "(LBeltKnots$State;IIII)Z"⟩
abbrev cX8_codeOfBelt : ByteArray := prog_10_method_17_code
def yX8_codeOfBelt : MethodName := ⟨RX8, "codeOfBelt", "(LBeltKnots$State;II)I"⟩
abbrev cX8_shareThatReadsTrue : ByteArray := prog_10_method_18_code
def yX8_shareThatReadsTrue : MethodName := ⟨RX8, "shareThatReadsTrue", "(LBeltKnots$State;)D"⟩
def RX9 : String := "BeltKnots$Word"
def TX9 : u_T := fun k => match k with
  | 0 => ("BeltKnots$Word", "letters", "[I", true)
  | _ => ("BeltKnots$Word", "size", "I", false)
def tyX9 : Nat → FieldType := fun k => match k with
  | 0 => .array .int
  | _ => .int
abbrev wsX90 : List Cond := u_ws RX9 TX9 2
theorem nmX9 : ∀ a, a < 2 → ∀ b, b < 2 → a ≠ b → (TX9 a).2.1 ≠ (TX9 b).2.1 := by decide +kernel
theorem tyX9_ok : ∀ k, k < 2 → parseFieldDescriptor (TX9 k).2.2.1 = some (tyX9 k) := by decide +kernel
abbrev cX9_init : ByteArray := prog_11_method_1_code
def yX9_init : MethodName := ⟨RX9, "<init>", "()V"⟩
abbrev cX9_empty : ByteArray := prog_11_method_2_code
def yX9_empty : MethodName := ⟨RX9, "empty", "()V"⟩
abbrev cX9_add : ByteArray := prog_11_method_3_code
def yX9_add : MethodName := ⟨RX9, "add", "(I)V"⟩
abbrev cX9_size : ByteArray := prog_11_method_4_code
def yX9_size : MethodName := ⟨RX9, "size", "()I"⟩
abbrev cX9_at : ByteArray := prog_11_method_5_code
def yX9_at : MethodName := ⟨RX9, "at", "(I)I"⟩
abbrev cX9_cord : ByteArray := prog_11_method_6_code
def yX9_cord : MethodName := ⟨RX9, "cord", "()I"⟩
def RX10 : String := "BeltKnots"
def TX10 : u_T := fun k => match k with
  | 0 => ("BeltKnots", "state", "LBeltKnots$State;", true)
  | 1 => ("BeltKnots", "history", "LBeltKnots$History;", true)
  | 2 => ("BeltKnots", "buffer", "LBeltKnots$Buffer;", true)
  | 3 => ("BeltKnots", "reader", "LBeltKnots$Reader;", true)
  | _ => ("BeltKnots", "word", "LBeltKnots$Word;", true)
def tyX10 : Nat → FieldType := fun k => match k with
  | 0 => .object "BeltKnots$State"
  | 1 => .object "BeltKnots$History"
  | 2 => .object "BeltKnots$Buffer"
  | 3 => .object "BeltKnots$Reader"
  | _ => .object "BeltKnots$Word"
abbrev wsX100 : List Cond := u_ws RX10 TX10 5
theorem nmX10 : ∀ a, a < 5 → ∀ b, b < 5 → a ≠ b → (TX10 a).2.1 ≠ (TX10 b).2.1 := by decide +kernel
theorem tyX10_ok : ∀ k, k < 5 → parseFieldDescriptor (TX10 k).2.2.1 = some (tyX10 k) := by decide +kernel
abbrev cX10_init : ByteArray := prog_1_method_1_code
def yX10_init : MethodName := ⟨RX10, "<init>", "()V"⟩
abbrev cX10_tie : ByteArray := prog_1_method_2_code
def yX10_tie : MethodName := ⟨RX10, "tie", "(I)I"⟩
abbrev cX10_cut : ByteArray := prog_1_method_3_code
def yX10_cut : MethodName := ⟨RX10, "cut", "(II)I"⟩
abbrev cX10_fast : ByteArray := prog_1_method_4_code
def yX10_fast : MethodName := ⟨RX10, "fast", "(II)I"⟩
abbrev cX10_give : ByteArray := prog_1_method_5_code
def yX10_give : MethodName := ⟨RX10, "give", "(III)I"⟩
abbrev cX10_storm : ByteArray := prog_1_method_6_code
def yX10_storm : MethodName := ⟨RX10, "storm", "(I)I"⟩
abbrev cX10_belt : ByteArray := prog_1_method_7_code
def yX10_belt : MethodName := ⟨RX10, "belt", "(II)I"⟩
abbrev cX10_set : ByteArray := prog_1_method_8_code
def yX10_set : MethodName := ⟨RX10, "set", "(II)I"⟩
abbrev cX10_append : ByteArray := prog_1_method_9_code
def yX10_append : MethodName := ⟨RX10, "append", "(I)I"⟩
abbrev cX10_clearBuffer : ByteArray := prog_1_method_10_code
def yX10_clearBuffer : MethodName := ⟨RX10, "clearBuffer", "()I"⟩
abbrev cX10_stopped : ByteArray := prog_1_method_13_code
def yX10_stopped : MethodName := ⟨RX10, "stopped", "(I)I"⟩
abbrev cX10_told : ByteArray := prog_1_method_14_code
def yX10_told : MethodName := ⟨RX10, "told", "(II)I"⟩
abbrev cX10_keep : ByteArray := prog_1_method_16_code
def yX10_keep : MethodName := ⟨RX10, "keep", "()I"⟩
abbrev cX10_restore : ByteArray := prog_1_method_17_code
def yX10_restore : MethodName := ⟨RX10, "restore", "()I"⟩
abbrev cX10_letter : ByteArray := prog_1_method_18_code
def yX10_letter : MethodName := ⟨RX10, "letter", "(II)I"⟩
abbrev cX10_knot : ByteArray := prog_1_method_19_code
def yX10_knot : MethodName := ⟨RX10, "knot", "(IIII)I"⟩
abbrev cX10_name : ByteArray := prog_1_method_20_code
def yX10_name : MethodName := ⟨RX10, "name", "(III)I"⟩
abbrev cX10_fisher : ByteArray := prog_1_method_21_code
def yX10_fisher : MethodName := ⟨RX10, "fisher", "(II)I"⟩
abbrev cX10_drowned : ByteArray := prog_1_method_22_code
def yX10_drowned : MethodName := ⟨RX10, "drowned", "(II)I"⟩
abbrev cX10_count : ByteArray := prog_1_method_24_code
def yX10_count : MethodName := ⟨RX10, "count", "(I)I"⟩
abbrev cX10_whyNot : ByteArray := prog_1_method_25_code
def yX10_whyNot : MethodName := ⟨RX10, "whyNot", "(I)I"⟩
abbrev cX10_noGift : ByteArray := prog_1_method_26_code
def yX10_noGift : MethodName := ⟨RX10, "noGift", "(III)I"⟩
abbrev cX10_ifStorm : ByteArray := prog_1_method_27_code
def yX10_ifStorm : MethodName := ⟨RX10, "ifStorm", "(II)I"⟩
abbrev cX10_bestBelt : ByteArray := prog_1_method_28_code
def yX10_bestBelt : MethodName := ⟨RX10, "bestBelt", "()I"⟩
abbrev cX10_trueShare : ByteArray := prog_1_method_29_code
def yX10_trueShare : MethodName := ⟨RX10, "trueShare", "()D"⟩
abbrev cX10_needFisher : ByteArray := prog_1_method_31_code
def yX10_needFisher : MethodName := ⟨RX10, "needFisher", "(I)V"⟩
abbrev cX10_needName : ByteArray := prog_1_method_32_code
def yX10_needName : MethodName := ⟨RX10, "needName", "(II)V"⟩
abbrev cX10_needWord : ByteArray := prog_1_method_33_code
def yX10_needWord : MethodName := ⟨RX10, "needWord", "()V"⟩
abbrev cX10_needWhat : ByteArray := prog_1_method_34_code
def yX10_needWhat : MethodName := ⟨RX10, "needWhat", "(II)V"⟩
abbrev cX10_numberOfStop : ByteArray := prog_1_method_35_code
def yX10_numberOfStop : MethodName := ⟨RX10, "numberOfStop", "(I)I"⟩
def RX11 : String := "BeltKnotsModel"
def TX11 : u_T := fun k => match k with
  | _ => ("", "", "", false)
def tyX11 : Nat → FieldType := fun k => match k with
  | _ => .int
abbrev wsX110 : List Cond := u_ws RX11 TX11 0
theorem nmX11 : ∀ a, a < 0 → ∀ b, b < 0 → a ≠ b → (TX11 a).2.1 ≠ (TX11 b).2.1 := by decide +kernel
theorem tyX11_ok : ∀ k, k < 0 → parseFieldDescriptor (TX11 k).2.2.1 = some (tyX11 k) := by decide +kernel
def RJ0 : String := "java/lang/String"
def TJ0 : u_T := fun k => match k with
  | _ => ("", "", "", false)
def tyJ0 : Nat → FieldType := fun k => match k with
  | _ => .int
abbrev wsJ00 : List Cond := u_ws RJ0 TJ0 0
theorem nmJ0 : ∀ a, a < 0 → ∀ b, b < 0 → a ≠ b → (TJ0 a).2.1 ≠ (TJ0 b).2.1 := by decide +kernel
theorem tyJ0_ok : ∀ k, k < 0 → parseFieldDescriptor (TJ0 k).2.2.1 = some (tyJ0 k) := by decide +kernel
def RJ10 : String := "java/lang/System"
def TJ10 : u_T := fun k => match k with
  | _ => ("", "", "", false)
def tyJ10 : Nat → FieldType := fun k => match k with
  | _ => .int
abbrev wsJ100 : List Cond := u_ws RJ10 TJ10 0
theorem nmJ10 : ∀ a, a < 0 → ∀ b, b < 0 → a ≠ b → (TJ10 a).2.1 ≠ (TJ10 b).2.1 := by decide +kernel
theorem tyJ10_ok : ∀ k, k < 0 → parseFieldDescriptor (TJ10 k).2.2.1 = some (tyJ10 k) := by decide +kernel
def RL : String := "BeltKnotsLaw"
abbrev cL_cell : ByteArray := method_2_code
def yL_cell : MethodName := ⟨RL, "cell", "([II)I"⟩
abbrev cL_low : ByteArray := method_3_code
def yL_low : MethodName := ⟨RL, "low", "(II)I"⟩
abbrev cL_isName : ByteArray := method_4_code
def yL_isName : MethodName := ⟨RL, "isName", "(LBeltKnots;II)Z"⟩
abbrev cL_holds : ByteArray := method_5_code
def yL_holds : MethodName := ⟨RL, "holds", "(LBeltKnots;)Z"⟩
abbrev cL_ends : ByteArray := method_6_code
def yL_ends : MethodName := ⟨RL, "ends", "(LBeltKnots;II)Z"⟩
abbrev cL_tryTie : ByteArray := method_7_code
def yL_tryTie : MethodName := ⟨RL, "tryTie", "(LBeltKnots;I)I"⟩
abbrev cL_tryFast : ByteArray := method_8_code
def yL_tryFast : MethodName := ⟨RL, "tryFast", "(LBeltKnots;II)I"⟩
abbrev cL_tryGive : ByteArray := method_9_code
def yL_tryGive : MethodName := ⟨RL, "tryGive", "(LBeltKnots;III)I"⟩
abbrev cL_ties : ByteArray := method_10_code
def yL_ties : MethodName := ⟨RL, "ties", "(LBeltKnots;II)Z"⟩
abbrev cL_storms : ByteArray := method_11_code
def yL_storms : MethodName := ⟨RL, "storms", "(LBeltKnots;I)Z"⟩
abbrev cL_bears : ByteArray := method_12_code
def yL_bears : MethodName := ⟨RL, "bears", "(LBeltKnots;II)Z"⟩
abbrev cL_fastens : ByteArray := method_13_code
def yL_fastens : MethodName := ⟨RL, "fastens", "(LBeltKnots;II)Z"⟩
abbrev cL_loose : ByteArray := method_14_code
def yL_loose : MethodName := ⟨RL, "loose", "(LBeltKnots;I)I"⟩
abbrev cL_gives : ByteArray := method_15_code
def yL_gives : MethodName := ⟨RL, "gives", "(LBeltKnots;III)Z"⟩
abbrev cL_act : ByteArray := method_16_code
def yL_act : MethodName := ⟨RL, "act", "(LBeltKnots;II)Z"⟩
abbrev cL_law : ByteArray := code
def yL_law : MethodName := ⟨RL, "law", "([I)Z"⟩
theorem dX0_turns_0 : decode cX0_turns 0 = .ok (.iload_n 0, 1) := by decide +kernel
theorem dX0_turns_1 : decode cX0_turns 1 = .ok (.iconst 4, 1) := by decide +kernel
theorem dX0_turns_2 : decode cX0_turns 2 = .ok (.idiv, 1) := by decide +kernel
theorem dX0_turns_3 : decode cX0_turns 3 = .ok (.iconst 1, 1) := by decide +kernel
theorem dX0_turns_4 : decode cX0_turns 4 = .ok (.iadd, 1) := by decide +kernel
theorem dX0_turns_5 : decode cX0_turns 5 = .ok (.ireturn, 1) := by decide +kernel
theorem dX0_loops_0 : decode cX0_loops 0 = .ok (.iload_n 0, 1) := by decide +kernel
theorem dX0_loops_1 : decode cX0_loops 1 = .ok (.iconst 4, 1) := by decide +kernel
theorem dX0_loops_2 : decode cX0_loops 2 = .ok (.irem, 1) := by decide +kernel
theorem dX0_loops_3 : decode cX0_loops 3 = .ok (.ireturn, 1) := by decide +kernel
theorem dX0_cordOfKnot_0 : decode cX0_cordOfKnot 0 = .ok (.iconst 2, 1) := by decide +kernel
theorem dX0_cordOfKnot_1 : decode cX0_cordOfKnot 1 = .ok (.iload_n 0, 1) := by decide +kernel
theorem dX0_cordOfKnot_2 : decode cX0_cordOfKnot 2 = .ok (.iconst 4, 1) := by decide +kernel
theorem dX0_cordOfKnot_3 : decode cX0_cordOfKnot 3 = .ok (.idiv, 1) := by decide +kernel
theorem dX0_cordOfKnot_4 : decode cX0_cordOfKnot 4 = .ok (.iconst 1, 1) := by decide +kernel
theorem dX0_cordOfKnot_5 : decode cX0_cordOfKnot 5 = .ok (.iadd, 1) := by decide +kernel
theorem dX0_cordOfKnot_6 : decode cX0_cordOfKnot 6 = .ok (.imul, 1) := by decide +kernel
theorem dX0_cordOfKnot_7 : decode cX0_cordOfKnot 7 = .ok (.iload_n 0, 1) := by decide +kernel
theorem dX0_cordOfKnot_8 : decode cX0_cordOfKnot 8 = .ok (.iconst 4, 1) := by decide +kernel
theorem dX0_cordOfKnot_9 : decode cX0_cordOfKnot 9 = .ok (.irem, 1) := by decide +kernel
theorem dX0_cordOfKnot_10 : decode cX0_cordOfKnot 10 = .ok (.iadd, 1) := by decide +kernel
theorem dX0_cordOfKnot_11 : decode cX0_cordOfKnot 11 = .ok (.ireturn, 1) := by decide +kernel
theorem dX0_isVowel_0 : decode cX0_isVowel 0 = .ok (.iload_n 0, 1) := by decide +kernel
theorem dX0_isVowel_1 : decode cX0_isVowel 1 = .ok (.ifCond .eq 20, 3) := by decide +kernel
theorem dX0_isVowel_4 : decode cX0_isVowel 4 = .ok (.iload_n 0, 1) := by decide +kernel
theorem dX0_isVowel_5 : decode cX0_isVowel 5 = .ok (.iconst 4, 1) := by decide +kernel
theorem dX0_isVowel_6 : decode cX0_isVowel 6 = .ok (.if_icmp .eq 15, 3) := by decide +kernel
theorem dX0_isVowel_9 : decode cX0_isVowel 9 = .ok (.iload_n 0, 1) := by decide +kernel
theorem dX0_isVowel_10 : decode cX0_isVowel 10 = .ok (.bipush 8, 2) := by decide +kernel
theorem dX0_isVowel_12 : decode cX0_isVowel 12 = .ok (.if_icmp .eq 9, 3) := by decide +kernel
theorem dX0_isVowel_15 : decode cX0_isVowel 15 = .ok (.iload_n 0, 1) := by decide +kernel
theorem dX0_isVowel_16 : decode cX0_isVowel 16 = .ok (.bipush 14, 2) := by decide +kernel
theorem dX0_isVowel_18 : decode cX0_isVowel 18 = .ok (.if_icmp .ne 7, 3) := by decide +kernel
theorem dX0_isVowel_21 : decode cX0_isVowel 21 = .ok (.iconst 1, 1) := by decide +kernel
theorem dX0_isVowel_22 : decode cX0_isVowel 22 = .ok (.goto 4, 3) := by decide +kernel
theorem dX0_isVowel_25 : decode cX0_isVowel 25 = .ok (.iconst 0, 1) := by decide +kernel
theorem dX0_isVowel_26 : decode cX0_isVowel 26 = .ok (.ireturn, 1) := by decide +kernel
theorem dX0_reading_0 : decode cX0_reading 0 = .ok (.iload_n 1, 1) := by decide +kernel
theorem dX0_reading_1 : decode cX0_reading 1 = .ok (.iconst 1, 1) := by decide +kernel
theorem dX0_reading_2 : decode cX0_reading 2 = .ok (.if_icmp .ge 5, 3) := by decide +kernel
theorem dX0_reading_5 : decode cX0_reading 5 = .ok (.iload_n 0, 1) := by decide +kernel
theorem dX0_reading_6 : decode cX0_reading 6 = .ok (.ireturn, 1) := by decide +kernel
theorem dX0_reading_7 : decode cX0_reading 7 = .ok (.iload_n 1, 1) := by decide +kernel
theorem dX0_reading_8 : decode cX0_reading 8 = .ok (.iconst 1, 1) := by decide +kernel
theorem dX0_reading_9 : decode cX0_reading 9 = .ok (.if_icmp .ne 9, 3) := by decide +kernel
theorem dX0_reading_12 : decode cX0_reading 12 = .ok (.iload_n 0, 1) := by decide +kernel
theorem dX0_reading_13 : decode cX0_reading 13 = .ok (.iconst 1, 1) := by decide +kernel
theorem dX0_reading_14 : decode cX0_reading 14 = .ok (.iadd, 1) := by decide +kernel
theorem dX0_reading_15 : decode cX0_reading 15 = .ok (.goto 5, 3) := by decide +kernel
theorem dX0_reading_18 : decode cX0_reading 18 = .ok (.bipush 16, 2) := by decide +kernel
theorem dX0_reading_20 : decode cX0_reading 20 = .ok (.ireturn, 1) := by decide +kernel
theorem dX0_codeOf_0 : decode cX0_codeOf 0 = .ok (.iload_n 0, 1) := by decide +kernel
theorem dX0_codeOf_1 : decode cX0_codeOf 1 = .ok (.bipush 16, 2) := by decide +kernel
theorem dX0_codeOf_3 : decode cX0_codeOf 3 = .ok (.if_icmp .ne 8, 3) := by decide +kernel
theorem dX0_codeOf_6 : decode cX0_codeOf 6 = .ok (.bipush 63, 2) := by decide +kernel
theorem dX0_codeOf_8 : decode cX0_codeOf 8 = .ok (.goto 7, 3) := by decide +kernel
theorem dX0_codeOf_11 : decode cX0_codeOf 11 = .ok (.bipush 97, 2) := by decide +kernel
theorem dX0_codeOf_13 : decode cX0_codeOf 13 = .ok (.iload_n 0, 1) := by decide +kernel
theorem dX0_codeOf_14 : decode cX0_codeOf 14 = .ok (.iadd, 1) := by decide +kernel
theorem dX0_codeOf_15 : decode cX0_codeOf 15 = .ok (.ireturn, 1) := by decide +kernel
theorem dX0_isCode_0 : decode cX0_isCode 0 = .ok (.iload_n 0, 1) := by decide +kernel
theorem dX0_isCode_1 : decode cX0_isCode 1 = .ok (.bipush 97, 2) := by decide +kernel
theorem dX0_isCode_3 : decode cX0_isCode 3 = .ok (.if_icmp .lt 13, 3) := by decide +kernel
theorem dX0_isCode_6 : decode cX0_isCode 6 = .ok (.iload_n 0, 1) := by decide +kernel
theorem dX0_isCode_7 : decode cX0_isCode 7 = .ok (.bipush 112, 2) := by decide +kernel
theorem dX0_isCode_9 : decode cX0_isCode 9 = .ok (.if_icmp .gt 7, 3) := by decide +kernel
theorem dX0_isCode_12 : decode cX0_isCode 12 = .ok (.iconst 1, 1) := by decide +kernel
theorem dX0_isCode_13 : decode cX0_isCode 13 = .ok (.goto 4, 3) := by decide +kernel
theorem dX0_isCode_16 : decode cX0_isCode 16 = .ok (.iconst 0, 1) := by decide +kernel
theorem dX0_isCode_17 : decode cX0_isCode 17 = .ok (.ireturn, 1) := by decide +kernel
theorem dX1_init_0 : decode cX1_init 0 = .ok (.aload_n 0, 1) := by decide +kernel
theorem dX1_init_1 : decode cX1_init 1 = .ok (.invokespecial 3, 3) := by decide +kernel
theorem dX1_init_4 : decode cX1_init 4 = .ok (.aload_n 0, 1) := by decide +kernel
theorem dX1_init_5 : decode cX1_init 5 = .ok (.bipush 60, 2) := by decide +kernel
theorem dX1_init_7 : decode cX1_init 7 = .ok (.newarray .int, 2) := by decide +kernel
theorem dX1_init_9 : decode cX1_init 9 = .ok (.putfield 9, 3) := by decide +kernel
theorem dX1_init_12 : decode cX1_init 12 = .ok (.aload_n 0, 1) := by decide +kernel
theorem dX1_init_13 : decode cX1_init 13 = .ok (.iconst 0, 1) := by decide +kernel
theorem dX1_init_14 : decode cX1_init 14 = .ok (.putfield 15, 3) := by decide +kernel
theorem dX1_init_17 : decode cX1_init 17 = .ok (.return_, 1) := by decide +kernel
theorem dX1_isFull_0 : decode cX1_isFull 0 = .ok (.aload_n 0, 1) := by decide +kernel
theorem dX1_isFull_1 : decode cX1_isFull 1 = .ok (.getfield 15, 3) := by decide +kernel
theorem dX1_isFull_4 : decode cX1_isFull 4 = .ok (.aload_n 0, 1) := by decide +kernel
theorem dX1_isFull_5 : decode cX1_isFull 5 = .ok (.getfield 9, 3) := by decide +kernel
theorem dX1_isFull_8 : decode cX1_isFull 8 = .ok (.arraylength, 1) := by decide +kernel
theorem dX1_isFull_9 : decode cX1_isFull 9 = .ok (.if_icmp .lt 7, 3) := by decide +kernel
theorem dX1_isFull_12 : decode cX1_isFull 12 = .ok (.iconst 1, 1) := by decide +kernel
theorem dX1_isFull_13 : decode cX1_isFull 13 = .ok (.goto 4, 3) := by decide +kernel
theorem dX1_isFull_16 : decode cX1_isFull 16 = .ok (.iconst 0, 1) := by decide +kernel
theorem dX1_isFull_17 : decode cX1_isFull 17 = .ok (.ireturn, 1) := by decide +kernel
theorem dX1_at_0 : decode cX1_at 0 = .ok (.iload_n 1, 1) := by decide +kernel
theorem dX1_at_1 : decode cX1_at 1 = .ok (.ifCond .lt 29, 3) := by decide +kernel
theorem dX1_at_4 : decode cX1_at 4 = .ok (.iload_n 1, 1) := by decide +kernel
theorem dX1_at_5 : decode cX1_at 5 = .ok (.aload_n 0, 1) := by decide +kernel
theorem dX1_at_6 : decode cX1_at 6 = .ok (.getfield 15, 3) := by decide +kernel
theorem dX1_at_9 : decode cX1_at 9 = .ok (.if_icmp .ge 21, 3) := by decide +kernel
theorem dX1_at_12 : decode cX1_at 12 = .ok (.iload_n 1, 1) := by decide +kernel
theorem dX1_at_13 : decode cX1_at 13 = .ok (.aload_n 0, 1) := by decide +kernel
theorem dX1_at_14 : decode cX1_at 14 = .ok (.getfield 9, 3) := by decide +kernel
theorem dX1_at_17 : decode cX1_at 17 = .ok (.arraylength, 1) := by decide +kernel
theorem dX1_at_18 : decode cX1_at 18 = .ok (.if_icmp .ge 12, 3) := by decide +kernel
theorem dX1_at_21 : decode cX1_at 21 = .ok (.aload_n 0, 1) := by decide +kernel
theorem dX1_at_22 : decode cX1_at 22 = .ok (.getfield 9, 3) := by decide +kernel
theorem dX1_at_25 : decode cX1_at 25 = .ok (.iload_n 1, 1) := by decide +kernel
theorem dX1_at_26 : decode cX1_at 26 = .ok (.iaload, 1) := by decide +kernel
theorem dX1_at_27 : decode cX1_at 27 = .ok (.goto 4, 3) := by decide +kernel
theorem dX1_at_30 : decode cX1_at 30 = .ok (.iconst (-1), 1) := by decide +kernel
theorem dX1_at_31 : decode cX1_at 31 = .ok (.ireturn, 1) := by decide +kernel
theorem dX1_add_0 : decode cX1_add 0 = .ok (.aload_n 0, 1) := by decide +kernel
theorem dX1_add_1 : decode cX1_add 1 = .ok (.getfield 15, 3) := by decide +kernel
theorem dX1_add_4 : decode cX1_add 4 = .ok (.ifCond .lt 35, 3) := by decide +kernel
theorem dX1_add_7 : decode cX1_add 7 = .ok (.aload_n 0, 1) := by decide +kernel
theorem dX1_add_8 : decode cX1_add 8 = .ok (.getfield 15, 3) := by decide +kernel
theorem dX1_add_11 : decode cX1_add 11 = .ok (.aload_n 0, 1) := by decide +kernel
theorem dX1_add_12 : decode cX1_add 12 = .ok (.getfield 9, 3) := by decide +kernel
theorem dX1_add_15 : decode cX1_add 15 = .ok (.arraylength, 1) := by decide +kernel
theorem dX1_add_16 : decode cX1_add 16 = .ok (.if_icmp .ge 23, 3) := by decide +kernel
theorem dX1_add_19 : decode cX1_add 19 = .ok (.aload_n 0, 1) := by decide +kernel
theorem dX1_add_20 : decode cX1_add 20 = .ok (.getfield 9, 3) := by decide +kernel
theorem dX1_add_23 : decode cX1_add 23 = .ok (.aload_n 0, 1) := by decide +kernel
theorem dX1_add_24 : decode cX1_add 24 = .ok (.getfield 15, 3) := by decide +kernel
theorem dX1_add_27 : decode cX1_add 27 = .ok (.iload_n 1, 1) := by decide +kernel
theorem dX1_add_28 : decode cX1_add 28 = .ok (.iastore, 1) := by decide +kernel
theorem dX1_add_29 : decode cX1_add 29 = .ok (.aload_n 0, 1) := by decide +kernel
theorem dX1_add_30 : decode cX1_add 30 = .ok (.dup, 1) := by decide +kernel
theorem dX1_add_31 : decode cX1_add 31 = .ok (.getfield 15, 3) := by decide +kernel
theorem dX1_add_34 : decode cX1_add 34 = .ok (.iconst 1, 1) := by decide +kernel
theorem dX1_add_35 : decode cX1_add 35 = .ok (.iadd, 1) := by decide +kernel
theorem dX1_add_36 : decode cX1_add 36 = .ok (.putfield 15, 3) := by decide +kernel
theorem dX1_add_39 : decode cX1_add 39 = .ok (.aload_n 0, 1) := by decide +kernel
theorem dX1_add_40 : decode cX1_add 40 = .ok (.getfield 15, 3) := by decide +kernel
theorem dX1_add_43 : decode cX1_add 43 = .ok (.ireturn, 1) := by decide +kernel
theorem dX1_empty_0 : decode cX1_empty 0 = .ok (.aload_n 0, 1) := by decide +kernel
theorem dX1_empty_1 : decode cX1_empty 1 = .ok (.getfield 15, 3) := by decide +kernel
theorem dX1_empty_4 : decode cX1_empty 4 = .ok (.istore_n 1, 1) := by decide +kernel
theorem dX1_empty_5 : decode cX1_empty 5 = .ok (.aload_n 0, 1) := by decide +kernel
theorem dX1_empty_6 : decode cX1_empty 6 = .ok (.iconst 0, 1) := by decide +kernel
theorem dX1_empty_7 : decode cX1_empty 7 = .ok (.putfield 15, 3) := by decide +kernel
theorem dX1_empty_10 : decode cX1_empty 10 = .ok (.iload_n 1, 1) := by decide +kernel
theorem dX1_empty_11 : decode cX1_empty 11 = .ok (.ireturn, 1) := by decide +kernel
theorem dX1_spell_0 : decode cX1_spell 0 = .ok (.aload_n 1, 1) := by decide +kernel
theorem dX1_spell_1 : decode cX1_spell 1 = .ok (.invokevirtual 23, 3) := by decide +kernel
theorem dX1_spell_4 : decode cX1_spell 4 = .ok (.iload_n 3, 1) := by decide +kernel
theorem dX1_spell_5 : decode cX1_spell 5 = .ok (.iload_n 2, 1) := by decide +kernel
theorem dX1_spell_6 : decode cX1_spell 6 = .ok (.if_icmp .le 11, 3) := by decide +kernel
theorem dX1_spell_9 : decode cX1_spell 9 = .ok (.iload_n 3, 1) := by decide +kernel
theorem dX1_spell_10 : decode cX1_spell 10 = .ok (.iload_n 2, 1) := by decide +kernel
theorem dX1_spell_11 : decode cX1_spell 11 = .ok (.isub, 1) := by decide +kernel
theorem dX1_spell_12 : decode cX1_spell 12 = .ok (.bipush 8, 2) := by decide +kernel
theorem dX1_spell_14 : decode cX1_spell 14 = .ok (.if_icmp .le 5, 3) := by decide +kernel
theorem dX1_spell_17 : decode cX1_spell 17 = .ok (.iconst 0, 1) := by decide +kernel
theorem dX1_spell_18 : decode cX1_spell 18 = .ok (.ireturn, 1) := by decide +kernel
theorem dX1_spell_19 : decode cX1_spell 19 = .ok (.iload_n 2, 1) := by decide +kernel
theorem dX1_spell_20 : decode cX1_spell 20 = .ok (.istore 4, 2) := by decide +kernel
theorem dX1_spell_22 : decode cX1_spell 22 = .ok (.iload 4, 2) := by decide +kernel
theorem dX1_spell_24 : decode cX1_spell 24 = .ok (.iload_n 3, 1) := by decide +kernel
theorem dX1_spell_25 : decode cX1_spell 25 = .ok (.if_icmp .ge 36, 3) := by decide +kernel
theorem dX1_spell_28 : decode cX1_spell 28 = .ok (.aload_n 0, 1) := by decide +kernel
theorem dX1_spell_29 : decode cX1_spell 29 = .ok (.iload 4, 2) := by decide +kernel
theorem dX1_spell_31 : decode cX1_spell 31 = .ok (.invokevirtual 19, 3) := by decide +kernel
theorem dX1_spell_34 : decode cX1_spell 34 = .ok (.invokestatic 28, 3) := by decide +kernel
theorem dX1_spell_37 : decode cX1_spell 37 = .ok (.ifCond .ne 5, 3) := by decide +kernel
theorem dX1_spell_40 : decode cX1_spell 40 = .ok (.iconst 0, 1) := by decide +kernel
theorem dX1_spell_41 : decode cX1_spell 41 = .ok (.ireturn, 1) := by decide +kernel
theorem dX1_spell_42 : decode cX1_spell 42 = .ok (.aload_n 1, 1) := by decide +kernel
theorem dX1_spell_43 : decode cX1_spell 43 = .ok (.aload_n 0, 1) := by decide +kernel
theorem dX1_spell_44 : decode cX1_spell 44 = .ok (.iload 4, 2) := by decide +kernel
theorem dX1_spell_46 : decode cX1_spell 46 = .ok (.invokevirtual 19, 3) := by decide +kernel
theorem dX1_spell_49 : decode cX1_spell 49 = .ok (.bipush 97, 2) := by decide +kernel
theorem dX1_spell_51 : decode cX1_spell 51 = .ok (.isub, 1) := by decide +kernel
theorem dX1_spell_52 : decode cX1_spell 52 = .ok (.invokevirtual 34, 3) := by decide +kernel
theorem dX1_spell_55 : decode cX1_spell 55 = .ok (.iinc 4 1, 3) := by decide +kernel
theorem dX1_spell_58 : decode cX1_spell 58 = .ok (.goto (-36), 3) := by decide +kernel
theorem dX1_spell_61 : decode cX1_spell 61 = .ok (.iconst 1, 1) := by decide +kernel
theorem dX1_spell_62 : decode cX1_spell 62 = .ok (.ireturn, 1) := by decide +kernel
theorem dX1_spells_0 : decode cX1_spells 0 = .ok (.aload_n 0, 1) := by decide +kernel
theorem dX1_spells_1 : decode cX1_spells 1 = .ok (.aload_n 1, 1) := by decide +kernel
theorem dX1_spells_2 : decode cX1_spells 2 = .ok (.iconst 0, 1) := by decide +kernel
theorem dX1_spells_3 : decode cX1_spells 3 = .ok (.aload_n 0, 1) := by decide +kernel
theorem dX1_spells_4 : decode cX1_spells 4 = .ok (.getfield 15, 3) := by decide +kernel
theorem dX1_spells_7 : decode cX1_spells 7 = .ok (.invokevirtual 38, 3) := by decide +kernel
theorem dX1_spells_10 : decode cX1_spells 10 = .ok (.ireturn, 1) := by decide +kernel
theorem dX3_init_0 : decode cX3_init 0 = .ok (.aload_n 0, 1) := by decide +kernel
theorem dX3_init_1 : decode cX3_init 1 = .ok (.invokespecial 3, 3) := by decide +kernel
theorem dX3_init_4 : decode cX3_init 4 = .ok (.aload_n 0, 1) := by decide +kernel
theorem dX3_init_5 : decode cX3_init 5 = .ok (.sipush 5460, 3) := by decide +kernel
theorem dX3_init_8 : decode cX3_init 8 = .ok (.newarray .int, 2) := by decide +kernel
theorem dX3_init_10 : decode cX3_init 10 = .ok (.putfield 11, 3) := by decide +kernel
theorem dX3_init_13 : decode cX3_init 13 = .ok (.aload_n 0, 1) := by decide +kernel
theorem dX3_init_14 : decode cX3_init 14 = .ok (.sipush 910, 3) := by decide +kernel
theorem dX3_init_17 : decode cX3_init 17 = .ok (.newarray .int, 2) := by decide +kernel
theorem dX3_init_19 : decode cX3_init 19 = .ok (.putfield 17, 3) := by decide +kernel
theorem dX3_init_22 : decode cX3_init 22 = .ok (.aload_n 0, 1) := by decide +kernel
theorem dX3_init_23 : decode cX3_init 23 = .ok (.iconst 0, 1) := by decide +kernel
theorem dX3_init_24 : decode cX3_init 24 = .ok (.putfield 20, 3) := by decide +kernel
theorem dX3_init_27 : decode cX3_init 27 = .ok (.aload_n 0, 1) := by decide +kernel
theorem dX3_init_28 : decode cX3_init 28 = .ok (.iconst 0, 1) := by decide +kernel
theorem dX3_init_29 : decode cX3_init 29 = .ok (.putfield 24, 3) := by decide +kernel
theorem dX3_init_32 : decode cX3_init 32 = .ok (.aload_n 0, 1) := by decide +kernel
theorem dX3_init_33 : decode cX3_init 33 = .ok (.iconst 0, 1) := by decide +kernel
theorem dX3_init_34 : decode cX3_init 34 = .ok (.putfield 27, 3) := by decide +kernel
theorem dX3_init_37 : decode cX3_init 37 = .ok (.return_, 1) := by decide +kernel
theorem dX3_size_0 : decode cX3_size 0 = .ok (.aload_n 0, 1) := by decide +kernel
theorem dX3_size_1 : decode cX3_size 1 = .ok (.getfield 24, 3) := by decide +kernel
theorem dX3_size_4 : decode cX3_size 4 = .ok (.ireturn, 1) := by decide +kernel
theorem dX3_push_0 : decode cX3_push 0 = .ok (.aload_n 0, 1) := by decide +kernel
theorem dX3_push_1 : decode cX3_push 1 = .ok (.getfield 24, 3) := by decide +kernel
theorem dX3_push_4 : decode cX3_push 4 = .ok (.bipush 6, 2) := by decide +kernel
theorem dX3_push_6 : decode cX3_push 6 = .ok (.if_icmp .ne 26, 3) := by decide +kernel
theorem dX3_push_9 : decode cX3_push 9 = .ok (.aload_n 0, 1) := by decide +kernel
theorem dX3_push_10 : decode cX3_push 10 = .ok (.aload_n 0, 1) := by decide +kernel
theorem dX3_push_11 : decode cX3_push 11 = .ok (.getfield 20, 3) := by decide +kernel
theorem dX3_push_14 : decode cX3_push 14 = .ok (.iconst 1, 1) := by decide +kernel
theorem dX3_push_15 : decode cX3_push 15 = .ok (.iadd, 1) := by decide +kernel
theorem dX3_push_16 : decode cX3_push 16 = .ok (.bipush 6, 2) := by decide +kernel
theorem dX3_push_18 : decode cX3_push 18 = .ok (.irem, 1) := by decide +kernel
theorem dX3_push_19 : decode cX3_push 19 = .ok (.putfield 20, 3) := by decide +kernel
theorem dX3_push_22 : decode cX3_push 22 = .ok (.aload_n 0, 1) := by decide +kernel
theorem dX3_push_23 : decode cX3_push 23 = .ok (.dup, 1) := by decide +kernel
theorem dX3_push_24 : decode cX3_push 24 = .ok (.getfield 24, 3) := by decide +kernel
theorem dX3_push_27 : decode cX3_push 27 = .ok (.iconst 1, 1) := by decide +kernel
theorem dX3_push_28 : decode cX3_push 28 = .ok (.isub, 1) := by decide +kernel
theorem dX3_push_29 : decode cX3_push 29 = .ok (.putfield 24, 3) := by decide +kernel
theorem dX3_push_32 : decode cX3_push 32 = .ok (.aload_n 1, 1) := by decide +kernel
theorem dX3_push_33 : decode cX3_push 33 = .ok (.aload_n 0, 1) := by decide +kernel
theorem dX3_push_34 : decode cX3_push 34 = .ok (.getfield 11, 3) := by decide +kernel
theorem dX3_push_37 : decode cX3_push 37 = .ok (.aload_n 0, 1) := by decide +kernel
theorem dX3_push_38 : decode cX3_push 38 = .ok (.aload_n 0, 1) := by decide +kernel
theorem dX3_push_39 : decode cX3_push 39 = .ok (.getfield 24, 3) := by decide +kernel
theorem dX3_push_42 : decode cX3_push 42 = .ok (.invokevirtual 31, 3) := by decide +kernel
theorem dX3_push_45 : decode cX3_push 45 = .ok (.invokevirtual 35, 3) := by decide +kernel
theorem dX3_push_48 : decode cX3_push 48 = .ok (.aload_n 0, 1) := by decide +kernel
theorem dX3_push_49 : decode cX3_push 49 = .ok (.dup, 1) := by decide +kernel
theorem dX3_push_50 : decode cX3_push 50 = .ok (.getfield 24, 3) := by decide +kernel
theorem dX3_push_53 : decode cX3_push 53 = .ok (.iconst 1, 1) := by decide +kernel
theorem dX3_push_54 : decode cX3_push 54 = .ok (.iadd, 1) := by decide +kernel
theorem dX3_push_55 : decode cX3_push 55 = .ok (.putfield 24, 3) := by decide +kernel
theorem dX3_push_58 : decode cX3_push 58 = .ok (.return_, 1) := by decide +kernel
theorem dX3_cellOf_0 : decode cX3_cellOf 0 = .ok (.aload_n 0, 1) := by decide +kernel
theorem dX3_cellOf_1 : decode cX3_cellOf 1 = .ok (.getfield 20, 3) := by decide +kernel
theorem dX3_cellOf_4 : decode cX3_cellOf 4 = .ok (.iload_n 1, 1) := by decide +kernel
theorem dX3_cellOf_5 : decode cX3_cellOf 5 = .ok (.iadd, 1) := by decide +kernel
theorem dX3_cellOf_6 : decode cX3_cellOf 6 = .ok (.bipush 6, 2) := by decide +kernel
theorem dX3_cellOf_8 : decode cX3_cellOf 8 = .ok (.irem, 1) := by decide +kernel
theorem dX3_cellOf_9 : decode cX3_cellOf 9 = .ok (.sipush 910, 3) := by decide +kernel
theorem dX3_cellOf_12 : decode cX3_cellOf 12 = .ok (.imul, 1) := by decide +kernel
theorem dX3_cellOf_13 : decode cX3_cellOf 13 = .ok (.ireturn, 1) := by decide +kernel
theorem dX3_hasSnapshot_0 : decode cX3_hasSnapshot 0 = .ok (.aload_n 0, 1) := by decide +kernel
theorem dX3_hasSnapshot_1 : decode cX3_hasSnapshot 1 = .ok (.getfield 27, 3) := by decide +kernel
theorem dX3_hasSnapshot_4 : decode cX3_hasSnapshot 4 = .ok (.ireturn, 1) := by decide +kernel
theorem dX3_takeSnapshot_0 : decode cX3_takeSnapshot 0 = .ok (.aload_n 1, 1) := by decide +kernel
theorem dX3_takeSnapshot_1 : decode cX3_takeSnapshot 1 = .ok (.aload_n 0, 1) := by decide +kernel
theorem dX3_takeSnapshot_2 : decode cX3_takeSnapshot 2 = .ok (.getfield 17, 3) := by decide +kernel
theorem dX3_takeSnapshot_5 : decode cX3_takeSnapshot 5 = .ok (.iconst 0, 1) := by decide +kernel
theorem dX3_takeSnapshot_6 : decode cX3_takeSnapshot 6 = .ok (.invokevirtual 35, 3) := by decide +kernel
theorem dX3_takeSnapshot_9 : decode cX3_takeSnapshot 9 = .ok (.aload_n 0, 1) := by decide +kernel
theorem dX3_takeSnapshot_10 : decode cX3_takeSnapshot 10 = .ok (.iconst 1, 1) := by decide +kernel
theorem dX3_takeSnapshot_11 : decode cX3_takeSnapshot 11 = .ok (.putfield 27, 3) := by decide +kernel
theorem dX3_takeSnapshot_14 : decode cX3_takeSnapshot 14 = .ok (.return_, 1) := by decide +kernel
theorem dX3_loadSnapshot_0 : decode cX3_loadSnapshot 0 = .ok (.aload_n 1, 1) := by decide +kernel
theorem dX3_loadSnapshot_1 : decode cX3_loadSnapshot 1 = .ok (.aload_n 0, 1) := by decide +kernel
theorem dX3_loadSnapshot_2 : decode cX3_loadSnapshot 2 = .ok (.getfield 17, 3) := by decide +kernel
theorem dX3_loadSnapshot_5 : decode cX3_loadSnapshot 5 = .ok (.iconst 0, 1) := by decide +kernel
theorem dX3_loadSnapshot_6 : decode cX3_loadSnapshot 6 = .ok (.invokevirtual 39, 3) := by decide +kernel
theorem dX3_loadSnapshot_9 : decode cX3_loadSnapshot 9 = .ok (.return_, 1) := by decide +kernel
theorem dX4_whyNotTied_0 : decode cX4_whyNotTied 0 = .ok (.aload_n 0, 1) := by decide +kernel
theorem dX4_whyNotTied_1 : decode cX4_whyNotTied 1 = .ok (.iload_n 2, 1) := by decide +kernel
theorem dX4_whyNotTied_2 : decode cX4_whyNotTied 2 = .ok (.invokevirtual 9, 3) := by decide +kernel
theorem dX4_whyNotTied_5 : decode cX4_whyNotTied 5 = .ok (.istore_n 3, 1) := by decide +kernel
theorem dX4_whyNotTied_6 : decode cX4_whyNotTied 6 = .ok (.iload_n 3, 1) := by decide +kernel
theorem dX4_whyNotTied_7 : decode cX4_whyNotTied 7 = .ok (.bipush 6, 2) := by decide +kernel
theorem dX4_whyNotTied_9 : decode cX4_whyNotTied 9 = .ok (.if_icmp .lt 5, 3) := by decide +kernel
theorem dX4_whyNotTied_12 : decode cX4_whyNotTied 12 = .ok (.iconst 1, 1) := by decide +kernel
theorem dX4_whyNotTied_13 : decode cX4_whyNotTied 13 = .ok (.ireturn, 1) := by decide +kernel
theorem dX4_whyNotTied_14 : decode cX4_whyNotTied 14 = .ok (.aload_n 1, 1) := by decide +kernel
theorem dX4_whyNotTied_15 : decode cX4_whyNotTied 15 = .ok (.invokevirtual 15, 3) := by decide +kernel
theorem dX4_whyNotTied_18 : decode cX4_whyNotTied 18 = .ok (.aload_n 0, 1) := by decide +kernel
theorem dX4_whyNotTied_19 : decode cX4_whyNotTied 19 = .ok (.iload_n 2, 1) := by decide +kernel
theorem dX4_whyNotTied_20 : decode cX4_whyNotTied 20 = .ok (.invokevirtual 21, 3) := by decide +kernel
theorem dX4_whyNotTied_23 : decode cX4_whyNotTied 23 = .ok (.if_icmp .le 5, 3) := by decide +kernel
theorem dX4_whyNotTied_26 : decode cX4_whyNotTied 26 = .ok (.iconst 2, 1) := by decide +kernel
theorem dX4_whyNotTied_27 : decode cX4_whyNotTied 27 = .ok (.ireturn, 1) := by decide +kernel
theorem dX4_whyNotTied_28 : decode cX4_whyNotTied 28 = .ok (.iconst 0, 1) := by decide +kernel
theorem dX4_whyNotTied_29 : decode cX4_whyNotTied 29 = .ok (.istore 4, 2) := by decide +kernel
theorem dX4_whyNotTied_31 : decode cX4_whyNotTied 31 = .ok (.iload 4, 2) := by decide +kernel
theorem dX4_whyNotTied_33 : decode cX4_whyNotTied 33 = .ok (.iload_n 3, 1) := by decide +kernel
theorem dX4_whyNotTied_34 : decode cX4_whyNotTied 34 = .ok (.if_icmp .ge 22, 3) := by decide +kernel
theorem dX4_whyNotTied_37 : decode cX4_whyNotTied 37 = .ok (.aload_n 0, 1) := by decide +kernel
theorem dX4_whyNotTied_38 : decode cX4_whyNotTied 38 = .ok (.iload_n 2, 1) := by decide +kernel
theorem dX4_whyNotTied_39 : decode cX4_whyNotTied 39 = .ok (.iload 4, 2) := by decide +kernel
theorem dX4_whyNotTied_41 : decode cX4_whyNotTied 41 = .ok (.aload_n 1, 1) := by decide +kernel
theorem dX4_whyNotTied_42 : decode cX4_whyNotTied 42 = .ok (.invokestatic 24, 3) := by decide +kernel
theorem dX4_whyNotTied_45 : decode cX4_whyNotTied 45 = .ok (.ifCond .eq 5, 3) := by decide +kernel
theorem dX4_whyNotTied_48 : decode cX4_whyNotTied 48 = .ok (.iconst 3, 1) := by decide +kernel
theorem dX4_whyNotTied_49 : decode cX4_whyNotTied 49 = .ok (.ireturn, 1) := by decide +kernel
theorem dX4_whyNotTied_50 : decode cX4_whyNotTied 50 = .ok (.iinc 4 1, 3) := by decide +kernel
theorem dX4_whyNotTied_53 : decode cX4_whyNotTied 53 = .ok (.goto (-22), 3) := by decide +kernel
theorem dX4_whyNotTied_56 : decode cX4_whyNotTied 56 = .ok (.iconst 0, 1) := by decide +kernel
theorem dX4_whyNotTied_57 : decode cX4_whyNotTied 57 = .ok (.ireturn, 1) := by decide +kernel
theorem dX4_reads_0 : decode cX4_reads 0 = .ok (.aload_n 0, 1) := by decide +kernel
theorem dX4_reads_1 : decode cX4_reads 1 = .ok (.iload_n 1, 1) := by decide +kernel
theorem dX4_reads_2 : decode cX4_reads 2 = .ok (.iload_n 2, 1) := by decide +kernel
theorem dX4_reads_3 : decode cX4_reads 3 = .ok (.invokevirtual 30, 3) := by decide +kernel
theorem dX4_reads_6 : decode cX4_reads 6 = .ok (.aload_n 3, 1) := by decide +kernel
theorem dX4_reads_7 : decode cX4_reads 7 = .ok (.invokevirtual 34, 3) := by decide +kernel
theorem dX4_reads_10 : decode cX4_reads 10 = .ok (.if_icmp .eq 5, 3) := by decide +kernel
theorem dX4_reads_13 : decode cX4_reads 13 = .ok (.iconst 0, 1) := by decide +kernel
theorem dX4_reads_14 : decode cX4_reads 14 = .ok (.ireturn, 1) := by decide +kernel
theorem dX4_reads_15 : decode cX4_reads 15 = .ok (.iconst 0, 1) := by decide +kernel
theorem dX4_reads_16 : decode cX4_reads 16 = .ok (.istore 4, 2) := by decide +kernel
theorem dX4_reads_18 : decode cX4_reads 18 = .ok (.iload 4, 2) := by decide +kernel
theorem dX4_reads_20 : decode cX4_reads 20 = .ok (.aload_n 3, 1) := by decide +kernel
theorem dX4_reads_21 : decode cX4_reads 21 = .ok (.invokevirtual 34, 3) := by decide +kernel
theorem dX4_reads_24 : decode cX4_reads 24 = .ok (.if_icmp .ge 28, 3) := by decide +kernel
theorem dX4_reads_27 : decode cX4_reads 27 = .ok (.aload_n 0, 1) := by decide +kernel
theorem dX4_reads_28 : decode cX4_reads 28 = .ok (.iload_n 1, 1) := by decide +kernel
theorem dX4_reads_29 : decode cX4_reads 29 = .ok (.iload_n 2, 1) := by decide +kernel
theorem dX4_reads_30 : decode cX4_reads 30 = .ok (.iload 4, 2) := by decide +kernel
theorem dX4_reads_32 : decode cX4_reads 32 = .ok (.invokevirtual 37, 3) := by decide +kernel
theorem dX4_reads_35 : decode cX4_reads 35 = .ok (.aload_n 3, 1) := by decide +kernel
theorem dX4_reads_36 : decode cX4_reads 36 = .ok (.iload 4, 2) := by decide +kernel
theorem dX4_reads_38 : decode cX4_reads 38 = .ok (.invokevirtual 41, 3) := by decide +kernel
theorem dX4_reads_41 : decode cX4_reads 41 = .ok (.if_icmp .eq 5, 3) := by decide +kernel
theorem dX4_reads_44 : decode cX4_reads 44 = .ok (.iconst 0, 1) := by decide +kernel
theorem dX4_reads_45 : decode cX4_reads 45 = .ok (.ireturn, 1) := by decide +kernel
theorem dX4_reads_46 : decode cX4_reads 46 = .ok (.iinc 4 1, 3) := by decide +kernel
theorem dX4_reads_49 : decode cX4_reads 49 = .ok (.goto (-31), 3) := by decide +kernel
theorem dX4_reads_52 : decode cX4_reads 52 = .ok (.iconst 1, 1) := by decide +kernel
theorem dX4_reads_53 : decode cX4_reads 53 = .ok (.ireturn, 1) := by decide +kernel
theorem dX4_tieOn_0 : decode cX4_tieOn 0 = .ok (.aload_n 0, 1) := by decide +kernel
theorem dX4_tieOn_1 : decode cX4_tieOn 1 = .ok (.iload_n 2, 1) := by decide +kernel
theorem dX4_tieOn_2 : decode cX4_tieOn 2 = .ok (.invokevirtual 9, 3) := by decide +kernel
theorem dX4_tieOn_5 : decode cX4_tieOn 5 = .ok (.istore_n 3, 1) := by decide +kernel
theorem dX4_tieOn_6 : decode cX4_tieOn 6 = .ok (.aload_n 0, 1) := by decide +kernel
theorem dX4_tieOn_7 : decode cX4_tieOn 7 = .ok (.iload_n 2, 1) := by decide +kernel
theorem dX4_tieOn_8 : decode cX4_tieOn 8 = .ok (.iload_n 3, 1) := by decide +kernel
theorem dX4_tieOn_9 : decode cX4_tieOn 9 = .ok (.invokestatic 44, 3) := by decide +kernel
theorem dX4_tieOn_12 : decode cX4_tieOn 12 = .ok (.iconst 0, 1) := by decide +kernel
theorem dX4_tieOn_13 : decode cX4_tieOn 13 = .ok (.iadd, 1) := by decide +kernel
theorem dX4_tieOn_14 : decode cX4_tieOn 14 = .ok (.aload_n 1, 1) := by decide +kernel
theorem dX4_tieOn_15 : decode cX4_tieOn 15 = .ok (.invokevirtual 34, 3) := by decide +kernel
theorem dX4_tieOn_18 : decode cX4_tieOn 18 = .ok (.invokevirtual 47, 3) := by decide +kernel
theorem dX4_tieOn_21 : decode cX4_tieOn 21 = .ok (.iconst 0, 1) := by decide +kernel
theorem dX4_tieOn_22 : decode cX4_tieOn 22 = .ok (.istore 4, 2) := by decide +kernel
theorem dX4_tieOn_24 : decode cX4_tieOn 24 = .ok (.iload 4, 2) := by decide +kernel
theorem dX4_tieOn_26 : decode cX4_tieOn 26 = .ok (.aload_n 1, 1) := by decide +kernel
theorem dX4_tieOn_27 : decode cX4_tieOn 27 = .ok (.invokevirtual 34, 3) := by decide +kernel
theorem dX4_tieOn_30 : decode cX4_tieOn 30 = .ok (.if_icmp .ge 55, 3) := by decide +kernel
theorem dX4_tieOn_33 : decode cX4_tieOn 33 = .ok (.iload_n 2, 1) := by decide +kernel
theorem dX4_tieOn_34 : decode cX4_tieOn 34 = .ok (.iload_n 3, 1) := by decide +kernel
theorem dX4_tieOn_35 : decode cX4_tieOn 35 = .ok (.iload 4, 2) := by decide +kernel
theorem dX4_tieOn_37 : decode cX4_tieOn 37 = .ok (.invokestatic 51, 3) := by decide +kernel
theorem dX4_tieOn_40 : decode cX4_tieOn 40 = .ok (.istore 5, 2) := by decide +kernel
theorem dX4_tieOn_42 : decode cX4_tieOn 42 = .ok (.aload_n 0, 1) := by decide +kernel
theorem dX4_tieOn_43 : decode cX4_tieOn 43 = .ok (.iload 5, 2) := by decide +kernel
theorem dX4_tieOn_45 : decode cX4_tieOn 45 = .ok (.iconst 0, 1) := by decide +kernel
theorem dX4_tieOn_46 : decode cX4_tieOn 46 = .ok (.iadd, 1) := by decide +kernel
theorem dX4_tieOn_47 : decode cX4_tieOn 47 = .ok (.aload_n 1, 1) := by decide +kernel
theorem dX4_tieOn_48 : decode cX4_tieOn 48 = .ok (.iload 4, 2) := by decide +kernel
theorem dX4_tieOn_50 : decode cX4_tieOn 50 = .ok (.invokevirtual 41, 3) := by decide +kernel
theorem dX4_tieOn_53 : decode cX4_tieOn 53 = .ok (.invokevirtual 47, 3) := by decide +kernel
theorem dX4_tieOn_56 : decode cX4_tieOn 56 = .ok (.aload_n 0, 1) := by decide +kernel
theorem dX4_tieOn_57 : decode cX4_tieOn 57 = .ok (.iload 5, 2) := by decide +kernel
theorem dX4_tieOn_59 : decode cX4_tieOn 59 = .ok (.iconst 1, 1) := by decide +kernel
theorem dX4_tieOn_60 : decode cX4_tieOn 60 = .ok (.iadd, 1) := by decide +kernel
theorem dX4_tieOn_61 : decode cX4_tieOn 61 = .ok (.iconst 0, 1) := by decide +kernel
theorem dX4_tieOn_62 : decode cX4_tieOn 62 = .ok (.invokevirtual 47, 3) := by decide +kernel
theorem dX4_tieOn_65 : decode cX4_tieOn 65 = .ok (.aload_n 0, 1) := by decide +kernel
theorem dX4_tieOn_66 : decode cX4_tieOn 66 = .ok (.iload 5, 2) := by decide +kernel
theorem dX4_tieOn_68 : decode cX4_tieOn 68 = .ok (.iconst 2, 1) := by decide +kernel
theorem dX4_tieOn_69 : decode cX4_tieOn 69 = .ok (.iadd, 1) := by decide +kernel
theorem dX4_tieOn_70 : decode cX4_tieOn 70 = .ok (.aload_n 1, 1) := by decide +kernel
theorem dX4_tieOn_71 : decode cX4_tieOn 71 = .ok (.iload 4, 2) := by decide +kernel
theorem dX4_tieOn_73 : decode cX4_tieOn 73 = .ok (.invokevirtual 41, 3) := by decide +kernel
theorem dX4_tieOn_76 : decode cX4_tieOn 76 = .ok (.invokevirtual 47, 3) := by decide +kernel
theorem dX4_tieOn_79 : decode cX4_tieOn 79 = .ok (.iinc 4 1, 3) := by decide +kernel
theorem dX4_tieOn_82 : decode cX4_tieOn 82 = .ok (.goto (-58), 3) := by decide +kernel
theorem dX4_tieOn_85 : decode cX4_tieOn 85 = .ok (.aload_n 0, 1) := by decide +kernel
theorem dX4_tieOn_86 : decode cX4_tieOn 86 = .ok (.iload_n 2, 1) := by decide +kernel
theorem dX4_tieOn_87 : decode cX4_tieOn 87 = .ok (.iconst 1, 1) := by decide +kernel
theorem dX4_tieOn_88 : decode cX4_tieOn 88 = .ok (.invokestatic 54, 3) := by decide +kernel
theorem dX4_tieOn_91 : decode cX4_tieOn 91 = .ok (.iconst 1, 1) := by decide +kernel
theorem dX4_tieOn_92 : decode cX4_tieOn 92 = .ok (.invokevirtual 57, 3) := by decide +kernel
theorem dX4_tieOn_95 : decode cX4_tieOn 95 = .ok (.aload_n 0, 1) := by decide +kernel
theorem dX4_tieOn_96 : decode cX4_tieOn 96 = .ok (.iconst 3, 1) := by decide +kernel
theorem dX4_tieOn_97 : decode cX4_tieOn 97 = .ok (.aload_n 1, 1) := by decide +kernel
theorem dX4_tieOn_98 : decode cX4_tieOn 98 = .ok (.invokevirtual 34, 3) := by decide +kernel
theorem dX4_tieOn_101 : decode cX4_tieOn 101 = .ok (.invokevirtual 57, 3) := by decide +kernel
theorem dX4_tieOn_104 : decode cX4_tieOn 104 = .ok (.aload_n 0, 1) := by decide +kernel
theorem dX4_tieOn_105 : decode cX4_tieOn 105 = .ok (.iconst 4, 1) := by decide +kernel
theorem dX4_tieOn_106 : decode cX4_tieOn 106 = .ok (.aload_n 1, 1) := by decide +kernel
theorem dX4_tieOn_107 : decode cX4_tieOn 107 = .ok (.invokevirtual 15, 3) := by decide +kernel
theorem dX4_tieOn_110 : decode cX4_tieOn 110 = .ok (.invokevirtual 57, 3) := by decide +kernel
theorem dX4_tieOn_113 : decode cX4_tieOn 113 = .ok (.iload_n 3, 1) := by decide +kernel
theorem dX4_tieOn_114 : decode cX4_tieOn 114 = .ok (.ireturn, 1) := by decide +kernel
theorem dX4_takeOff_0 : decode cX4_takeOff 0 = .ok (.aload_n 0, 1) := by decide +kernel
theorem dX4_takeOff_1 : decode cX4_takeOff 1 = .ok (.iload_n 1, 1) := by decide +kernel
theorem dX4_takeOff_2 : decode cX4_takeOff 2 = .ok (.iload_n 2, 1) := by decide +kernel
theorem dX4_takeOff_3 : decode cX4_takeOff 3 = .ok (.invokevirtual 60, 3) := by decide +kernel
theorem dX4_takeOff_6 : decode cX4_takeOff 6 = .ok (.istore_n 3, 1) := by decide +kernel
theorem dX4_takeOff_7 : decode cX4_takeOff 7 = .ok (.iload_n 1, 1) := by decide +kernel
theorem dX4_takeOff_8 : decode cX4_takeOff 8 = .ok (.bipush 6, 2) := by decide +kernel
theorem dX4_takeOff_10 : decode cX4_takeOff 10 = .ok (.invokestatic 44, 3) := by decide +kernel
theorem dX4_takeOff_13 : decode cX4_takeOff 13 = .ok (.istore 4, 2) := by decide +kernel
theorem dX4_takeOff_15 : decode cX4_takeOff 15 = .ok (.aload_n 0, 1) := by decide +kernel
theorem dX4_takeOff_16 : decode cX4_takeOff 16 = .ok (.iload_n 1, 1) := by decide +kernel
theorem dX4_takeOff_17 : decode cX4_takeOff 17 = .ok (.iload_n 2, 1) := by decide +kernel
theorem dX4_takeOff_18 : decode cX4_takeOff 18 = .ok (.invokestatic 44, 3) := by decide +kernel
theorem dX4_takeOff_21 : decode cX4_takeOff 21 = .ok (.iload 4, 2) := by decide +kernel
theorem dX4_takeOff_23 : decode cX4_takeOff 23 = .ok (.bipush 25, 2) := by decide +kernel
theorem dX4_takeOff_25 : decode cX4_takeOff 25 = .ok (.invokevirtual 63, 3) := by decide +kernel
theorem dX4_takeOff_28 : decode cX4_takeOff 28 = .ok (.aload_n 0, 1) := by decide +kernel
theorem dX4_takeOff_29 : decode cX4_takeOff 29 = .ok (.iload_n 1, 1) := by decide +kernel
theorem dX4_takeOff_30 : decode cX4_takeOff 30 = .ok (.iconst 1, 1) := by decide +kernel
theorem dX4_takeOff_31 : decode cX4_takeOff 31 = .ok (.invokestatic 54, 3) := by decide +kernel
theorem dX4_takeOff_34 : decode cX4_takeOff 34 = .ok (.iconst (-1), 1) := by decide +kernel
theorem dX4_takeOff_35 : decode cX4_takeOff 35 = .ok (.invokevirtual 57, 3) := by decide +kernel
theorem dX4_takeOff_38 : decode cX4_takeOff 38 = .ok (.aload_n 0, 1) := by decide +kernel
theorem dX4_takeOff_39 : decode cX4_takeOff 39 = .ok (.iconst 4, 1) := by decide +kernel
theorem dX4_takeOff_40 : decode cX4_takeOff 40 = .ok (.iload_n 3, 1) := by decide +kernel
theorem dX4_takeOff_41 : decode cX4_takeOff 41 = .ok (.ineg, 1) := by decide +kernel
theorem dX4_takeOff_42 : decode cX4_takeOff 42 = .ok (.invokevirtual 57, 3) := by decide +kernel
theorem dX4_takeOff_45 : decode cX4_takeOff 45 = .ok (.iload_n 3, 1) := by decide +kernel
theorem dX4_takeOff_46 : decode cX4_takeOff 46 = .ok (.ireturn, 1) := by decide +kernel
theorem dX4_whyNotTightened_0 : decode cX4_whyNotTightened 0 = .ok (.iconst 0, 1) := by decide +kernel
theorem dX4_whyNotTightened_1 : decode cX4_whyNotTightened 1 = .ok (.istore_n 3, 1) := by decide +kernel
theorem dX4_whyNotTightened_2 : decode cX4_whyNotTightened 2 = .ok (.aload_n 0, 1) := by decide +kernel
theorem dX4_whyNotTightened_3 : decode cX4_whyNotTightened 3 = .ok (.iload_n 1, 1) := by decide +kernel
theorem dX4_whyNotTightened_4 : decode cX4_whyNotTightened 4 = .ok (.iload_n 2, 1) := by decide +kernel
theorem dX4_whyNotTightened_5 : decode cX4_whyNotTightened 5 = .ok (.invokevirtual 30, 3) := by decide +kernel
theorem dX4_whyNotTightened_8 : decode cX4_whyNotTightened 8 = .ok (.istore 4, 2) := by decide +kernel
theorem dX4_whyNotTightened_10 : decode cX4_whyNotTightened 10 = .ok (.iconst 0, 1) := by decide +kernel
theorem dX4_whyNotTightened_11 : decode cX4_whyNotTightened 11 = .ok (.istore 5, 2) := by decide +kernel
theorem dX4_whyNotTightened_13 : decode cX4_whyNotTightened 13 = .ok (.iload 5, 2) := by decide +kernel
theorem dX4_whyNotTightened_15 : decode cX4_whyNotTightened 15 = .ok (.iload 4, 2) := by decide +kernel
theorem dX4_whyNotTightened_17 : decode cX4_whyNotTightened 17 = .ok (.if_icmp .ge 23, 3) := by decide +kernel
theorem dX4_whyNotTightened_20 : decode cX4_whyNotTightened 20 = .ok (.iload_n 3, 1) := by decide +kernel
theorem dX4_whyNotTightened_21 : decode cX4_whyNotTightened 21 = .ok (.aload_n 0, 1) := by decide +kernel
theorem dX4_whyNotTightened_22 : decode cX4_whyNotTightened 22 = .ok (.iload_n 1, 1) := by decide +kernel
theorem dX4_whyNotTightened_23 : decode cX4_whyNotTightened 23 = .ok (.iload_n 2, 1) := by decide +kernel
theorem dX4_whyNotTightened_24 : decode cX4_whyNotTightened 24 = .ok (.iload 5, 2) := by decide +kernel
theorem dX4_whyNotTightened_26 : decode cX4_whyNotTightened 26 = .ok (.invokestatic 51, 3) := by decide +kernel
theorem dX4_whyNotTightened_29 : decode cX4_whyNotTightened 29 = .ok (.invokestatic 67, 3) := by decide +kernel
theorem dX4_whyNotTightened_32 : decode cX4_whyNotTightened 32 = .ok (.iadd, 1) := by decide +kernel
theorem dX4_whyNotTightened_33 : decode cX4_whyNotTightened 33 = .ok (.istore_n 3, 1) := by decide +kernel
theorem dX4_whyNotTightened_34 : decode cX4_whyNotTightened 34 = .ok (.iinc 5 1, 3) := by decide +kernel
theorem dX4_whyNotTightened_37 : decode cX4_whyNotTightened 37 = .ok (.goto (-24), 3) := by decide +kernel
theorem dX4_whyNotTightened_40 : decode cX4_whyNotTightened 40 = .ok (.iload_n 3, 1) := by decide +kernel
theorem dX4_whyNotTightened_41 : decode cX4_whyNotTightened 41 = .ok (.aload_n 0, 1) := by decide +kernel
theorem dX4_whyNotTightened_42 : decode cX4_whyNotTightened 42 = .ok (.iload_n 1, 1) := by decide +kernel
theorem dX4_whyNotTightened_43 : decode cX4_whyNotTightened 43 = .ok (.invokevirtual 21, 3) := by decide +kernel
theorem dX4_whyNotTightened_46 : decode cX4_whyNotTightened 46 = .ok (.if_icmp .le 7, 3) := by decide +kernel
theorem dX4_whyNotTightened_49 : decode cX4_whyNotTightened 49 = .ok (.iconst 2, 1) := by decide +kernel
theorem dX4_whyNotTightened_50 : decode cX4_whyNotTightened 50 = .ok (.goto 4, 3) := by decide +kernel
theorem dX4_whyNotTightened_53 : decode cX4_whyNotTightened 53 = .ok (.iconst 0, 1) := by decide +kernel
theorem dX4_whyNotTightened_54 : decode cX4_whyNotTightened 54 = .ok (.ireturn, 1) := by decide +kernel
theorem dX4_tighten_0 : decode cX4_tighten 0 = .ok (.iconst 0, 1) := by decide +kernel
theorem dX4_tighten_1 : decode cX4_tighten 1 = .ok (.istore_n 3, 1) := by decide +kernel
theorem dX4_tighten_2 : decode cX4_tighten 2 = .ok (.aload_n 0, 1) := by decide +kernel
theorem dX4_tighten_3 : decode cX4_tighten 3 = .ok (.iload_n 1, 1) := by decide +kernel
theorem dX4_tighten_4 : decode cX4_tighten 4 = .ok (.iload_n 2, 1) := by decide +kernel
theorem dX4_tighten_5 : decode cX4_tighten 5 = .ok (.invokevirtual 30, 3) := by decide +kernel
theorem dX4_tighten_8 : decode cX4_tighten 8 = .ok (.istore 4, 2) := by decide +kernel
theorem dX4_tighten_10 : decode cX4_tighten 10 = .ok (.iconst 0, 1) := by decide +kernel
theorem dX4_tighten_11 : decode cX4_tighten 11 = .ok (.istore 5, 2) := by decide +kernel
theorem dX4_tighten_13 : decode cX4_tighten 13 = .ok (.iload 5, 2) := by decide +kernel
theorem dX4_tighten_15 : decode cX4_tighten 15 = .ok (.iload 4, 2) := by decide +kernel
theorem dX4_tighten_17 : decode cX4_tighten 17 = .ok (.if_icmp .ge 69, 3) := by decide +kernel
theorem dX4_tighten_20 : decode cX4_tighten 20 = .ok (.iload_n 1, 1) := by decide +kernel
theorem dX4_tighten_21 : decode cX4_tighten 21 = .ok (.iload_n 2, 1) := by decide +kernel
theorem dX4_tighten_22 : decode cX4_tighten 22 = .ok (.iload 5, 2) := by decide +kernel
theorem dX4_tighten_24 : decode cX4_tighten 24 = .ok (.invokestatic 51, 3) := by decide +kernel
theorem dX4_tighten_27 : decode cX4_tighten 27 = .ok (.istore 6, 2) := by decide +kernel
theorem dX4_tighten_29 : decode cX4_tighten 29 = .ok (.aload_n 0, 1) := by decide +kernel
theorem dX4_tighten_30 : decode cX4_tighten 30 = .ok (.iload 6, 2) := by decide +kernel
theorem dX4_tighten_32 : decode cX4_tighten 32 = .ok (.iconst 1, 1) := by decide +kernel
theorem dX4_tighten_33 : decode cX4_tighten 33 = .ok (.iadd, 1) := by decide +kernel
theorem dX4_tighten_34 : decode cX4_tighten 34 = .ok (.invokevirtual 71, 3) := by decide +kernel
theorem dX4_tighten_37 : decode cX4_tighten 37 = .ok (.iconst 1, 1) := by decide +kernel
theorem dX4_tighten_38 : decode cX4_tighten 38 = .ok (.if_icmp .ne 42, 3) := by decide +kernel
theorem dX4_tighten_41 : decode cX4_tighten 41 = .ok (.aload_n 0, 1) := by decide +kernel
theorem dX4_tighten_42 : decode cX4_tighten 42 = .ok (.iconst 4, 1) := by decide +kernel
theorem dX4_tighten_43 : decode cX4_tighten 43 = .ok (.aload_n 0, 1) := by decide +kernel
theorem dX4_tighten_44 : decode cX4_tighten 44 = .ok (.iload 6, 2) := by decide +kernel
theorem dX4_tighten_46 : decode cX4_tighten 46 = .ok (.invokestatic 67, 3) := by decide +kernel
theorem dX4_tighten_49 : decode cX4_tighten 49 = .ok (.invokevirtual 57, 3) := by decide +kernel
theorem dX4_tighten_52 : decode cX4_tighten 52 = .ok (.aload_n 0, 1) := by decide +kernel
theorem dX4_tighten_53 : decode cX4_tighten 53 = .ok (.iload 6, 2) := by decide +kernel
theorem dX4_tighten_55 : decode cX4_tighten 55 = .ok (.iconst 0, 1) := by decide +kernel
theorem dX4_tighten_56 : decode cX4_tighten 56 = .ok (.iadd, 1) := by decide +kernel
theorem dX4_tighten_57 : decode cX4_tighten 57 = .ok (.aload_n 0, 1) := by decide +kernel
theorem dX4_tighten_58 : decode cX4_tighten 58 = .ok (.iload_n 1, 1) := by decide +kernel
theorem dX4_tighten_59 : decode cX4_tighten 59 = .ok (.iload_n 2, 1) := by decide +kernel
theorem dX4_tighten_60 : decode cX4_tighten 60 = .ok (.iload 5, 2) := by decide +kernel
theorem dX4_tighten_62 : decode cX4_tighten 62 = .ok (.invokevirtual 37, 3) := by decide +kernel
theorem dX4_tighten_65 : decode cX4_tighten 65 = .ok (.invokevirtual 47, 3) := by decide +kernel
theorem dX4_tighten_68 : decode cX4_tighten 68 = .ok (.aload_n 0, 1) := by decide +kernel
theorem dX4_tighten_69 : decode cX4_tighten 69 = .ok (.iload 6, 2) := by decide +kernel
theorem dX4_tighten_71 : decode cX4_tighten 71 = .ok (.iconst 1, 1) := by decide +kernel
theorem dX4_tighten_72 : decode cX4_tighten 72 = .ok (.iadd, 1) := by decide +kernel
theorem dX4_tighten_73 : decode cX4_tighten 73 = .ok (.iconst 0, 1) := by decide +kernel
theorem dX4_tighten_74 : decode cX4_tighten 74 = .ok (.invokevirtual 47, 3) := by decide +kernel
theorem dX4_tighten_77 : decode cX4_tighten 77 = .ok (.iinc 3 1, 3) := by decide +kernel
theorem dX4_tighten_80 : decode cX4_tighten 80 = .ok (.iinc 5 1, 3) := by decide +kernel
theorem dX4_tighten_83 : decode cX4_tighten 83 = .ok (.goto (-70), 3) := by decide +kernel
theorem dX4_tighten_86 : decode cX4_tighten 86 = .ok (.iload_n 3, 1) := by decide +kernel
theorem dX4_tighten_87 : decode cX4_tighten 87 = .ok (.ireturn, 1) := by decide +kernel
theorem dX4_cordToTighten_0 : decode cX4_cordToTighten 0 = .ok (.aload_n 0, 1) := by decide +kernel
theorem dX4_cordToTighten_1 : decode cX4_cordToTighten 1 = .ok (.iload_n 1, 1) := by decide +kernel
theorem dX4_cordToTighten_2 : decode cX4_cordToTighten 2 = .ok (.iconst 0, 1) := by decide +kernel
theorem dX4_cordToTighten_3 : decode cX4_cordToTighten 3 = .ok (.iadd, 1) := by decide +kernel
theorem dX4_cordToTighten_4 : decode cX4_cordToTighten 4 = .ok (.invokevirtual 71, 3) := by decide +kernel
theorem dX4_cordToTighten_7 : decode cX4_cordToTighten 7 = .ok (.istore_n 2, 1) := by decide +kernel
theorem dX4_cordToTighten_8 : decode cX4_cordToTighten 8 = .ok (.iload_n 2, 1) := by decide +kernel
theorem dX4_cordToTighten_9 : decode cX4_cordToTighten 9 = .ok (.aload_n 0, 1) := by decide +kernel
theorem dX4_cordToTighten_10 : decode cX4_cordToTighten 10 = .ok (.iload_n 1, 1) := by decide +kernel
theorem dX4_cordToTighten_11 : decode cX4_cordToTighten 11 = .ok (.iconst 1, 1) := by decide +kernel
theorem dX4_cordToTighten_12 : decode cX4_cordToTighten 12 = .ok (.iadd, 1) := by decide +kernel
theorem dX4_cordToTighten_13 : decode cX4_cordToTighten 13 = .ok (.invokevirtual 71, 3) := by decide +kernel
theorem dX4_cordToTighten_16 : decode cX4_cordToTighten 16 = .ok (.invokestatic 72, 3) := by decide +kernel
theorem dX4_cordToTighten_19 : decode cX4_cordToTighten 19 = .ok (.istore_n 3, 1) := by decide +kernel
theorem dX4_cordToTighten_20 : decode cX4_cordToTighten 20 = .ok (.iload_n 3, 1) := by decide +kernel
theorem dX4_cordToTighten_21 : decode cX4_cordToTighten 21 = .ok (.bipush 16, 2) := by decide +kernel
theorem dX4_cordToTighten_23 : decode cX4_cordToTighten 23 = .ok (.if_icmp .ne 7, 3) := by decide +kernel
theorem dX4_cordToTighten_26 : decode cX4_cordToTighten 26 = .ok (.iconst 0, 1) := by decide +kernel
theorem dX4_cordToTighten_27 : decode cX4_cordToTighten 27 = .ok (.goto 12, 3) := by decide +kernel
theorem dX4_cordToTighten_30 : decode cX4_cordToTighten 30 = .ok (.iload_n 3, 1) := by decide +kernel
theorem dX4_cordToTighten_31 : decode cX4_cordToTighten 31 = .ok (.invokestatic 77, 3) := by decide +kernel
theorem dX4_cordToTighten_34 : decode cX4_cordToTighten 34 = .ok (.iload_n 2, 1) := by decide +kernel
theorem dX4_cordToTighten_35 : decode cX4_cordToTighten 35 = .ok (.invokestatic 77, 3) := by decide +kernel
theorem dX4_cordToTighten_38 : decode cX4_cordToTighten 38 = .ok (.isub, 1) := by decide +kernel
theorem dX4_cordToTighten_39 : decode cX4_cordToTighten 39 = .ok (.ireturn, 1) := by decide +kernel
theorem dX4_whyNotGiven_0 : decode cX4_whyNotGiven 0 = .ok (.iload_n 2, 1) := by decide +kernel
theorem dX4_whyNotGiven_1 : decode cX4_whyNotGiven 1 = .ok (.iload 4, 2) := by decide +kernel
theorem dX4_whyNotGiven_3 : decode cX4_whyNotGiven 3 = .ok (.if_icmp .ne 5, 3) := by decide +kernel
theorem dX4_whyNotGiven_6 : decode cX4_whyNotGiven 6 = .ok (.iconst 5, 1) := by decide +kernel
theorem dX4_whyNotGiven_7 : decode cX4_whyNotGiven 7 = .ok (.ireturn, 1) := by decide +kernel
theorem dX4_whyNotGiven_8 : decode cX4_whyNotGiven 8 = .ok (.aload_n 1, 1) := by decide +kernel
theorem dX4_whyNotGiven_9 : decode cX4_whyNotGiven 9 = .ok (.invokevirtual 80, 3) := by decide +kernel
theorem dX4_whyNotGiven_12 : decode cX4_whyNotGiven 12 = .ok (.aload_n 0, 1) := by decide +kernel
theorem dX4_whyNotGiven_13 : decode cX4_whyNotGiven 13 = .ok (.iload_n 2, 1) := by decide +kernel
theorem dX4_whyNotGiven_14 : decode cX4_whyNotGiven 14 = .ok (.iload_n 3, 1) := by decide +kernel
theorem dX4_whyNotGiven_15 : decode cX4_whyNotGiven 15 = .ok (.invokevirtual 30, 3) := by decide +kernel
theorem dX4_whyNotGiven_18 : decode cX4_whyNotGiven 18 = .ok (.istore 5, 2) := by decide +kernel
theorem dX4_whyNotGiven_20 : decode cX4_whyNotGiven 20 = .ok (.iconst 0, 1) := by decide +kernel
theorem dX4_whyNotGiven_21 : decode cX4_whyNotGiven 21 = .ok (.istore 6, 2) := by decide +kernel
theorem dX4_whyNotGiven_23 : decode cX4_whyNotGiven 23 = .ok (.iload 6, 2) := by decide +kernel
theorem dX4_whyNotGiven_25 : decode cX4_whyNotGiven 25 = .ok (.iload 5, 2) := by decide +kernel
theorem dX4_whyNotGiven_27 : decode cX4_whyNotGiven 27 = .ok (.if_icmp .ge 34, 3) := by decide +kernel
theorem dX4_whyNotGiven_30 : decode cX4_whyNotGiven 30 = .ok (.aload_n 0, 1) := by decide +kernel
theorem dX4_whyNotGiven_31 : decode cX4_whyNotGiven 31 = .ok (.iload_n 2, 1) := by decide +kernel
theorem dX4_whyNotGiven_32 : decode cX4_whyNotGiven 32 = .ok (.iload_n 3, 1) := by decide +kernel
theorem dX4_whyNotGiven_33 : decode cX4_whyNotGiven 33 = .ok (.iload 6, 2) := by decide +kernel
theorem dX4_whyNotGiven_35 : decode cX4_whyNotGiven 35 = .ok (.invokevirtual 37, 3) := by decide +kernel
theorem dX4_whyNotGiven_38 : decode cX4_whyNotGiven 38 = .ok (.istore 7, 2) := by decide +kernel
theorem dX4_whyNotGiven_40 : decode cX4_whyNotGiven 40 = .ok (.iload 7, 2) := by decide +kernel
theorem dX4_whyNotGiven_42 : decode cX4_whyNotGiven 42 = .ok (.bipush 16, 2) := by decide +kernel
theorem dX4_whyNotGiven_44 : decode cX4_whyNotGiven 44 = .ok (.if_icmp .ne 5, 3) := by decide +kernel
theorem dX4_whyNotGiven_47 : decode cX4_whyNotGiven 47 = .ok (.iconst 4, 1) := by decide +kernel
theorem dX4_whyNotGiven_48 : decode cX4_whyNotGiven 48 = .ok (.ireturn, 1) := by decide +kernel
theorem dX4_whyNotGiven_49 : decode cX4_whyNotGiven 49 = .ok (.aload_n 1, 1) := by decide +kernel
theorem dX4_whyNotGiven_50 : decode cX4_whyNotGiven 50 = .ok (.iload 7, 2) := by decide +kernel
theorem dX4_whyNotGiven_52 : decode cX4_whyNotGiven 52 = .ok (.invokevirtual 83, 3) := by decide +kernel
theorem dX4_whyNotGiven_55 : decode cX4_whyNotGiven 55 = .ok (.iinc 6 1, 3) := by decide +kernel
theorem dX4_whyNotGiven_58 : decode cX4_whyNotGiven 58 = .ok (.goto (-35), 3) := by decide +kernel
theorem dX4_whyNotGiven_61 : decode cX4_whyNotGiven 61 = .ok (.aload_n 0, 1) := by decide +kernel
theorem dX4_whyNotGiven_62 : decode cX4_whyNotGiven 62 = .ok (.aload_n 1, 1) := by decide +kernel
theorem dX4_whyNotGiven_63 : decode cX4_whyNotGiven 63 = .ok (.iload 4, 2) := by decide +kernel
theorem dX4_whyNotGiven_65 : decode cX4_whyNotGiven 65 = .ok (.invokestatic 86, 3) := by decide +kernel
theorem dX4_whyNotGiven_68 : decode cX4_whyNotGiven 68 = .ok (.ireturn, 1) := by decide +kernel
theorem dX4_handOver_0 : decode cX4_handOver 0 = .ok (.aload_n 0, 1) := by decide +kernel
theorem dX4_handOver_1 : decode cX4_handOver 1 = .ok (.iload_n 2, 1) := by decide +kernel
theorem dX4_handOver_2 : decode cX4_handOver 2 = .ok (.iload_n 3, 1) := by decide +kernel
theorem dX4_handOver_3 : decode cX4_handOver 3 = .ok (.invokestatic 90, 3) := by decide +kernel
theorem dX4_handOver_6 : decode cX4_handOver 6 = .ok (.pop, 1) := by decide +kernel
theorem dX4_handOver_7 : decode cX4_handOver 7 = .ok (.aload_n 0, 1) := by decide +kernel
theorem dX4_handOver_8 : decode cX4_handOver 8 = .ok (.iload_n 2, 1) := by decide +kernel
theorem dX4_handOver_9 : decode cX4_handOver 9 = .ok (.iconst 3, 1) := by decide +kernel
theorem dX4_handOver_10 : decode cX4_handOver 10 = .ok (.invokestatic 54, 3) := by decide +kernel
theorem dX4_handOver_13 : decode cX4_handOver 13 = .ok (.iconst 1, 1) := by decide +kernel
theorem dX4_handOver_14 : decode cX4_handOver 14 = .ok (.invokevirtual 57, 3) := by decide +kernel
theorem dX4_handOver_17 : decode cX4_handOver 17 = .ok (.aload_n 0, 1) := by decide +kernel
theorem dX4_handOver_18 : decode cX4_handOver 18 = .ok (.aload_n 1, 1) := by decide +kernel
theorem dX4_handOver_19 : decode cX4_handOver 19 = .ok (.iload 4, 2) := by decide +kernel
theorem dX4_handOver_21 : decode cX4_handOver 21 = .ok (.invokestatic 94, 3) := by decide +kernel
theorem dX4_handOver_24 : decode cX4_handOver 24 = .ok (.ireturn, 1) := by decide +kernel
theorem dX5_init_0 : decode cX5_init 0 = .ok (.aload_n 0, 1) := by decide +kernel
theorem dX5_init_1 : decode cX5_init 1 = .ok (.invokespecial 3, 3) := by decide +kernel
theorem dX5_init_4 : decode cX5_init 4 = .ok (.aload_n 0, 1) := by decide +kernel
theorem dX5_init_5 : decode cX5_init 5 = .ok (.ldc 9, 2) := by decide +kernel
theorem dX5_init_7 : decode cX5_init 7 = .ok (.putfield 11, 3) := by decide +kernel
theorem dX5_init_10 : decode cX5_init 10 = .ok (.aload_n 0, 1) := by decide +kernel
theorem dX5_init_11 : decode cX5_init 11 = .ok (.iconst 0, 1) := by decide +kernel
theorem dX5_init_12 : decode cX5_init 12 = .ok (.putfield 17, 3) := by decide +kernel
theorem dX5_init_15 : decode cX5_init 15 = .ok (.return_, 1) := by decide +kernel
theorem dX6_loosenedBehind_0 : decode cX6_loosenedBehind 0 = .ok (.iload_n 1, 1) := by decide +kernel
theorem dX6_loosenedBehind_1 : decode cX6_loosenedBehind 1 = .ok (.iload_n 2, 1) := by decide +kernel
theorem dX6_loosenedBehind_2 : decode cX6_loosenedBehind 2 = .ok (.iload_n 3, 1) := by decide +kernel
theorem dX6_loosenedBehind_3 : decode cX6_loosenedBehind 3 = .ok (.invokestatic 9, 3) := by decide +kernel
theorem dX6_loosenedBehind_6 : decode cX6_loosenedBehind 6 = .ok (.istore 5, 2) := by decide +kernel
theorem dX6_loosenedBehind_8 : decode cX6_loosenedBehind 8 = .ok (.aload_n 0, 1) := by decide +kernel
theorem dX6_loosenedBehind_9 : decode cX6_loosenedBehind 9 = .ok (.iload 5, 2) := by decide +kernel
theorem dX6_loosenedBehind_11 : decode cX6_loosenedBehind 11 = .ok (.iconst 1, 1) := by decide +kernel
theorem dX6_loosenedBehind_12 : decode cX6_loosenedBehind 12 = .ok (.iadd, 1) := by decide +kernel
theorem dX6_loosenedBehind_13 : decode cX6_loosenedBehind 13 = .ok (.invokevirtual 15, 3) := by decide +kernel
theorem dX6_loosenedBehind_16 : decode cX6_loosenedBehind 16 = .ok (.istore 6, 2) := by decide +kernel
theorem dX6_loosenedBehind_18 : decode cX6_loosenedBehind 18 = .ok (.aload_n 0, 1) := by decide +kernel
theorem dX6_loosenedBehind_19 : decode cX6_loosenedBehind 19 = .ok (.iconst 1, 1) := by decide +kernel
theorem dX6_loosenedBehind_20 : decode cX6_loosenedBehind 20 = .ok (.invokevirtual 15, 3) := by decide +kernel
theorem dX6_loosenedBehind_23 : decode cX6_loosenedBehind 23 = .ok (.istore 7, 2) := by decide +kernel
theorem dX6_loosenedBehind_25 : decode cX6_loosenedBehind 25 = .ok (.iload 7, 2) := by decide +kernel
theorem dX6_loosenedBehind_27 : decode cX6_loosenedBehind 27 = .ok (.iconst 1, 1) := by decide +kernel
theorem dX6_loosenedBehind_28 : decode cX6_loosenedBehind 28 = .ok (.if_icmp .lt 17, 3) := by decide +kernel
theorem dX6_loosenedBehind_31 : decode cX6_loosenedBehind 31 = .ok (.aload_n 0, 1) := by decide +kernel
theorem dX6_loosenedBehind_32 : decode cX6_loosenedBehind 32 = .ok (.iload 5, 2) := by decide +kernel
theorem dX6_loosenedBehind_34 : decode cX6_loosenedBehind 34 = .ok (.iconst 0, 1) := by decide +kernel
theorem dX6_loosenedBehind_35 : decode cX6_loosenedBehind 35 = .ok (.iadd, 1) := by decide +kernel
theorem dX6_loosenedBehind_36 : decode cX6_loosenedBehind 36 = .ok (.invokevirtual 15, 3) := by decide +kernel
theorem dX6_loosenedBehind_39 : decode cX6_loosenedBehind 39 = .ok (.invokestatic 19, 3) := by decide +kernel
theorem dX6_loosenedBehind_42 : decode cX6_loosenedBehind 42 = .ok (.ifCond .ne 6, 3) := by decide +kernel
theorem dX6_loosenedBehind_45 : decode cX6_loosenedBehind 45 = .ok (.iload 6, 2) := by decide +kernel
theorem dX6_loosenedBehind_47 : decode cX6_loosenedBehind 47 = .ok (.ireturn, 1) := by decide +kernel
theorem dX6_loosenedBehind_48 : decode cX6_loosenedBehind 48 = .ok (.iload_n 3, 1) := by decide +kernel
theorem dX6_loosenedBehind_49 : decode cX6_loosenedBehind 49 = .ok (.iconst 1, 1) := by decide +kernel
theorem dX6_loosenedBehind_50 : decode cX6_loosenedBehind 50 = .ok (.iadd, 1) := by decide +kernel
theorem dX6_loosenedBehind_51 : decode cX6_loosenedBehind 51 = .ok (.aload_n 0, 1) := by decide +kernel
theorem dX6_loosenedBehind_52 : decode cX6_loosenedBehind 52 = .ok (.iconst 0, 1) := by decide +kernel
theorem dX6_loosenedBehind_53 : decode cX6_loosenedBehind 53 = .ok (.invokevirtual 15, 3) := by decide +kernel
theorem dX6_loosenedBehind_56 : decode cX6_loosenedBehind 56 = .ok (.iadd, 1) := by decide +kernel
theorem dX6_loosenedBehind_57 : decode cX6_loosenedBehind 57 = .ok (.istore 8, 2) := by decide +kernel
theorem dX6_loosenedBehind_59 : decode cX6_loosenedBehind 59 = .ok (.iload 6, 2) := by decide +kernel
theorem dX6_loosenedBehind_61 : decode cX6_loosenedBehind 61 = .ok (.iload 8, 2) := by decide +kernel
theorem dX6_loosenedBehind_63 : decode cX6_loosenedBehind 63 = .ok (.iload 4, 2) := by decide +kernel
theorem dX6_loosenedBehind_65 : decode cX6_loosenedBehind 65 = .ok (.iadd, 1) := by decide +kernel
theorem dX6_loosenedBehind_66 : decode cX6_loosenedBehind 66 = .ok (.iload 7, 2) := by decide +kernel
theorem dX6_loosenedBehind_68 : decode cX6_loosenedBehind 68 = .ok (.idiv, 1) := by decide +kernel
theorem dX6_loosenedBehind_69 : decode cX6_loosenedBehind 69 = .ok (.iadd, 1) := by decide +kernel
theorem dX6_loosenedBehind_70 : decode cX6_loosenedBehind 70 = .ok (.iload 8, 2) := by decide +kernel
theorem dX6_loosenedBehind_72 : decode cX6_loosenedBehind 72 = .ok (.iload 7, 2) := by decide +kernel
theorem dX6_loosenedBehind_74 : decode cX6_loosenedBehind 74 = .ok (.idiv, 1) := by decide +kernel
theorem dX6_loosenedBehind_75 : decode cX6_loosenedBehind 75 = .ok (.isub, 1) := by decide +kernel
theorem dX6_loosenedBehind_76 : decode cX6_loosenedBehind 76 = .ok (.ireturn, 1) := by decide +kernel
theorem dX6_unreadableBehind_0 : decode cX6_unreadableBehind 0 = .ok (.iconst 0, 1) := by decide +kernel
theorem dX6_unreadableBehind_1 : decode cX6_unreadableBehind 1 = .ok (.istore 4, 2) := by decide +kernel
theorem dX6_unreadableBehind_3 : decode cX6_unreadableBehind 3 = .ok (.aload_n 0, 1) := by decide +kernel
theorem dX6_unreadableBehind_4 : decode cX6_unreadableBehind 4 = .ok (.iload_n 1, 1) := by decide +kernel
theorem dX6_unreadableBehind_5 : decode cX6_unreadableBehind 5 = .ok (.iload_n 2, 1) := by decide +kernel
theorem dX6_unreadableBehind_6 : decode cX6_unreadableBehind 6 = .ok (.invokevirtual 25, 3) := by decide +kernel
theorem dX6_unreadableBehind_9 : decode cX6_unreadableBehind 9 = .ok (.istore 5, 2) := by decide +kernel
theorem dX6_unreadableBehind_11 : decode cX6_unreadableBehind 11 = .ok (.iconst 0, 1) := by decide +kernel
theorem dX6_unreadableBehind_12 : decode cX6_unreadableBehind 12 = .ok (.istore 6, 2) := by decide +kernel
theorem dX6_unreadableBehind_14 : decode cX6_unreadableBehind 14 = .ok (.iload 6, 2) := by decide +kernel
theorem dX6_unreadableBehind_16 : decode cX6_unreadableBehind 16 = .ok (.iload 5, 2) := by decide +kernel
theorem dX6_unreadableBehind_18 : decode cX6_unreadableBehind 18 = .ok (.if_icmp .ge 32, 3) := by decide +kernel
theorem dX6_unreadableBehind_21 : decode cX6_unreadableBehind 21 = .ok (.iload 4, 2) := by decide +kernel
theorem dX6_unreadableBehind_23 : decode cX6_unreadableBehind 23 = .ok (.aload_n 0, 1) := by decide +kernel
theorem dX6_unreadableBehind_24 : decode cX6_unreadableBehind 24 = .ok (.iload_n 1, 1) := by decide +kernel
theorem dX6_unreadableBehind_25 : decode cX6_unreadableBehind 25 = .ok (.iload_n 2, 1) := by decide +kernel
theorem dX6_unreadableBehind_26 : decode cX6_unreadableBehind 26 = .ok (.iload 6, 2) := by decide +kernel
theorem dX6_unreadableBehind_28 : decode cX6_unreadableBehind 28 = .ok (.iload_n 3, 1) := by decide +kernel
theorem dX6_unreadableBehind_29 : decode cX6_unreadableBehind 29 = .ok (.invokestatic 29, 3) := by decide +kernel
theorem dX6_unreadableBehind_32 : decode cX6_unreadableBehind 32 = .ok (.iconst 1, 1) := by decide +kernel
theorem dX6_unreadableBehind_33 : decode cX6_unreadableBehind 33 = .ok (.if_icmp .le 7, 3) := by decide +kernel
theorem dX6_unreadableBehind_36 : decode cX6_unreadableBehind 36 = .ok (.iconst 1, 1) := by decide +kernel
theorem dX6_unreadableBehind_37 : decode cX6_unreadableBehind 37 = .ok (.goto 4, 3) := by decide +kernel
theorem dX6_unreadableBehind_40 : decode cX6_unreadableBehind 40 = .ok (.iconst 0, 1) := by decide +kernel
theorem dX6_unreadableBehind_41 : decode cX6_unreadableBehind 41 = .ok (.iadd, 1) := by decide +kernel
theorem dX6_unreadableBehind_42 : decode cX6_unreadableBehind 42 = .ok (.istore 4, 2) := by decide +kernel
theorem dX6_unreadableBehind_44 : decode cX6_unreadableBehind 44 = .ok (.iinc 6 1, 3) := by decide +kernel
theorem dX6_unreadableBehind_47 : decode cX6_unreadableBehind 47 = .ok (.goto (-33), 3) := by decide +kernel
theorem dX6_unreadableBehind_50 : decode cX6_unreadableBehind 50 = .ok (.iload 4, 2) := by decide +kernel
theorem dX6_unreadableBehind_52 : decode cX6_unreadableBehind 52 = .ok (.ireturn, 1) := by decide +kernel
theorem dX6_stormsToLoss_0 : decode cX6_stormsToLoss 0 = .ok (.aload_n 0, 1) := by decide +kernel
theorem dX6_stormsToLoss_1 : decode cX6_stormsToLoss 1 = .ok (.iconst 2, 1) := by decide +kernel
theorem dX6_stormsToLoss_2 : decode cX6_stormsToLoss 2 = .ok (.invokevirtual 15, 3) := by decide +kernel
theorem dX6_stormsToLoss_5 : decode cX6_stormsToLoss 5 = .ok (.istore_n 3, 1) := by decide +kernel
theorem dX6_stormsToLoss_6 : decode cX6_stormsToLoss 6 = .ok (.iconst 1, 1) := by decide +kernel
theorem dX6_stormsToLoss_7 : decode cX6_stormsToLoss 7 = .ok (.istore 4, 2) := by decide +kernel
theorem dX6_stormsToLoss_9 : decode cX6_stormsToLoss 9 = .ok (.iload 4, 2) := by decide +kernel
theorem dX6_stormsToLoss_11 : decode cX6_stormsToLoss 11 = .ok (.bipush 60, 2) := by decide +kernel
theorem dX6_stormsToLoss_13 : decode cX6_stormsToLoss 13 = .ok (.if_icmp .gt 24, 3) := by decide +kernel
theorem dX6_stormsToLoss_16 : decode cX6_stormsToLoss 16 = .ok (.aload_n 0, 1) := by decide +kernel
theorem dX6_stormsToLoss_17 : decode cX6_stormsToLoss 17 = .ok (.iload_n 1, 1) := by decide +kernel
theorem dX6_stormsToLoss_18 : decode cX6_stormsToLoss 18 = .ok (.iload_n 2, 1) := by decide +kernel
theorem dX6_stormsToLoss_19 : decode cX6_stormsToLoss 19 = .ok (.iload 4, 2) := by decide +kernel
theorem dX6_stormsToLoss_21 : decode cX6_stormsToLoss 21 = .ok (.invokestatic 35, 3) := by decide +kernel
theorem dX6_stormsToLoss_24 : decode cX6_stormsToLoss 24 = .ok (.iload_n 3, 1) := by decide +kernel
theorem dX6_stormsToLoss_25 : decode cX6_stormsToLoss 25 = .ok (.if_icmp .le 6, 3) := by decide +kernel
theorem dX6_stormsToLoss_28 : decode cX6_stormsToLoss 28 = .ok (.iload 4, 2) := by decide +kernel
theorem dX6_stormsToLoss_30 : decode cX6_stormsToLoss 30 = .ok (.ireturn, 1) := by decide +kernel
theorem dX6_stormsToLoss_31 : decode cX6_stormsToLoss 31 = .ok (.iinc 4 1, 3) := by decide +kernel
theorem dX6_stormsToLoss_34 : decode cX6_stormsToLoss 34 = .ok (.goto (-25), 3) := by decide +kernel
theorem dX6_stormsToLoss_37 : decode cX6_stormsToLoss 37 = .ok (.iconst (-1), 1) := by decide +kernel
theorem dX6_stormsToLoss_38 : decode cX6_stormsToLoss 38 = .ok (.ireturn, 1) := by decide +kernel
theorem dX6_ofNextStorm_0 : decode cX6_ofNextStorm 0 = .ok (.iconst 0, 1) := by decide +kernel
theorem dX6_ofNextStorm_1 : decode cX6_ofNextStorm 1 = .ok (.istore_n 3, 1) := by decide +kernel
theorem dX6_ofNextStorm_2 : decode cX6_ofNextStorm 2 = .ok (.iconst 0, 1) := by decide +kernel
theorem dX6_ofNextStorm_3 : decode cX6_ofNextStorm 3 = .ok (.istore 4, 2) := by decide +kernel
theorem dX6_ofNextStorm_5 : decode cX6_ofNextStorm 5 = .ok (.aload_n 0, 1) := by decide +kernel
theorem dX6_ofNextStorm_6 : decode cX6_ofNextStorm 6 = .ok (.iconst 2, 1) := by decide +kernel
theorem dX6_ofNextStorm_7 : decode cX6_ofNextStorm 7 = .ok (.invokevirtual 15, 3) := by decide +kernel
theorem dX6_ofNextStorm_10 : decode cX6_ofNextStorm 10 = .ok (.istore 5, 2) := by decide +kernel
theorem dX6_ofNextStorm_12 : decode cX6_ofNextStorm 12 = .ok (.aload_n 0, 1) := by decide +kernel
theorem dX6_ofNextStorm_13 : decode cX6_ofNextStorm 13 = .ok (.iload_n 1, 1) := by decide +kernel
theorem dX6_ofNextStorm_14 : decode cX6_ofNextStorm 14 = .ok (.invokevirtual 39, 3) := by decide +kernel
theorem dX6_ofNextStorm_17 : decode cX6_ofNextStorm 17 = .ok (.istore 6, 2) := by decide +kernel
theorem dX6_ofNextStorm_19 : decode cX6_ofNextStorm 19 = .ok (.iconst 0, 1) := by decide +kernel
theorem dX6_ofNextStorm_20 : decode cX6_ofNextStorm 20 = .ok (.istore 7, 2) := by decide +kernel
theorem dX6_ofNextStorm_22 : decode cX6_ofNextStorm 22 = .ok (.iload 7, 2) := by decide +kernel
theorem dX6_ofNextStorm_24 : decode cX6_ofNextStorm 24 = .ok (.iload 6, 2) := by decide +kernel
theorem dX6_ofNextStorm_26 : decode cX6_ofNextStorm 26 = .ok (.if_icmp .ge 42, 3) := by decide +kernel
theorem dX6_ofNextStorm_29 : decode cX6_ofNextStorm 29 = .ok (.iload_n 3, 1) := by decide +kernel
theorem dX6_ofNextStorm_30 : decode cX6_ofNextStorm 30 = .ok (.aload_n 0, 1) := by decide +kernel
theorem dX6_ofNextStorm_31 : decode cX6_ofNextStorm 31 = .ok (.iload_n 1, 1) := by decide +kernel
theorem dX6_ofNextStorm_32 : decode cX6_ofNextStorm 32 = .ok (.iload 7, 2) := by decide +kernel
theorem dX6_ofNextStorm_34 : decode cX6_ofNextStorm 34 = .ok (.iconst 1, 1) := by decide +kernel
theorem dX6_ofNextStorm_35 : decode cX6_ofNextStorm 35 = .ok (.invokestatic 35, 3) := by decide +kernel
theorem dX6_ofNextStorm_38 : decode cX6_ofNextStorm 38 = .ok (.iload 5, 2) := by decide +kernel
theorem dX6_ofNextStorm_40 : decode cX6_ofNextStorm 40 = .ok (.if_icmp .le 7, 3) := by decide +kernel
theorem dX6_ofNextStorm_43 : decode cX6_ofNextStorm 43 = .ok (.iconst 1, 1) := by decide +kernel
theorem dX6_ofNextStorm_44 : decode cX6_ofNextStorm 44 = .ok (.goto 4, 3) := by decide +kernel
theorem dX6_ofNextStorm_47 : decode cX6_ofNextStorm 47 = .ok (.iconst 0, 1) := by decide +kernel
theorem dX6_ofNextStorm_48 : decode cX6_ofNextStorm 48 = .ok (.iadd, 1) := by decide +kernel
theorem dX6_ofNextStorm_49 : decode cX6_ofNextStorm 49 = .ok (.istore_n 3, 1) := by decide +kernel
theorem dX6_ofNextStorm_50 : decode cX6_ofNextStorm 50 = .ok (.iload 4, 2) := by decide +kernel
theorem dX6_ofNextStorm_52 : decode cX6_ofNextStorm 52 = .ok (.aload_n 0, 1) := by decide +kernel
theorem dX6_ofNextStorm_53 : decode cX6_ofNextStorm 53 = .ok (.iload_n 1, 1) := by decide +kernel
theorem dX6_ofNextStorm_54 : decode cX6_ofNextStorm 54 = .ok (.iload 7, 2) := by decide +kernel
theorem dX6_ofNextStorm_56 : decode cX6_ofNextStorm 56 = .ok (.invokestatic 42, 3) := by decide +kernel
theorem dX6_ofNextStorm_59 : decode cX6_ofNextStorm 59 = .ok (.iadd, 1) := by decide +kernel
theorem dX6_ofNextStorm_60 : decode cX6_ofNextStorm 60 = .ok (.istore 4, 2) := by decide +kernel
theorem dX6_ofNextStorm_62 : decode cX6_ofNextStorm 62 = .ok (.iinc 7 1, 3) := by decide +kernel
theorem dX6_ofNextStorm_65 : decode cX6_ofNextStorm 65 = .ok (.goto (-43), 3) := by decide +kernel
theorem dX6_ofNextStorm_68 : decode cX6_ofNextStorm 68 = .ok (.iload_n 2, 1) := by decide +kernel
theorem dX6_ofNextStorm_69 : decode cX6_ofNextStorm 69 = .ok (.ifCond .ne 7, 3) := by decide +kernel
theorem dX6_ofNextStorm_72 : decode cX6_ofNextStorm 72 = .ok (.iload_n 3, 1) := by decide +kernel
theorem dX6_ofNextStorm_73 : decode cX6_ofNextStorm 73 = .ok (.goto 5, 3) := by decide +kernel
theorem dX6_ofNextStorm_76 : decode cX6_ofNextStorm 76 = .ok (.iload 4, 2) := by decide +kernel
theorem dX6_ofNextStorm_78 : decode cX6_ofNextStorm 78 = .ok (.ireturn, 1) := by decide +kernel
theorem dX6_loosenedByNext_0 : decode cX6_loosenedByNext 0 = .ok (.iconst 0, 1) := by decide +kernel
theorem dX6_loosenedByNext_1 : decode cX6_loosenedByNext 1 = .ok (.istore_n 3, 1) := by decide +kernel
theorem dX6_loosenedByNext_2 : decode cX6_loosenedByNext 2 = .ok (.aload_n 0, 1) := by decide +kernel
theorem dX6_loosenedByNext_3 : decode cX6_loosenedByNext 3 = .ok (.iload_n 1, 1) := by decide +kernel
theorem dX6_loosenedByNext_4 : decode cX6_loosenedByNext 4 = .ok (.iload_n 2, 1) := by decide +kernel
theorem dX6_loosenedByNext_5 : decode cX6_loosenedByNext 5 = .ok (.invokevirtual 25, 3) := by decide +kernel
theorem dX6_loosenedByNext_8 : decode cX6_loosenedByNext 8 = .ok (.istore 4, 2) := by decide +kernel
theorem dX6_loosenedByNext_10 : decode cX6_loosenedByNext 10 = .ok (.iconst 0, 1) := by decide +kernel
theorem dX6_loosenedByNext_11 : decode cX6_loosenedByNext 11 = .ok (.istore 5, 2) := by decide +kernel
theorem dX6_loosenedByNext_13 : decode cX6_loosenedByNext 13 = .ok (.iload 5, 2) := by decide +kernel
theorem dX6_loosenedByNext_15 : decode cX6_loosenedByNext 15 = .ok (.iload 4, 2) := by decide +kernel
theorem dX6_loosenedByNext_17 : decode cX6_loosenedByNext 17 = .ok (.if_icmp .ge 34, 3) := by decide +kernel
theorem dX6_loosenedByNext_20 : decode cX6_loosenedByNext 20 = .ok (.aload_n 0, 1) := by decide +kernel
theorem dX6_loosenedByNext_21 : decode cX6_loosenedByNext 21 = .ok (.iload_n 1, 1) := by decide +kernel
theorem dX6_loosenedByNext_22 : decode cX6_loosenedByNext 22 = .ok (.iload_n 2, 1) := by decide +kernel
theorem dX6_loosenedByNext_23 : decode cX6_loosenedByNext 23 = .ok (.iload 5, 2) := by decide +kernel
theorem dX6_loosenedByNext_25 : decode cX6_loosenedByNext 25 = .ok (.invokevirtual 46, 3) := by decide +kernel
theorem dX6_loosenedByNext_28 : decode cX6_loosenedByNext 28 = .ok (.istore 6, 2) := by decide +kernel
theorem dX6_loosenedByNext_30 : decode cX6_loosenedByNext 30 = .ok (.iload_n 3, 1) := by decide +kernel
theorem dX6_loosenedByNext_31 : decode cX6_loosenedByNext 31 = .ok (.aload_n 0, 1) := by decide +kernel
theorem dX6_loosenedByNext_32 : decode cX6_loosenedByNext 32 = .ok (.iload_n 1, 1) := by decide +kernel
theorem dX6_loosenedByNext_33 : decode cX6_loosenedByNext 33 = .ok (.iload_n 2, 1) := by decide +kernel
theorem dX6_loosenedByNext_34 : decode cX6_loosenedByNext 34 = .ok (.iload 5, 2) := by decide +kernel
theorem dX6_loosenedByNext_36 : decode cX6_loosenedByNext 36 = .ok (.iconst 1, 1) := by decide +kernel
theorem dX6_loosenedByNext_37 : decode cX6_loosenedByNext 37 = .ok (.invokestatic 29, 3) := by decide +kernel
theorem dX6_loosenedByNext_40 : decode cX6_loosenedByNext 40 = .ok (.iload 6, 2) := by decide +kernel
theorem dX6_loosenedByNext_42 : decode cX6_loosenedByNext 42 = .ok (.isub, 1) := by decide +kernel
theorem dX6_loosenedByNext_43 : decode cX6_loosenedByNext 43 = .ok (.iadd, 1) := by decide +kernel
theorem dX6_loosenedByNext_44 : decode cX6_loosenedByNext 44 = .ok (.istore_n 3, 1) := by decide +kernel
theorem dX6_loosenedByNext_45 : decode cX6_loosenedByNext 45 = .ok (.iinc 5 1, 3) := by decide +kernel
theorem dX6_loosenedByNext_48 : decode cX6_loosenedByNext 48 = .ok (.goto (-35), 3) := by decide +kernel
theorem dX6_loosenedByNext_51 : decode cX6_loosenedByNext 51 = .ok (.iload_n 3, 1) := by decide +kernel
theorem dX6_loosenedByNext_52 : decode cX6_loosenedByNext 52 = .ok (.ireturn, 1) := by decide +kernel
theorem dX6_comeOver_0 : decode cX6_comeOver 0 = .ok (.aload_n 0, 1) := by decide +kernel
theorem dX6_comeOver_1 : decode cX6_comeOver 1 = .ok (.iload_n 1, 1) := by decide +kernel
theorem dX6_comeOver_2 : decode cX6_comeOver 2 = .ok (.invokevirtual 39, 3) := by decide +kernel
theorem dX6_comeOver_5 : decode cX6_comeOver 5 = .ok (.istore_n 2, 1) := by decide +kernel
theorem dX6_comeOver_6 : decode cX6_comeOver 6 = .ok (.iconst 0, 1) := by decide +kernel
theorem dX6_comeOver_7 : decode cX6_comeOver 7 = .ok (.istore_n 3, 1) := by decide +kernel
theorem dX6_comeOver_8 : decode cX6_comeOver 8 = .ok (.iload_n 3, 1) := by decide +kernel
theorem dX6_comeOver_9 : decode cX6_comeOver 9 = .ok (.iload_n 2, 1) := by decide +kernel
theorem dX6_comeOver_10 : decode cX6_comeOver 10 = .ok (.if_icmp .ge 15, 3) := by decide +kernel
theorem dX6_comeOver_13 : decode cX6_comeOver 13 = .ok (.aload_n 0, 1) := by decide +kernel
theorem dX6_comeOver_14 : decode cX6_comeOver 14 = .ok (.iload_n 1, 1) := by decide +kernel
theorem dX6_comeOver_15 : decode cX6_comeOver 15 = .ok (.iload_n 3, 1) := by decide +kernel
theorem dX6_comeOver_16 : decode cX6_comeOver 16 = .ok (.invokestatic 49, 3) := by decide +kernel
theorem dX6_comeOver_19 : decode cX6_comeOver 19 = .ok (.iinc 3 1, 3) := by decide +kernel
theorem dX6_comeOver_22 : decode cX6_comeOver 22 = .ok (.goto (-14), 3) := by decide +kernel
theorem dX6_comeOver_25 : decode cX6_comeOver 25 = .ok (.aload_n 0, 1) := by decide +kernel
theorem dX6_comeOver_26 : decode cX6_comeOver 26 = .ok (.iconst 0, 1) := by decide +kernel
theorem dX6_comeOver_27 : decode cX6_comeOver 27 = .ok (.iconst 1, 1) := by decide +kernel
theorem dX6_comeOver_28 : decode cX6_comeOver 28 = .ok (.invokevirtual 53, 3) := by decide +kernel
theorem dX6_comeOver_31 : decode cX6_comeOver 31 = .ok (.aload_n 0, 1) := by decide +kernel
theorem dX6_comeOver_32 : decode cX6_comeOver 32 = .ok (.iconst 2, 1) := by decide +kernel
theorem dX6_comeOver_33 : decode cX6_comeOver 33 = .ok (.invokevirtual 15, 3) := by decide +kernel
theorem dX6_comeOver_36 : decode cX6_comeOver 36 = .ok (.istore_n 3, 1) := by decide +kernel
theorem dX6_comeOver_37 : decode cX6_comeOver 37 = .ok (.iconst 0, 1) := by decide +kernel
theorem dX6_comeOver_38 : decode cX6_comeOver 38 = .ok (.istore 4, 2) := by decide +kernel
theorem dX6_comeOver_40 : decode cX6_comeOver 40 = .ok (.iconst 0, 1) := by decide +kernel
theorem dX6_comeOver_41 : decode cX6_comeOver 41 = .ok (.istore 5, 2) := by decide +kernel
theorem dX6_comeOver_43 : decode cX6_comeOver 43 = .ok (.iload 5, 2) := by decide +kernel
theorem dX6_comeOver_45 : decode cX6_comeOver 45 = .ok (.iload_n 2, 1) := by decide +kernel
theorem dX6_comeOver_46 : decode cX6_comeOver 46 = .ok (.if_icmp .ge 38, 3) := by decide +kernel
theorem dX6_comeOver_49 : decode cX6_comeOver 49 = .ok (.iload 5, 2) := by decide +kernel
theorem dX6_comeOver_51 : decode cX6_comeOver 51 = .ok (.iload 4, 2) := by decide +kernel
theorem dX6_comeOver_53 : decode cX6_comeOver 53 = .ok (.isub, 1) := by decide +kernel
theorem dX6_comeOver_54 : decode cX6_comeOver 54 = .ok (.istore 6, 2) := by decide +kernel
theorem dX6_comeOver_56 : decode cX6_comeOver 56 = .ok (.aload_n 0, 1) := by decide +kernel
theorem dX6_comeOver_57 : decode cX6_comeOver 57 = .ok (.iload_n 1, 1) := by decide +kernel
theorem dX6_comeOver_58 : decode cX6_comeOver 58 = .ok (.iload 6, 2) := by decide +kernel
theorem dX6_comeOver_60 : decode cX6_comeOver 60 = .ok (.iconst 0, 1) := by decide +kernel
theorem dX6_comeOver_61 : decode cX6_comeOver 61 = .ok (.invokestatic 35, 3) := by decide +kernel
theorem dX6_comeOver_64 : decode cX6_comeOver 64 = .ok (.iload_n 3, 1) := by decide +kernel
theorem dX6_comeOver_65 : decode cX6_comeOver 65 = .ok (.if_icmp .le 13, 3) := by decide +kernel
theorem dX6_comeOver_68 : decode cX6_comeOver 68 = .ok (.aload_n 0, 1) := by decide +kernel
theorem dX6_comeOver_69 : decode cX6_comeOver 69 = .ok (.iload_n 1, 1) := by decide +kernel
theorem dX6_comeOver_70 : decode cX6_comeOver 70 = .ok (.iload 6, 2) := by decide +kernel
theorem dX6_comeOver_72 : decode cX6_comeOver 72 = .ok (.invokestatic 57, 3) := by decide +kernel
theorem dX6_comeOver_75 : decode cX6_comeOver 75 = .ok (.iinc 4 1, 3) := by decide +kernel
theorem dX6_comeOver_78 : decode cX6_comeOver 78 = .ok (.iinc 5 1, 3) := by decide +kernel
theorem dX6_comeOver_81 : decode cX6_comeOver 81 = .ok (.goto (-38), 3) := by decide +kernel
theorem dX6_comeOver_84 : decode cX6_comeOver 84 = .ok (.iload 4, 2) := by decide +kernel
theorem dX6_comeOver_86 : decode cX6_comeOver 86 = .ok (.ireturn, 1) := by decide +kernel
theorem dX6_loosen_0 : decode cX6_loosen 0 = .ok (.aload_n 0, 1) := by decide +kernel
theorem dX6_loosen_1 : decode cX6_loosen 1 = .ok (.iload_n 1, 1) := by decide +kernel
theorem dX6_loosen_2 : decode cX6_loosen 2 = .ok (.iload_n 2, 1) := by decide +kernel
theorem dX6_loosen_3 : decode cX6_loosen 3 = .ok (.invokevirtual 25, 3) := by decide +kernel
theorem dX6_loosen_6 : decode cX6_loosen 6 = .ok (.istore_n 3, 1) := by decide +kernel
theorem dX6_loosen_7 : decode cX6_loosen 7 = .ok (.iconst 0, 1) := by decide +kernel
theorem dX6_loosen_8 : decode cX6_loosen 8 = .ok (.istore 4, 2) := by decide +kernel
theorem dX6_loosen_10 : decode cX6_loosen 10 = .ok (.iload 4, 2) := by decide +kernel
theorem dX6_loosen_12 : decode cX6_loosen 12 = .ok (.iload_n 3, 1) := by decide +kernel
theorem dX6_loosen_13 : decode cX6_loosen 13 = .ok (.if_icmp .ge 35, 3) := by decide +kernel
theorem dX6_loosen_16 : decode cX6_loosen 16 = .ok (.aload_n 0, 1) := by decide +kernel
theorem dX6_loosen_17 : decode cX6_loosen 17 = .ok (.iload_n 1, 1) := by decide +kernel
theorem dX6_loosen_18 : decode cX6_loosen 18 = .ok (.iload_n 2, 1) := by decide +kernel
theorem dX6_loosen_19 : decode cX6_loosen 19 = .ok (.iload 4, 2) := by decide +kernel
theorem dX6_loosen_21 : decode cX6_loosen 21 = .ok (.iconst 1, 1) := by decide +kernel
theorem dX6_loosen_22 : decode cX6_loosen 22 = .ok (.invokestatic 29, 3) := by decide +kernel
theorem dX6_loosen_25 : decode cX6_loosen 25 = .ok (.istore 5, 2) := by decide +kernel
theorem dX6_loosen_27 : decode cX6_loosen 27 = .ok (.aload_n 0, 1) := by decide +kernel
theorem dX6_loosen_28 : decode cX6_loosen 28 = .ok (.iload_n 1, 1) := by decide +kernel
theorem dX6_loosen_29 : decode cX6_loosen 29 = .ok (.iload_n 2, 1) := by decide +kernel
theorem dX6_loosen_30 : decode cX6_loosen 30 = .ok (.iload 4, 2) := by decide +kernel
theorem dX6_loosen_32 : decode cX6_loosen 32 = .ok (.invokestatic 9, 3) := by decide +kernel
theorem dX6_loosen_35 : decode cX6_loosen 35 = .ok (.iconst 1, 1) := by decide +kernel
theorem dX6_loosen_36 : decode cX6_loosen 36 = .ok (.iadd, 1) := by decide +kernel
theorem dX6_loosen_37 : decode cX6_loosen 37 = .ok (.iload 5, 2) := by decide +kernel
theorem dX6_loosen_39 : decode cX6_loosen 39 = .ok (.invokevirtual 60, 3) := by decide +kernel
theorem dX6_loosen_42 : decode cX6_loosen 42 = .ok (.iinc 4 1, 3) := by decide +kernel
theorem dX6_loosen_45 : decode cX6_loosen 45 = .ok (.goto (-35), 3) := by decide +kernel
theorem dX6_loosen_48 : decode cX6_loosen 48 = .ok (.return_, 1) := by decide +kernel
theorem dX6_lose_0 : decode cX6_lose 0 = .ok (.aload_n 0, 1) := by decide +kernel
theorem dX6_lose_1 : decode cX6_lose 1 = .ok (.iload_n 1, 1) := by decide +kernel
theorem dX6_lose_2 : decode cX6_lose 2 = .ok (.iload_n 2, 1) := by decide +kernel
theorem dX6_lose_3 : decode cX6_lose 3 = .ok (.invokestatic 63, 3) := by decide +kernel
theorem dX6_lose_6 : decode cX6_lose 6 = .ok (.aload_n 0, 1) := by decide +kernel
theorem dX6_lose_7 : decode cX6_lose 7 = .ok (.iload_n 1, 1) := by decide +kernel
theorem dX6_lose_8 : decode cX6_lose 8 = .ok (.iload_n 2, 1) := by decide +kernel
theorem dX6_lose_9 : decode cX6_lose 9 = .ok (.invokestatic 66, 3) := by decide +kernel
theorem dX6_lose_12 : decode cX6_lose 12 = .ok (.pop, 1) := by decide +kernel
theorem dX6_lose_13 : decode cX6_lose 13 = .ok (.aload_n 0, 1) := by decide +kernel
theorem dX6_lose_14 : decode cX6_lose 14 = .ok (.iload_n 1, 1) := by decide +kernel
theorem dX6_lose_15 : decode cX6_lose 15 = .ok (.iconst 2, 1) := by decide +kernel
theorem dX6_lose_16 : decode cX6_lose 16 = .ok (.invokestatic 71, 3) := by decide +kernel
theorem dX6_lose_19 : decode cX6_lose 19 = .ok (.iconst 1, 1) := by decide +kernel
theorem dX6_lose_20 : decode cX6_lose 20 = .ok (.invokevirtual 53, 3) := by decide +kernel
theorem dX6_lose_23 : decode cX6_lose 23 = .ok (.return_, 1) := by decide +kernel
theorem dX6_enter_0 : decode cX6_enter 0 = .ok (.aload_n 0, 1) := by decide +kernel
theorem dX6_enter_1 : decode cX6_enter 1 = .ok (.bipush 7, 2) := by decide +kernel
theorem dX6_enter_3 : decode cX6_enter 3 = .ok (.invokevirtual 15, 3) := by decide +kernel
theorem dX6_enter_6 : decode cX6_enter 6 = .ok (.bipush 12, 2) := by decide +kernel
theorem dX6_enter_8 : decode cX6_enter 8 = .ok (.if_icmp .lt 29, 3) := by decide +kernel
theorem dX6_enter_11 : decode cX6_enter 11 = .ok (.bipush 12, 2) := by decide +kernel
theorem dX6_enter_13 : decode cX6_enter 13 = .ok (.iconst 0, 1) := by decide +kernel
theorem dX6_enter_14 : decode cX6_enter 14 = .ok (.invokestatic 74, 3) := by decide +kernel
theorem dX6_enter_17 : decode cX6_enter 17 = .ok (.istore_n 3, 1) := by decide +kernel
theorem dX6_enter_18 : decode cX6_enter 18 = .ok (.aload_n 0, 1) := by decide +kernel
theorem dX6_enter_19 : decode cX6_enter 19 = .ok (.iconst 0, 1) := by decide +kernel
theorem dX6_enter_20 : decode cX6_enter 20 = .ok (.iconst 0, 1) := by decide +kernel
theorem dX6_enter_21 : decode cX6_enter 21 = .ok (.invokestatic 74, 3) := by decide +kernel
theorem dX6_enter_24 : decode cX6_enter 24 = .ok (.iload_n 3, 1) := by decide +kernel
theorem dX6_enter_25 : decode cX6_enter 25 = .ok (.bipush 11, 2) := by decide +kernel
theorem dX6_enter_27 : decode cX6_enter 27 = .ok (.invokevirtual 77, 3) := by decide +kernel
theorem dX6_enter_30 : decode cX6_enter 30 = .ok (.aload_n 0, 1) := by decide +kernel
theorem dX6_enter_31 : decode cX6_enter 31 = .ok (.bipush 7, 2) := by decide +kernel
theorem dX6_enter_33 : decode cX6_enter 33 = .ok (.iconst (-1), 1) := by decide +kernel
theorem dX6_enter_34 : decode cX6_enter 34 = .ok (.invokevirtual 53, 3) := by decide +kernel
theorem dX6_enter_37 : decode cX6_enter 37 = .ok (.aload_n 0, 1) := by decide +kernel
theorem dX6_enter_38 : decode cX6_enter 38 = .ok (.bipush 7, 2) := by decide +kernel
theorem dX6_enter_40 : decode cX6_enter 40 = .ok (.invokevirtual 15, 3) := by decide +kernel
theorem dX6_enter_43 : decode cX6_enter 43 = .ok (.iconst 0, 1) := by decide +kernel
theorem dX6_enter_44 : decode cX6_enter 44 = .ok (.invokestatic 74, 3) := by decide +kernel
theorem dX6_enter_47 : decode cX6_enter 47 = .ok (.istore_n 3, 1) := by decide +kernel
theorem dX6_enter_48 : decode cX6_enter 48 = .ok (.aload_n 0, 1) := by decide +kernel
theorem dX6_enter_49 : decode cX6_enter 49 = .ok (.iload_n 1, 1) := by decide +kernel
theorem dX6_enter_50 : decode cX6_enter 50 = .ok (.iload_n 2, 1) := by decide +kernel
theorem dX6_enter_51 : decode cX6_enter 51 = .ok (.invokevirtual 25, 3) := by decide +kernel
theorem dX6_enter_54 : decode cX6_enter 54 = .ok (.istore 4, 2) := by decide +kernel
theorem dX6_enter_56 : decode cX6_enter 56 = .ok (.aload_n 0, 1) := by decide +kernel
theorem dX6_enter_57 : decode cX6_enter 57 = .ok (.iload_n 3, 1) := by decide +kernel
theorem dX6_enter_58 : decode cX6_enter 58 = .ok (.iconst 0, 1) := by decide +kernel
theorem dX6_enter_59 : decode cX6_enter 59 = .ok (.iadd, 1) := by decide +kernel
theorem dX6_enter_60 : decode cX6_enter 60 = .ok (.iload 4, 2) := by decide +kernel
theorem dX6_enter_62 : decode cX6_enter 62 = .ok (.invokevirtual 60, 3) := by decide +kernel
theorem dX6_enter_65 : decode cX6_enter 65 = .ok (.aload_n 0, 1) := by decide +kernel
theorem dX6_enter_66 : decode cX6_enter 66 = .ok (.iload_n 3, 1) := by decide +kernel
theorem dX6_enter_67 : decode cX6_enter 67 = .ok (.iconst 1, 1) := by decide +kernel
theorem dX6_enter_68 : decode cX6_enter 68 = .ok (.iadd, 1) := by decide +kernel
theorem dX6_enter_69 : decode cX6_enter 69 = .ok (.iload_n 1, 1) := by decide +kernel
theorem dX6_enter_70 : decode cX6_enter 70 = .ok (.invokevirtual 60, 3) := by decide +kernel
theorem dX6_enter_73 : decode cX6_enter 73 = .ok (.aload_n 0, 1) := by decide +kernel
theorem dX6_enter_74 : decode cX6_enter 74 = .ok (.iload_n 3, 1) := by decide +kernel
theorem dX6_enter_75 : decode cX6_enter 75 = .ok (.iconst 2, 1) := by decide +kernel
theorem dX6_enter_76 : decode cX6_enter 76 = .ok (.iadd, 1) := by decide +kernel
theorem dX6_enter_77 : decode cX6_enter 77 = .ok (.aload_n 0, 1) := by decide +kernel
theorem dX6_enter_78 : decode cX6_enter 78 = .ok (.iconst 0, 1) := by decide +kernel
theorem dX6_enter_79 : decode cX6_enter 79 = .ok (.invokevirtual 15, 3) := by decide +kernel
theorem dX6_enter_82 : decode cX6_enter 82 = .ok (.invokevirtual 60, 3) := by decide +kernel
theorem dX6_enter_85 : decode cX6_enter 85 = .ok (.iconst 0, 1) := by decide +kernel
theorem dX6_enter_86 : decode cX6_enter 86 = .ok (.istore 5, 2) := by decide +kernel
theorem dX6_enter_88 : decode cX6_enter 88 = .ok (.iload 5, 2) := by decide +kernel
theorem dX6_enter_90 : decode cX6_enter 90 = .ok (.iload 4, 2) := by decide +kernel
theorem dX6_enter_92 : decode cX6_enter 92 = .ok (.if_icmp .ge 36, 3) := by decide +kernel
theorem dX6_enter_95 : decode cX6_enter 95 = .ok (.aload_n 0, 1) := by decide +kernel
theorem dX6_enter_96 : decode cX6_enter 96 = .ok (.iload_n 1, 1) := by decide +kernel
theorem dX6_enter_97 : decode cX6_enter 97 = .ok (.iload_n 2, 1) := by decide +kernel
theorem dX6_enter_98 : decode cX6_enter 98 = .ok (.iload 5, 2) := by decide +kernel
theorem dX6_enter_100 : decode cX6_enter 100 = .ok (.invokestatic 9, 3) := by decide +kernel
theorem dX6_enter_103 : decode cX6_enter 103 = .ok (.iconst 2, 1) := by decide +kernel
theorem dX6_enter_104 : decode cX6_enter 104 = .ok (.iadd, 1) := by decide +kernel
theorem dX6_enter_105 : decode cX6_enter 105 = .ok (.invokevirtual 15, 3) := by decide +kernel
theorem dX6_enter_108 : decode cX6_enter 108 = .ok (.istore 6, 2) := by decide +kernel
theorem dX6_enter_110 : decode cX6_enter 110 = .ok (.aload_n 0, 1) := by decide +kernel
theorem dX6_enter_111 : decode cX6_enter 111 = .ok (.iload_n 3, 1) := by decide +kernel
theorem dX6_enter_112 : decode cX6_enter 112 = .ok (.iconst 3, 1) := by decide +kernel
theorem dX6_enter_113 : decode cX6_enter 113 = .ok (.iadd, 1) := by decide +kernel
theorem dX6_enter_114 : decode cX6_enter 114 = .ok (.iload 5, 2) := by decide +kernel
theorem dX6_enter_116 : decode cX6_enter 116 = .ok (.iadd, 1) := by decide +kernel
theorem dX6_enter_117 : decode cX6_enter 117 = .ok (.iload 6, 2) := by decide +kernel
theorem dX6_enter_119 : decode cX6_enter 119 = .ok (.invokevirtual 60, 3) := by decide +kernel
theorem dX6_enter_122 : decode cX6_enter 122 = .ok (.iinc 5 1, 3) := by decide +kernel
theorem dX6_enter_125 : decode cX6_enter 125 = .ok (.goto (-37), 3) := by decide +kernel
theorem dX6_enter_128 : decode cX6_enter 128 = .ok (.aload_n 0, 1) := by decide +kernel
theorem dX6_enter_129 : decode cX6_enter 129 = .ok (.bipush 7, 2) := by decide +kernel
theorem dX6_enter_131 : decode cX6_enter 131 = .ok (.iconst 1, 1) := by decide +kernel
theorem dX6_enter_132 : decode cX6_enter 132 = .ok (.invokevirtual 53, 3) := by decide +kernel
theorem dX6_enter_135 : decode cX6_enter 135 = .ok (.return_, 1) := by decide +kernel
theorem dX6_ofEntry_0 : decode cX6_ofEntry 0 = .ok (.iload_n 1, 1) := by decide +kernel
theorem dX6_ofEntry_1 : decode cX6_ofEntry 1 = .ok (.ifCond .lt 13, 3) := by decide +kernel
theorem dX6_ofEntry_4 : decode cX6_ofEntry 4 = .ok (.iload_n 1, 1) := by decide +kernel
theorem dX6_ofEntry_5 : decode cX6_ofEntry 5 = .ok (.aload_n 0, 1) := by decide +kernel
theorem dX6_ofEntry_6 : decode cX6_ofEntry 6 = .ok (.bipush 7, 2) := by decide +kernel
theorem dX6_ofEntry_8 : decode cX6_ofEntry 8 = .ok (.invokevirtual 15, 3) := by decide +kernel
theorem dX6_ofEntry_11 : decode cX6_ofEntry 11 = .ok (.if_icmp .lt 5, 3) := by decide +kernel
theorem dX6_ofEntry_14 : decode cX6_ofEntry 14 = .ok (.iconst (-1), 1) := by decide +kernel
theorem dX6_ofEntry_15 : decode cX6_ofEntry 15 = .ok (.ireturn, 1) := by decide +kernel
theorem dX6_ofEntry_16 : decode cX6_ofEntry 16 = .ok (.iload_n 2, 1) := by decide +kernel
theorem dX6_ofEntry_17 : decode cX6_ofEntry 17 = .ok (.tableswitch 57 0 2 #[27, 37, 47], 27) := by decide +kernel
theorem dX6_ofEntry_44 : decode cX6_ofEntry 44 = .ok (.aload_n 0, 1) := by decide +kernel
theorem dX6_ofEntry_45 : decode cX6_ofEntry 45 = .ok (.iload_n 1, 1) := by decide +kernel
theorem dX6_ofEntry_46 : decode cX6_ofEntry 46 = .ok (.iconst 0, 1) := by decide +kernel
theorem dX6_ofEntry_47 : decode cX6_ofEntry 47 = .ok (.invokestatic 74, 3) := by decide +kernel
theorem dX6_ofEntry_50 : decode cX6_ofEntry 50 = .ok (.invokevirtual 15, 3) := by decide +kernel
theorem dX6_ofEntry_53 : decode cX6_ofEntry 53 = .ok (.ireturn, 1) := by decide +kernel
theorem dX6_ofEntry_54 : decode cX6_ofEntry 54 = .ok (.aload_n 0, 1) := by decide +kernel
theorem dX6_ofEntry_55 : decode cX6_ofEntry 55 = .ok (.iload_n 1, 1) := by decide +kernel
theorem dX6_ofEntry_56 : decode cX6_ofEntry 56 = .ok (.iconst 1, 1) := by decide +kernel
theorem dX6_ofEntry_57 : decode cX6_ofEntry 57 = .ok (.invokestatic 74, 3) := by decide +kernel
theorem dX6_ofEntry_60 : decode cX6_ofEntry 60 = .ok (.invokevirtual 15, 3) := by decide +kernel
theorem dX6_ofEntry_63 : decode cX6_ofEntry 63 = .ok (.ireturn, 1) := by decide +kernel
theorem dX6_ofEntry_64 : decode cX6_ofEntry 64 = .ok (.aload_n 0, 1) := by decide +kernel
theorem dX6_ofEntry_65 : decode cX6_ofEntry 65 = .ok (.iload_n 1, 1) := by decide +kernel
theorem dX6_ofEntry_66 : decode cX6_ofEntry 66 = .ok (.iconst 2, 1) := by decide +kernel
theorem dX6_ofEntry_67 : decode cX6_ofEntry 67 = .ok (.invokestatic 74, 3) := by decide +kernel
theorem dX6_ofEntry_70 : decode cX6_ofEntry 70 = .ok (.invokevirtual 15, 3) := by decide +kernel
theorem dX6_ofEntry_73 : decode cX6_ofEntry 73 = .ok (.ireturn, 1) := by decide +kernel
theorem dX6_ofEntry_74 : decode cX6_ofEntry 74 = .ok (.aload_n 0, 1) := by decide +kernel
theorem dX6_ofEntry_75 : decode cX6_ofEntry 75 = .ok (.iload_n 1, 1) := by decide +kernel
theorem dX6_ofEntry_76 : decode cX6_ofEntry 76 = .ok (.iconst 3, 1) := by decide +kernel
theorem dX6_ofEntry_77 : decode cX6_ofEntry 77 = .ok (.invokestatic 74, 3) := by decide +kernel
theorem dX6_ofEntry_80 : decode cX6_ofEntry 80 = .ok (.invokevirtual 15, 3) := by decide +kernel
theorem dX6_ofEntry_83 : decode cX6_ofEntry 83 = .ok (.ireturn, 1) := by decide +kernel
theorem dX7_init_0 : decode cX7_init 0 = .ok (.aload_n 0, 1) := by decide +kernel
theorem dX7_init_1 : decode cX7_init 1 = .ok (.invokespecial 5, 3) := by decide +kernel
theorem dX7_init_4 : decode cX7_init 4 = .ok (.aload_n 0, 1) := by decide +kernel
theorem dX7_init_5 : decode cX7_init 5 = .ok (.sipush 910, 3) := by decide +kernel
theorem dX7_init_8 : decode cX7_init 8 = .ok (.newarray .int, 2) := by decide +kernel
theorem dX7_init_10 : decode cX7_init 10 = .ok (.putfield 11, 3) := by decide +kernel
theorem dX7_init_13 : decode cX7_init 13 = .ok (.aload_n 0, 1) := by decide +kernel
theorem dX7_init_14 : decode cX7_init 14 = .ok (.iconst 1, 1) := by decide +kernel
theorem dX7_init_15 : decode cX7_init 15 = .ok (.iconst 3, 1) := by decide +kernel
theorem dX7_init_16 : decode cX7_init 16 = .ok (.invokevirtual 15, 3) := by decide +kernel
theorem dX7_init_19 : decode cX7_init 19 = .ok (.aload_n 0, 1) := by decide +kernel
theorem dX7_init_20 : decode cX7_init 20 = .ok (.iconst 2, 1) := by decide +kernel
theorem dX7_init_21 : decode cX7_init 21 = .ok (.iconst 1, 1) := by decide +kernel
theorem dX7_init_22 : decode cX7_init 22 = .ok (.invokevirtual 15, 3) := by decide +kernel
theorem dX7_init_25 : decode cX7_init 25 = .ok (.iconst 0, 1) := by decide +kernel
theorem dX7_init_26 : decode cX7_init 26 = .ok (.istore_n 1, 1) := by decide +kernel
theorem dX7_init_27 : decode cX7_init 27 = .ok (.iload_n 1, 1) := by decide +kernel
theorem dX7_init_28 : decode cX7_init 28 = .ok (.iconst 5, 1) := by decide +kernel
theorem dX7_init_29 : decode cX7_init 29 = .ok (.if_icmp .ge 20, 3) := by decide +kernel
theorem dX7_init_32 : decode cX7_init 32 = .ok (.aload_n 0, 1) := by decide +kernel
theorem dX7_init_33 : decode cX7_init 33 = .ok (.iload_n 1, 1) := by decide +kernel
theorem dX7_init_34 : decode cX7_init 34 = .ok (.iconst 0, 1) := by decide +kernel
theorem dX7_init_35 : decode cX7_init 35 = .ok (.invokestatic 19, 3) := by decide +kernel
theorem dX7_init_38 : decode cX7_init 38 = .ok (.bipush 60, 2) := by decide +kernel
theorem dX7_init_40 : decode cX7_init 40 = .ok (.invokevirtual 15, 3) := by decide +kernel
theorem dX7_init_43 : decode cX7_init 43 = .ok (.iinc 1 1, 3) := by decide +kernel
theorem dX7_init_46 : decode cX7_init 46 = .ok (.goto (-19), 3) := by decide +kernel
theorem dX7_init_49 : decode cX7_init 49 = .ok (.return_, 1) := by decide +kernel
theorem dX7_fisherCell_0 : decode cX7_fisherCell 0 = .ok (.bipush 8, 2) := by decide +kernel
theorem dX7_fisherCell_2 : decode cX7_fisherCell 2 = .ok (.iload_n 0, 1) := by decide +kernel
theorem dX7_fisherCell_3 : decode cX7_fisherCell 3 = .ok (.sipush 154, 3) := by decide +kernel
theorem dX7_fisherCell_6 : decode cX7_fisherCell 6 = .ok (.imul, 1) := by decide +kernel
theorem dX7_fisherCell_7 : decode cX7_fisherCell 7 = .ok (.iadd, 1) := by decide +kernel
theorem dX7_fisherCell_8 : decode cX7_fisherCell 8 = .ok (.iload_n 1, 1) := by decide +kernel
theorem dX7_fisherCell_9 : decode cX7_fisherCell 9 = .ok (.iadd, 1) := by decide +kernel
theorem dX7_fisherCell_10 : decode cX7_fisherCell 10 = .ok (.ireturn, 1) := by decide +kernel
theorem dX7_nameCell_0 : decode cX7_nameCell 0 = .ok (.bipush 8, 2) := by decide +kernel
theorem dX7_nameCell_2 : decode cX7_nameCell 2 = .ok (.iload_n 0, 1) := by decide +kernel
theorem dX7_nameCell_3 : decode cX7_nameCell 3 = .ok (.sipush 154, 3) := by decide +kernel
theorem dX7_nameCell_6 : decode cX7_nameCell 6 = .ok (.imul, 1) := by decide +kernel
theorem dX7_nameCell_7 : decode cX7_nameCell 7 = .ok (.iadd, 1) := by decide +kernel
theorem dX7_nameCell_8 : decode cX7_nameCell 8 = .ok (.iconst 4, 1) := by decide +kernel
theorem dX7_nameCell_9 : decode cX7_nameCell 9 = .ok (.iadd, 1) := by decide +kernel
theorem dX7_nameCell_10 : decode cX7_nameCell 10 = .ok (.iload_n 1, 1) := by decide +kernel
theorem dX7_nameCell_11 : decode cX7_nameCell 11 = .ok (.bipush 25, 2) := by decide +kernel
theorem dX7_nameCell_13 : decode cX7_nameCell 13 = .ok (.imul, 1) := by decide +kernel
theorem dX7_nameCell_14 : decode cX7_nameCell 14 = .ok (.iadd, 1) := by decide +kernel
theorem dX7_nameCell_15 : decode cX7_nameCell 15 = .ok (.ireturn, 1) := by decide +kernel
theorem dX7_knotCell_0 : decode cX7_knotCell 0 = .ok (.bipush 8, 2) := by decide +kernel
theorem dX7_knotCell_2 : decode cX7_knotCell 2 = .ok (.iload_n 0, 1) := by decide +kernel
theorem dX7_knotCell_3 : decode cX7_knotCell 3 = .ok (.sipush 154, 3) := by decide +kernel
theorem dX7_knotCell_6 : decode cX7_knotCell 6 = .ok (.imul, 1) := by decide +kernel
theorem dX7_knotCell_7 : decode cX7_knotCell 7 = .ok (.iadd, 1) := by decide +kernel
theorem dX7_knotCell_8 : decode cX7_knotCell 8 = .ok (.istore_n 3, 1) := by decide +kernel
theorem dX7_knotCell_9 : decode cX7_knotCell 9 = .ok (.iload_n 3, 1) := by decide +kernel
theorem dX7_knotCell_10 : decode cX7_knotCell 10 = .ok (.iconst 4, 1) := by decide +kernel
theorem dX7_knotCell_11 : decode cX7_knotCell 11 = .ok (.iadd, 1) := by decide +kernel
theorem dX7_knotCell_12 : decode cX7_knotCell 12 = .ok (.iload_n 1, 1) := by decide +kernel
theorem dX7_knotCell_13 : decode cX7_knotCell 13 = .ok (.bipush 25, 2) := by decide +kernel
theorem dX7_knotCell_15 : decode cX7_knotCell 15 = .ok (.imul, 1) := by decide +kernel
theorem dX7_knotCell_16 : decode cX7_knotCell 16 = .ok (.iadd, 1) := by decide +kernel
theorem dX7_knotCell_17 : decode cX7_knotCell 17 = .ok (.iconst 1, 1) := by decide +kernel
theorem dX7_knotCell_18 : decode cX7_knotCell 18 = .ok (.iadd, 1) := by decide +kernel
theorem dX7_knotCell_19 : decode cX7_knotCell 19 = .ok (.iload_n 2, 1) := by decide +kernel
theorem dX7_knotCell_20 : decode cX7_knotCell 20 = .ok (.iconst 3, 1) := by decide +kernel
theorem dX7_knotCell_21 : decode cX7_knotCell 21 = .ok (.imul, 1) := by decide +kernel
theorem dX7_knotCell_22 : decode cX7_knotCell 22 = .ok (.iadd, 1) := by decide +kernel
theorem dX7_knotCell_23 : decode cX7_knotCell 23 = .ok (.ireturn, 1) := by decide +kernel
theorem dX7_entryCell_0 : decode cX7_entryCell 0 = .ok (.sipush 778, 3) := by decide +kernel
theorem dX7_entryCell_3 : decode cX7_entryCell 3 = .ok (.iload_n 0, 1) := by decide +kernel
theorem dX7_entryCell_4 : decode cX7_entryCell 4 = .ok (.bipush 11, 2) := by decide +kernel
theorem dX7_entryCell_6 : decode cX7_entryCell 6 = .ok (.imul, 1) := by decide +kernel
theorem dX7_entryCell_7 : decode cX7_entryCell 7 = .ok (.iadd, 1) := by decide +kernel
theorem dX7_entryCell_8 : decode cX7_entryCell 8 = .ok (.iload_n 1, 1) := by decide +kernel
theorem dX7_entryCell_9 : decode cX7_entryCell 9 = .ok (.iadd, 1) := by decide +kernel
theorem dX7_entryCell_10 : decode cX7_entryCell 10 = .ok (.ireturn, 1) := by decide +kernel
theorem dX7_at_0 : decode cX7_at 0 = .ok (.iload_n 1, 1) := by decide +kernel
theorem dX7_at_1 : decode cX7_at 1 = .ok (.ifCond .lt 21, 3) := by decide +kernel
theorem dX7_at_4 : decode cX7_at 4 = .ok (.iload_n 1, 1) := by decide +kernel
theorem dX7_at_5 : decode cX7_at 5 = .ok (.aload_n 0, 1) := by decide +kernel
theorem dX7_at_6 : decode cX7_at 6 = .ok (.getfield 11, 3) := by decide +kernel
theorem dX7_at_9 : decode cX7_at 9 = .ok (.arraylength, 1) := by decide +kernel
theorem dX7_at_10 : decode cX7_at 10 = .ok (.if_icmp .ge 12, 3) := by decide +kernel
theorem dX7_at_13 : decode cX7_at 13 = .ok (.aload_n 0, 1) := by decide +kernel
theorem dX7_at_14 : decode cX7_at 14 = .ok (.getfield 11, 3) := by decide +kernel
theorem dX7_at_17 : decode cX7_at 17 = .ok (.iload_n 1, 1) := by decide +kernel
theorem dX7_at_18 : decode cX7_at 18 = .ok (.iaload, 1) := by decide +kernel
theorem dX7_at_19 : decode cX7_at 19 = .ok (.goto 4, 3) := by decide +kernel
theorem dX7_at_22 : decode cX7_at 22 = .ok (.iconst 0, 1) := by decide +kernel
theorem dX7_at_23 : decode cX7_at 23 = .ok (.ireturn, 1) := by decide +kernel
theorem dX7_put_0 : decode cX7_put 0 = .ok (.iload_n 1, 1) := by decide +kernel
theorem dX7_put_1 : decode cX7_put 1 = .ok (.ifCond .lt 19, 3) := by decide +kernel
theorem dX7_put_4 : decode cX7_put 4 = .ok (.iload_n 1, 1) := by decide +kernel
theorem dX7_put_5 : decode cX7_put 5 = .ok (.aload_n 0, 1) := by decide +kernel
theorem dX7_put_6 : decode cX7_put 6 = .ok (.getfield 11, 3) := by decide +kernel
theorem dX7_put_9 : decode cX7_put 9 = .ok (.arraylength, 1) := by decide +kernel
theorem dX7_put_10 : decode cX7_put 10 = .ok (.if_icmp .ge 10, 3) := by decide +kernel
theorem dX7_put_13 : decode cX7_put 13 = .ok (.aload_n 0, 1) := by decide +kernel
theorem dX7_put_14 : decode cX7_put 14 = .ok (.getfield 11, 3) := by decide +kernel
theorem dX7_put_17 : decode cX7_put 17 = .ok (.iload_n 1, 1) := by decide +kernel
theorem dX7_put_18 : decode cX7_put 18 = .ok (.iload_n 2, 1) := by decide +kernel
theorem dX7_put_19 : decode cX7_put 19 = .ok (.iastore, 1) := by decide +kernel
theorem dX7_put_20 : decode cX7_put 20 = .ok (.return_, 1) := by decide +kernel
theorem dX7_add_0 : decode cX7_add 0 = .ok (.aload_n 0, 1) := by decide +kernel
theorem dX7_add_1 : decode cX7_add 1 = .ok (.iload_n 1, 1) := by decide +kernel
theorem dX7_add_2 : decode cX7_add 2 = .ok (.aload_n 0, 1) := by decide +kernel
theorem dX7_add_3 : decode cX7_add 3 = .ok (.iload_n 1, 1) := by decide +kernel
theorem dX7_add_4 : decode cX7_add 4 = .ok (.invokevirtual 23, 3) := by decide +kernel
theorem dX7_add_7 : decode cX7_add 7 = .ok (.iload_n 2, 1) := by decide +kernel
theorem dX7_add_8 : decode cX7_add 8 = .ok (.iadd, 1) := by decide +kernel
theorem dX7_add_9 : decode cX7_add 9 = .ok (.invokevirtual 15, 3) := by decide +kernel
theorem dX7_add_12 : decode cX7_add 12 = .ok (.return_, 1) := by decide +kernel
theorem dX7_closeUp_0 : decode cX7_closeUp 0 = .ok (.iload_n 1, 1) := by decide +kernel
theorem dX7_closeUp_1 : decode cX7_closeUp 1 = .ok (.istore 4, 2) := by decide +kernel
theorem dX7_closeUp_3 : decode cX7_closeUp 3 = .ok (.iload 4, 2) := by decide +kernel
theorem dX7_closeUp_5 : decode cX7_closeUp 5 = .ok (.iload_n 2, 1) := by decide +kernel
theorem dX7_closeUp_6 : decode cX7_closeUp 6 = .ok (.iload_n 3, 1) := by decide +kernel
theorem dX7_closeUp_7 : decode cX7_closeUp 7 = .ok (.isub, 1) := by decide +kernel
theorem dX7_closeUp_8 : decode cX7_closeUp 8 = .ok (.if_icmp .ge 23, 3) := by decide +kernel
theorem dX7_closeUp_11 : decode cX7_closeUp 11 = .ok (.aload_n 0, 1) := by decide +kernel
theorem dX7_closeUp_12 : decode cX7_closeUp 12 = .ok (.iload 4, 2) := by decide +kernel
theorem dX7_closeUp_14 : decode cX7_closeUp 14 = .ok (.aload_n 0, 1) := by decide +kernel
theorem dX7_closeUp_15 : decode cX7_closeUp 15 = .ok (.iload 4, 2) := by decide +kernel
theorem dX7_closeUp_17 : decode cX7_closeUp 17 = .ok (.iload_n 3, 1) := by decide +kernel
theorem dX7_closeUp_18 : decode cX7_closeUp 18 = .ok (.iadd, 1) := by decide +kernel
theorem dX7_closeUp_19 : decode cX7_closeUp 19 = .ok (.invokevirtual 23, 3) := by decide +kernel
theorem dX7_closeUp_22 : decode cX7_closeUp 22 = .ok (.invokevirtual 15, 3) := by decide +kernel
theorem dX7_closeUp_25 : decode cX7_closeUp 25 = .ok (.iinc 4 1, 3) := by decide +kernel
theorem dX7_closeUp_28 : decode cX7_closeUp 28 = .ok (.goto (-25), 3) := by decide +kernel
theorem dX7_closeUp_31 : decode cX7_closeUp 31 = .ok (.return_, 1) := by decide +kernel
theorem dX7_copyTo_0 : decode cX7_copyTo 0 = .ok (.iload_n 2, 1) := by decide +kernel
theorem dX7_copyTo_1 : decode cX7_copyTo 1 = .ok (.ifCond .lt 26, 3) := by decide +kernel
theorem dX7_copyTo_4 : decode cX7_copyTo 4 = .ok (.iload_n 2, 1) := by decide +kernel
theorem dX7_copyTo_5 : decode cX7_copyTo 5 = .ok (.aload_n 1, 1) := by decide +kernel
theorem dX7_copyTo_6 : decode cX7_copyTo 6 = .ok (.arraylength, 1) := by decide +kernel
theorem dX7_copyTo_7 : decode cX7_copyTo 7 = .ok (.sipush 910, 3) := by decide +kernel
theorem dX7_copyTo_10 : decode cX7_copyTo 10 = .ok (.isub, 1) := by decide +kernel
theorem dX7_copyTo_11 : decode cX7_copyTo 11 = .ok (.if_icmp .gt 16, 3) := by decide +kernel
theorem dX7_copyTo_14 : decode cX7_copyTo 14 = .ok (.aload_n 0, 1) := by decide +kernel
theorem dX7_copyTo_15 : decode cX7_copyTo 15 = .ok (.getfield 11, 3) := by decide +kernel
theorem dX7_copyTo_18 : decode cX7_copyTo 18 = .ok (.iconst 0, 1) := by decide +kernel
theorem dX7_copyTo_19 : decode cX7_copyTo 19 = .ok (.aload_n 1, 1) := by decide +kernel
theorem dX7_copyTo_20 : decode cX7_copyTo 20 = .ok (.iload_n 2, 1) := by decide +kernel
theorem dX7_copyTo_21 : decode cX7_copyTo 21 = .ok (.sipush 910, 3) := by decide +kernel
theorem dX7_copyTo_24 : decode cX7_copyTo 24 = .ok (.invokestatic 27, 3) := by decide +kernel
theorem dX7_copyTo_27 : decode cX7_copyTo 27 = .ok (.return_, 1) := by decide +kernel
theorem dX7_copyFrom_0 : decode cX7_copyFrom 0 = .ok (.iload_n 2, 1) := by decide +kernel
theorem dX7_copyFrom_1 : decode cX7_copyFrom 1 = .ok (.ifCond .lt 26, 3) := by decide +kernel
theorem dX7_copyFrom_4 : decode cX7_copyFrom 4 = .ok (.iload_n 2, 1) := by decide +kernel
theorem dX7_copyFrom_5 : decode cX7_copyFrom 5 = .ok (.aload_n 1, 1) := by decide +kernel
theorem dX7_copyFrom_6 : decode cX7_copyFrom 6 = .ok (.arraylength, 1) := by decide +kernel
theorem dX7_copyFrom_7 : decode cX7_copyFrom 7 = .ok (.sipush 910, 3) := by decide +kernel
theorem dX7_copyFrom_10 : decode cX7_copyFrom 10 = .ok (.isub, 1) := by decide +kernel
theorem dX7_copyFrom_11 : decode cX7_copyFrom 11 = .ok (.if_icmp .gt 16, 3) := by decide +kernel
theorem dX7_copyFrom_14 : decode cX7_copyFrom 14 = .ok (.aload_n 1, 1) := by decide +kernel
theorem dX7_copyFrom_15 : decode cX7_copyFrom 15 = .ok (.iload_n 2, 1) := by decide +kernel
theorem dX7_copyFrom_16 : decode cX7_copyFrom 16 = .ok (.aload_n 0, 1) := by decide +kernel
theorem dX7_copyFrom_17 : decode cX7_copyFrom 17 = .ok (.getfield 11, 3) := by decide +kernel
theorem dX7_copyFrom_20 : decode cX7_copyFrom 20 = .ok (.iconst 0, 1) := by decide +kernel
theorem dX7_copyFrom_21 : decode cX7_copyFrom 21 = .ok (.sipush 910, 3) := by decide +kernel
theorem dX7_copyFrom_24 : decode cX7_copyFrom 24 = .ok (.invokestatic 27, 3) := by decide +kernel
theorem dX7_copyFrom_27 : decode cX7_copyFrom 27 = .ok (.return_, 1) := by decide +kernel
theorem dX7_names_0 : decode cX7_names 0 = .ok (.aload_n 0, 1) := by decide +kernel
theorem dX7_names_1 : decode cX7_names 1 = .ok (.iload_n 1, 1) := by decide +kernel
theorem dX7_names_2 : decode cX7_names 2 = .ok (.iconst 1, 1) := by decide +kernel
theorem dX7_names_3 : decode cX7_names 3 = .ok (.invokestatic 19, 3) := by decide +kernel
theorem dX7_names_6 : decode cX7_names 6 = .ok (.invokevirtual 23, 3) := by decide +kernel
theorem dX7_names_9 : decode cX7_names 9 = .ok (.ireturn, 1) := by decide +kernel
theorem dX7_hasName_0 : decode cX7_hasName 0 = .ok (.iload_n 2, 1) := by decide +kernel
theorem dX7_hasName_1 : decode cX7_hasName 1 = .ok (.ifCond .lt 16, 3) := by decide +kernel
theorem dX7_hasName_4 : decode cX7_hasName 4 = .ok (.iload_n 2, 1) := by decide +kernel
theorem dX7_hasName_5 : decode cX7_hasName 5 = .ok (.aload_n 0, 1) := by decide +kernel
theorem dX7_hasName_6 : decode cX7_hasName 6 = .ok (.iload_n 1, 1) := by decide +kernel
theorem dX7_hasName_7 : decode cX7_hasName 7 = .ok (.invokevirtual 33, 3) := by decide +kernel
theorem dX7_hasName_10 : decode cX7_hasName 10 = .ok (.if_icmp .ge 7, 3) := by decide +kernel
theorem dX7_hasName_13 : decode cX7_hasName 13 = .ok (.iconst 1, 1) := by decide +kernel
theorem dX7_hasName_14 : decode cX7_hasName 14 = .ok (.goto 4, 3) := by decide +kernel
theorem dX7_hasName_17 : decode cX7_hasName 17 = .ok (.iconst 0, 1) := by decide +kernel
theorem dX7_hasName_18 : decode cX7_hasName 18 = .ok (.ireturn, 1) := by decide +kernel
theorem dX7_knots_0 : decode cX7_knots 0 = .ok (.aload_n 0, 1) := by decide +kernel
theorem dX7_knots_1 : decode cX7_knots 1 = .ok (.iload_n 1, 1) := by decide +kernel
theorem dX7_knots_2 : decode cX7_knots 2 = .ok (.iload_n 2, 1) := by decide +kernel
theorem dX7_knots_3 : decode cX7_knots 3 = .ok (.invokestatic 36, 3) := by decide +kernel
theorem dX7_knots_6 : decode cX7_knots 6 = .ok (.iconst 0, 1) := by decide +kernel
theorem dX7_knots_7 : decode cX7_knots 7 = .ok (.iadd, 1) := by decide +kernel
theorem dX7_knots_8 : decode cX7_knots 8 = .ok (.invokevirtual 23, 3) := by decide +kernel
theorem dX7_knots_11 : decode cX7_knots 11 = .ok (.ireturn, 1) := by decide +kernel
theorem dX7_loosened_0 : decode cX7_loosened 0 = .ok (.aload_n 0, 1) := by decide +kernel
theorem dX7_loosened_1 : decode cX7_loosened 1 = .ok (.iload_n 1, 1) := by decide +kernel
theorem dX7_loosened_2 : decode cX7_loosened 2 = .ok (.iload_n 2, 1) := by decide +kernel
theorem dX7_loosened_3 : decode cX7_loosened 3 = .ok (.iload_n 3, 1) := by decide +kernel
theorem dX7_loosened_4 : decode cX7_loosened 4 = .ok (.invokestatic 39, 3) := by decide +kernel
theorem dX7_loosened_7 : decode cX7_loosened 7 = .ok (.iconst 1, 1) := by decide +kernel
theorem dX7_loosened_8 : decode cX7_loosened 8 = .ok (.iadd, 1) := by decide +kernel
theorem dX7_loosened_9 : decode cX7_loosened 9 = .ok (.invokevirtual 23, 3) := by decide +kernel
theorem dX7_loosened_12 : decode cX7_loosened 12 = .ok (.ireturn, 1) := by decide +kernel
theorem dX7_readsAs_0 : decode cX7_readsAs 0 = .ok (.iload_n 1, 1) := by decide +kernel
theorem dX7_readsAs_1 : decode cX7_readsAs 1 = .ok (.iload_n 2, 1) := by decide +kernel
theorem dX7_readsAs_2 : decode cX7_readsAs 2 = .ok (.iload_n 3, 1) := by decide +kernel
theorem dX7_readsAs_3 : decode cX7_readsAs 3 = .ok (.invokestatic 39, 3) := by decide +kernel
theorem dX7_readsAs_6 : decode cX7_readsAs 6 = .ok (.istore 4, 2) := by decide +kernel
theorem dX7_readsAs_8 : decode cX7_readsAs 8 = .ok (.aload_n 0, 1) := by decide +kernel
theorem dX7_readsAs_9 : decode cX7_readsAs 9 = .ok (.iload 4, 2) := by decide +kernel
theorem dX7_readsAs_11 : decode cX7_readsAs 11 = .ok (.iconst 0, 1) := by decide +kernel
theorem dX7_readsAs_12 : decode cX7_readsAs 12 = .ok (.iadd, 1) := by decide +kernel
theorem dX7_readsAs_13 : decode cX7_readsAs 13 = .ok (.invokevirtual 23, 3) := by decide +kernel
theorem dX7_readsAs_16 : decode cX7_readsAs 16 = .ok (.aload_n 0, 1) := by decide +kernel
theorem dX7_readsAs_17 : decode cX7_readsAs 17 = .ok (.iload 4, 2) := by decide +kernel
theorem dX7_readsAs_19 : decode cX7_readsAs 19 = .ok (.iconst 1, 1) := by decide +kernel
theorem dX7_readsAs_20 : decode cX7_readsAs 20 = .ok (.iadd, 1) := by decide +kernel
theorem dX7_readsAs_21 : decode cX7_readsAs 21 = .ok (.invokevirtual 23, 3) := by decide +kernel
theorem dX7_readsAs_24 : decode cX7_readsAs 24 = .ok (.invokestatic 43, 3) := by decide +kernel
theorem dX7_readsAs_27 : decode cX7_readsAs 27 = .ok (.ireturn, 1) := by decide +kernel
theorem dX7_cordOf_0 : decode cX7_cordOf 0 = .ok (.iconst 2, 1) := by decide +kernel
theorem dX7_cordOf_1 : decode cX7_cordOf 1 = .ok (.istore_n 3, 1) := by decide +kernel
theorem dX7_cordOf_2 : decode cX7_cordOf 2 = .ok (.aload_n 0, 1) := by decide +kernel
theorem dX7_cordOf_3 : decode cX7_cordOf 3 = .ok (.iload_n 1, 1) := by decide +kernel
theorem dX7_cordOf_4 : decode cX7_cordOf 4 = .ok (.iload_n 2, 1) := by decide +kernel
theorem dX7_cordOf_5 : decode cX7_cordOf 5 = .ok (.invokestatic 36, 3) := by decide +kernel
theorem dX7_cordOf_8 : decode cX7_cordOf 8 = .ok (.iconst 0, 1) := by decide +kernel
theorem dX7_cordOf_9 : decode cX7_cordOf 9 = .ok (.iadd, 1) := by decide +kernel
theorem dX7_cordOf_10 : decode cX7_cordOf 10 = .ok (.invokevirtual 23, 3) := by decide +kernel
theorem dX7_cordOf_13 : decode cX7_cordOf 13 = .ok (.istore 4, 2) := by decide +kernel
theorem dX7_cordOf_15 : decode cX7_cordOf 15 = .ok (.iconst 0, 1) := by decide +kernel
theorem dX7_cordOf_16 : decode cX7_cordOf 16 = .ok (.istore 5, 2) := by decide +kernel
theorem dX7_cordOf_18 : decode cX7_cordOf 18 = .ok (.iload 5, 2) := by decide +kernel
theorem dX7_cordOf_20 : decode cX7_cordOf 20 = .ok (.iload 4, 2) := by decide +kernel
theorem dX7_cordOf_22 : decode cX7_cordOf 22 = .ok (.if_icmp .ge 34, 3) := by decide +kernel
theorem dX7_cordOf_25 : decode cX7_cordOf 25 = .ok (.aload_n 0, 1) := by decide +kernel
theorem dX7_cordOf_26 : decode cX7_cordOf 26 = .ok (.iload_n 1, 1) := by decide +kernel
theorem dX7_cordOf_27 : decode cX7_cordOf 27 = .ok (.iload_n 2, 1) := by decide +kernel
theorem dX7_cordOf_28 : decode cX7_cordOf 28 = .ok (.iload 5, 2) := by decide +kernel
theorem dX7_cordOf_30 : decode cX7_cordOf 30 = .ok (.invokestatic 39, 3) := by decide +kernel
theorem dX7_cordOf_33 : decode cX7_cordOf 33 = .ok (.iconst 0, 1) := by decide +kernel
theorem dX7_cordOf_34 : decode cX7_cordOf 34 = .ok (.iadd, 1) := by decide +kernel
theorem dX7_cordOf_35 : decode cX7_cordOf 35 = .ok (.invokevirtual 23, 3) := by decide +kernel
theorem dX7_cordOf_38 : decode cX7_cordOf 38 = .ok (.istore 6, 2) := by decide +kernel
theorem dX7_cordOf_40 : decode cX7_cordOf 40 = .ok (.iload_n 3, 1) := by decide +kernel
theorem dX7_cordOf_41 : decode cX7_cordOf 41 = .ok (.iload 6, 2) := by decide +kernel
theorem dX7_cordOf_43 : decode cX7_cordOf 43 = .ok (.invokestatic 48, 3) := by decide +kernel
theorem dX7_cordOf_46 : decode cX7_cordOf 46 = .ok (.iconst 1, 1) := by decide +kernel
theorem dX7_cordOf_47 : decode cX7_cordOf 47 = .ok (.iadd, 1) := by decide +kernel
theorem dX7_cordOf_48 : decode cX7_cordOf 48 = .ok (.iadd, 1) := by decide +kernel
theorem dX7_cordOf_49 : decode cX7_cordOf 49 = .ok (.istore_n 3, 1) := by decide +kernel
theorem dX7_cordOf_50 : decode cX7_cordOf 50 = .ok (.iinc 5 1, 3) := by decide +kernel
theorem dX7_cordOf_53 : decode cX7_cordOf 53 = .ok (.goto (-35), 3) := by decide +kernel
theorem dX7_cordOf_56 : decode cX7_cordOf 56 = .ok (.iload_n 3, 1) := by decide +kernel
theorem dX7_cordOf_57 : decode cX7_cordOf 57 = .ok (.ireturn, 1) := by decide +kernel
theorem dX7_left_0 : decode cX7_left 0 = .ok (.aload_n 0, 1) := by decide +kernel
theorem dX7_left_1 : decode cX7_left 1 = .ok (.iload_n 1, 1) := by decide +kernel
theorem dX7_left_2 : decode cX7_left 2 = .ok (.iconst 0, 1) := by decide +kernel
theorem dX7_left_3 : decode cX7_left 3 = .ok (.invokestatic 19, 3) := by decide +kernel
theorem dX7_left_6 : decode cX7_left 6 = .ok (.invokevirtual 23, 3) := by decide +kernel
theorem dX7_left_9 : decode cX7_left 9 = .ok (.istore_n 2, 1) := by decide +kernel
theorem dX7_left_10 : decode cX7_left 10 = .ok (.aload_n 0, 1) := by decide +kernel
theorem dX7_left_11 : decode cX7_left 11 = .ok (.iload_n 1, 1) := by decide +kernel
theorem dX7_left_12 : decode cX7_left 12 = .ok (.invokevirtual 33, 3) := by decide +kernel
theorem dX7_left_15 : decode cX7_left 15 = .ok (.istore_n 3, 1) := by decide +kernel
theorem dX7_left_16 : decode cX7_left 16 = .ok (.iconst 0, 1) := by decide +kernel
theorem dX7_left_17 : decode cX7_left 17 = .ok (.istore 4, 2) := by decide +kernel
theorem dX7_left_19 : decode cX7_left 19 = .ok (.iload 4, 2) := by decide +kernel
theorem dX7_left_21 : decode cX7_left 21 = .ok (.iload_n 3, 1) := by decide +kernel
theorem dX7_left_22 : decode cX7_left 22 = .ok (.if_icmp .ge 19, 3) := by decide +kernel
theorem dX7_left_25 : decode cX7_left 25 = .ok (.iload_n 2, 1) := by decide +kernel
theorem dX7_left_26 : decode cX7_left 26 = .ok (.aload_n 0, 1) := by decide +kernel
theorem dX7_left_27 : decode cX7_left 27 = .ok (.iload_n 1, 1) := by decide +kernel
theorem dX7_left_28 : decode cX7_left 28 = .ok (.iload 4, 2) := by decide +kernel
theorem dX7_left_30 : decode cX7_left 30 = .ok (.invokevirtual 51, 3) := by decide +kernel
theorem dX7_left_33 : decode cX7_left 33 = .ok (.isub, 1) := by decide +kernel
theorem dX7_left_34 : decode cX7_left 34 = .ok (.istore_n 2, 1) := by decide +kernel
theorem dX7_left_35 : decode cX7_left 35 = .ok (.iinc 4 1, 3) := by decide +kernel
theorem dX7_left_38 : decode cX7_left 38 = .ok (.goto (-19), 3) := by decide +kernel
theorem dX7_left_41 : decode cX7_left 41 = .ok (.iload_n 2, 1) := by decide +kernel
theorem dX7_left_42 : decode cX7_left 42 = .ok (.ireturn, 1) := by decide +kernel
theorem dX8_knotsThatAre_0 : decode cX8_knotsThatAre 0 = .ok (.iconst 0, 1) := by decide +kernel
theorem dX8_knotsThatAre_1 : decode cX8_knotsThatAre 1 = .ok (.istore_n 3, 1) := by decide +kernel
theorem dX8_knotsThatAre_2 : decode cX8_knotsThatAre 2 = .ok (.iconst 0, 1) := by decide +kernel
theorem dX8_knotsThatAre_3 : decode cX8_knotsThatAre 3 = .ok (.istore 4, 2) := by decide +kernel
theorem dX8_knotsThatAre_5 : decode cX8_knotsThatAre 5 = .ok (.iload 4, 2) := by decide +kernel
theorem dX8_knotsThatAre_7 : decode cX8_knotsThatAre 7 = .ok (.iconst 5, 1) := by decide +kernel
theorem dX8_knotsThatAre_8 : decode cX8_knotsThatAre 8 = .ok (.if_icmp .ge 46, 3) := by decide +kernel
theorem dX8_knotsThatAre_11 : decode cX8_knotsThatAre 11 = .ok (.aload_n 0, 1) := by decide +kernel
theorem dX8_knotsThatAre_12 : decode cX8_knotsThatAre 12 = .ok (.iload 4, 2) := by decide +kernel
theorem dX8_knotsThatAre_14 : decode cX8_knotsThatAre 14 = .ok (.invokevirtual 9, 3) := by decide +kernel
theorem dX8_knotsThatAre_17 : decode cX8_knotsThatAre 17 = .ok (.istore 5, 2) := by decide +kernel
theorem dX8_knotsThatAre_19 : decode cX8_knotsThatAre 19 = .ok (.iconst 0, 1) := by decide +kernel
theorem dX8_knotsThatAre_20 : decode cX8_knotsThatAre 20 = .ok (.istore 6, 2) := by decide +kernel
theorem dX8_knotsThatAre_22 : decode cX8_knotsThatAre 22 = .ok (.iload 6, 2) := by decide +kernel
theorem dX8_knotsThatAre_24 : decode cX8_knotsThatAre 24 = .ok (.iload 5, 2) := by decide +kernel
theorem dX8_knotsThatAre_26 : decode cX8_knotsThatAre 26 = .ok (.if_icmp .ge 22, 3) := by decide +kernel
theorem dX8_knotsThatAre_29 : decode cX8_knotsThatAre 29 = .ok (.iload_n 3, 1) := by decide +kernel
theorem dX8_knotsThatAre_30 : decode cX8_knotsThatAre 30 = .ok (.aload_n 0, 1) := by decide +kernel
theorem dX8_knotsThatAre_31 : decode cX8_knotsThatAre 31 = .ok (.iload 4, 2) := by decide +kernel
theorem dX8_knotsThatAre_33 : decode cX8_knotsThatAre 33 = .ok (.iload 6, 2) := by decide +kernel
theorem dX8_knotsThatAre_35 : decode cX8_knotsThatAre 35 = .ok (.iload_n 1, 1) := by decide +kernel
theorem dX8_knotsThatAre_36 : decode cX8_knotsThatAre 36 = .ok (.iload_n 2, 1) := by decide +kernel
theorem dX8_knotsThatAre_37 : decode cX8_knotsThatAre 37 = .ok (.invokestatic 15, 3) := by decide +kernel
theorem dX8_knotsThatAre_40 : decode cX8_knotsThatAre 40 = .ok (.iadd, 1) := by decide +kernel
theorem dX8_knotsThatAre_41 : decode cX8_knotsThatAre 41 = .ok (.istore_n 3, 1) := by decide +kernel
theorem dX8_knotsThatAre_42 : decode cX8_knotsThatAre 42 = .ok (.iinc 6 1, 3) := by decide +kernel
theorem dX8_knotsThatAre_45 : decode cX8_knotsThatAre 45 = .ok (.goto (-23), 3) := by decide +kernel
theorem dX8_knotsThatAre_48 : decode cX8_knotsThatAre 48 = .ok (.iinc 4 1, 3) := by decide +kernel
theorem dX8_knotsThatAre_51 : decode cX8_knotsThatAre 51 = .ok (.goto (-46), 3) := by decide +kernel
theorem dX8_knotsThatAre_54 : decode cX8_knotsThatAre 54 = .ok (.iload_n 3, 1) := by decide +kernel
theorem dX8_knotsThatAre_55 : decode cX8_knotsThatAre 55 = .ok (.ireturn, 1) := by decide +kernel
theorem dX8_knotsOfName_0 : decode cX8_knotsOfName 0 = .ok (.iconst 0, 1) := by decide +kernel
theorem dX8_knotsOfName_1 : decode cX8_knotsOfName 1 = .ok (.istore 5, 2) := by decide +kernel
theorem dX8_knotsOfName_3 : decode cX8_knotsOfName 3 = .ok (.aload_n 0, 1) := by decide +kernel
theorem dX8_knotsOfName_4 : decode cX8_knotsOfName 4 = .ok (.iload_n 1, 1) := by decide +kernel
theorem dX8_knotsOfName_5 : decode cX8_knotsOfName 5 = .ok (.iload_n 2, 1) := by decide +kernel
theorem dX8_knotsOfName_6 : decode cX8_knotsOfName 6 = .ok (.invokevirtual 21, 3) := by decide +kernel
theorem dX8_knotsOfName_9 : decode cX8_knotsOfName 9 = .ok (.istore 6, 2) := by decide +kernel
theorem dX8_knotsOfName_11 : decode cX8_knotsOfName 11 = .ok (.iconst 0, 1) := by decide +kernel
theorem dX8_knotsOfName_12 : decode cX8_knotsOfName 12 = .ok (.istore 7, 2) := by decide +kernel
theorem dX8_knotsOfName_14 : decode cX8_knotsOfName 14 = .ok (.iload 7, 2) := by decide +kernel
theorem dX8_knotsOfName_16 : decode cX8_knotsOfName 16 = .ok (.iload 6, 2) := by decide +kernel
theorem dX8_knotsOfName_18 : decode cX8_knotsOfName 18 = .ok (.if_icmp .ge 36, 3) := by decide +kernel
theorem dX8_knotsOfName_21 : decode cX8_knotsOfName 21 = .ok (.iload 5, 2) := by decide +kernel
theorem dX8_knotsOfName_23 : decode cX8_knotsOfName 23 = .ok (.aload_n 0, 1) := by decide +kernel
theorem dX8_knotsOfName_24 : decode cX8_knotsOfName 24 = .ok (.iload_n 1, 1) := by decide +kernel
theorem dX8_knotsOfName_25 : decode cX8_knotsOfName 25 = .ok (.iload_n 2, 1) := by decide +kernel
theorem dX8_knotsOfName_26 : decode cX8_knotsOfName 26 = .ok (.iload 7, 2) := by decide +kernel
theorem dX8_knotsOfName_28 : decode cX8_knotsOfName 28 = .ok (.invokestatic 25, 3) := by decide +kernel
theorem dX8_knotsOfName_31 : decode cX8_knotsOfName 31 = .ok (.iload_n 3, 1) := by decide +kernel
theorem dX8_knotsOfName_32 : decode cX8_knotsOfName 32 = .ok (.iload 4, 2) := by decide +kernel
theorem dX8_knotsOfName_34 : decode cX8_knotsOfName 34 = .ok (.invokestatic 29, 3) := by decide +kernel
theorem dX8_knotsOfName_37 : decode cX8_knotsOfName 37 = .ok (.ifCond .eq 7, 3) := by decide +kernel
theorem dX8_knotsOfName_40 : decode cX8_knotsOfName 40 = .ok (.iconst 1, 1) := by decide +kernel
theorem dX8_knotsOfName_41 : decode cX8_knotsOfName 41 = .ok (.goto 4, 3) := by decide +kernel
theorem dX8_knotsOfName_44 : decode cX8_knotsOfName 44 = .ok (.iconst 0, 1) := by decide +kernel
theorem dX8_knotsOfName_45 : decode cX8_knotsOfName 45 = .ok (.iadd, 1) := by decide +kernel
theorem dX8_knotsOfName_46 : decode cX8_knotsOfName 46 = .ok (.istore 5, 2) := by decide +kernel
theorem dX8_knotsOfName_48 : decode cX8_knotsOfName 48 = .ok (.iinc 7 1, 3) := by decide +kernel
theorem dX8_knotsOfName_51 : decode cX8_knotsOfName 51 = .ok (.goto (-37), 3) := by decide +kernel
theorem dX8_knotsOfName_54 : decode cX8_knotsOfName 54 = .ok (.iload 5, 2) := by decide +kernel
theorem dX8_knotsOfName_56 : decode cX8_knotsOfName 56 = .ok (.ireturn, 1) := by decide +kernel
theorem dX8_isOfKind_0 : decode cX8_isOfKind 0 = .ok (.aload_n 0, 1) := by decide +kernel
theorem dX8_isOfKind_1 : decode cX8_isOfKind 1 = .ok (.iload_n 1, 1) := by decide +kernel
theorem dX8_isOfKind_2 : decode cX8_isOfKind 2 = .ok (.iconst 0, 1) := by decide +kernel
theorem dX8_isOfKind_3 : decode cX8_isOfKind 3 = .ok (.iadd, 1) := by decide +kernel
theorem dX8_isOfKind_4 : decode cX8_isOfKind 4 = .ok (.invokevirtual 33, 3) := by decide +kernel
theorem dX8_isOfKind_7 : decode cX8_isOfKind 7 = .ok (.istore 4, 2) := by decide +kernel
theorem dX8_isOfKind_9 : decode cX8_isOfKind 9 = .ok (.aload_n 0, 1) := by decide +kernel
theorem dX8_isOfKind_10 : decode cX8_isOfKind 10 = .ok (.iload_n 1, 1) := by decide +kernel
theorem dX8_isOfKind_11 : decode cX8_isOfKind 11 = .ok (.iconst 1, 1) := by decide +kernel
theorem dX8_isOfKind_12 : decode cX8_isOfKind 12 = .ok (.iadd, 1) := by decide +kernel
theorem dX8_isOfKind_13 : decode cX8_isOfKind 13 = .ok (.invokevirtual 33, 3) := by decide +kernel
theorem dX8_isOfKind_16 : decode cX8_isOfKind 16 = .ok (.istore 5, 2) := by decide +kernel
theorem dX8_isOfKind_18 : decode cX8_isOfKind 18 = .ok (.iload_n 2, 1) := by decide +kernel
theorem dX8_isOfKind_19 : decode cX8_isOfKind 19 = .ok (.tableswitch 65 1 3 #[25, 36, 48], 25) := by decide +kernel
theorem dX8_isOfKind_44 : decode cX8_isOfKind 44 = .ok (.iload 5, 2) := by decide +kernel
theorem dX8_isOfKind_46 : decode cX8_isOfKind 46 = .ok (.ifCond .le 7, 3) := by decide +kernel
theorem dX8_isOfKind_49 : decode cX8_isOfKind 49 = .ok (.iconst 1, 1) := by decide +kernel
theorem dX8_isOfKind_50 : decode cX8_isOfKind 50 = .ok (.goto 4, 3) := by decide +kernel
theorem dX8_isOfKind_53 : decode cX8_isOfKind 53 = .ok (.iconst 0, 1) := by decide +kernel
theorem dX8_isOfKind_54 : decode cX8_isOfKind 54 = .ok (.ireturn, 1) := by decide +kernel
theorem dX8_isOfKind_55 : decode cX8_isOfKind 55 = .ok (.iload 4, 2) := by decide +kernel
theorem dX8_isOfKind_57 : decode cX8_isOfKind 57 = .ok (.iload_n 3, 1) := by decide +kernel
theorem dX8_isOfKind_58 : decode cX8_isOfKind 58 = .ok (.if_icmp .ne 7, 3) := by decide +kernel
theorem dX8_isOfKind_61 : decode cX8_isOfKind 61 = .ok (.iconst 1, 1) := by decide +kernel
theorem dX8_isOfKind_62 : decode cX8_isOfKind 62 = .ok (.goto 4, 3) := by decide +kernel
theorem dX8_isOfKind_65 : decode cX8_isOfKind 65 = .ok (.iconst 0, 1) := by decide +kernel
theorem dX8_isOfKind_66 : decode cX8_isOfKind 66 = .ok (.ireturn, 1) := by decide +kernel
theorem dX8_isOfKind_67 : decode cX8_isOfKind 67 = .ok (.iload 4, 2) := by decide +kernel
theorem dX8_isOfKind_69 : decode cX8_isOfKind 69 = .ok (.iload 5, 2) := by decide +kernel
theorem dX8_isOfKind_71 : decode cX8_isOfKind 71 = .ok (.invokestatic 36, 3) := by decide +kernel
theorem dX8_isOfKind_74 : decode cX8_isOfKind 74 = .ok (.iload_n 3, 1) := by decide +kernel
theorem dX8_isOfKind_75 : decode cX8_isOfKind 75 = .ok (.if_icmp .ne 7, 3) := by decide +kernel
theorem dX8_isOfKind_78 : decode cX8_isOfKind 78 = .ok (.iconst 1, 1) := by decide +kernel
theorem dX8_isOfKind_79 : decode cX8_isOfKind 79 = .ok (.goto 4, 3) := by decide +kernel
theorem dX8_isOfKind_82 : decode cX8_isOfKind 82 = .ok (.iconst 0, 1) := by decide +kernel
theorem dX8_isOfKind_83 : decode cX8_isOfKind 83 = .ok (.ireturn, 1) := by decide +kernel
theorem dX8_isOfKind_84 : decode cX8_isOfKind 84 = .ok (.iconst 1, 1) := by decide +kernel
theorem dX8_isOfKind_85 : decode cX8_isOfKind 85 = .ok (.ireturn, 1) := by decide +kernel
theorem dX8_ofLetter_0 : decode cX8_ofLetter 0 = .ok (.iload_n 2, 1) := by decide +kernel
theorem dX8_ofLetter_1 : decode cX8_ofLetter 1 = .ok (.tableswitch 70 0 4 #[35, 40, 45, 50, 63], 35) := by decide +kernel
theorem dX8_ofLetter_36 : decode cX8_ofLetter 36 = .ok (.iload_n 1, 1) := by decide +kernel
theorem dX8_ofLetter_37 : decode cX8_ofLetter 37 = .ok (.invokestatic 41, 3) := by decide +kernel
theorem dX8_ofLetter_40 : decode cX8_ofLetter 40 = .ok (.ireturn, 1) := by decide +kernel
theorem dX8_ofLetter_41 : decode cX8_ofLetter 41 = .ok (.iload_n 1, 1) := by decide +kernel
theorem dX8_ofLetter_42 : decode cX8_ofLetter 42 = .ok (.invokestatic 44, 3) := by decide +kernel
theorem dX8_ofLetter_45 : decode cX8_ofLetter 45 = .ok (.ireturn, 1) := by decide +kernel
theorem dX8_ofLetter_46 : decode cX8_ofLetter 46 = .ok (.iload_n 1, 1) := by decide +kernel
theorem dX8_ofLetter_47 : decode cX8_ofLetter 47 = .ok (.invokestatic 47, 3) := by decide +kernel
theorem dX8_ofLetter_50 : decode cX8_ofLetter 50 = .ok (.ireturn, 1) := by decide +kernel
theorem dX8_ofLetter_51 : decode cX8_ofLetter 51 = .ok (.iload_n 1, 1) := by decide +kernel
theorem dX8_ofLetter_52 : decode cX8_ofLetter 52 = .ok (.invokestatic 50, 3) := by decide +kernel
theorem dX8_ofLetter_55 : decode cX8_ofLetter 55 = .ok (.ifCond .eq 7, 3) := by decide +kernel
theorem dX8_ofLetter_58 : decode cX8_ofLetter 58 = .ok (.iconst 1, 1) := by decide +kernel
theorem dX8_ofLetter_59 : decode cX8_ofLetter 59 = .ok (.goto 4, 3) := by decide +kernel
theorem dX8_ofLetter_62 : decode cX8_ofLetter 62 = .ok (.iconst 0, 1) := by decide +kernel
theorem dX8_ofLetter_63 : decode cX8_ofLetter 63 = .ok (.ireturn, 1) := by decide +kernel
theorem dX8_ofLetter_64 : decode cX8_ofLetter 64 = .ok (.aload_n 0, 1) := by decide +kernel
theorem dX8_ofLetter_65 : decode cX8_ofLetter 65 = .ok (.iconst 2, 1) := by decide +kernel
theorem dX8_ofLetter_66 : decode cX8_ofLetter 66 = .ok (.iload_n 1, 1) := by decide +kernel
theorem dX8_ofLetter_67 : decode cX8_ofLetter 67 = .ok (.invokestatic 54, 3) := by decide +kernel
theorem dX8_ofLetter_70 : decode cX8_ofLetter 70 = .ok (.ireturn, 1) := by decide +kernel
theorem dX8_ofLetter_71 : decode cX8_ofLetter 71 = .ok (.aload_n 0, 1) := by decide +kernel
theorem dX8_ofLetter_72 : decode cX8_ofLetter 72 = .ok (.iconst 3, 1) := by decide +kernel
theorem dX8_ofLetter_73 : decode cX8_ofLetter 73 = .ok (.iload_n 1, 1) := by decide +kernel
theorem dX8_ofLetter_74 : decode cX8_ofLetter 74 = .ok (.invokestatic 54, 3) := by decide +kernel
theorem dX8_ofLetter_77 : decode cX8_ofLetter 77 = .ok (.ireturn, 1) := by decide +kernel
theorem dX8_ofKnot_0 : decode cX8_ofKnot 0 = .ok (.iload_n 3, 1) := by decide +kernel
theorem dX8_ofKnot_1 : decode cX8_ofKnot 1 = .ok (.ifCond .lt 13, 3) := by decide +kernel
theorem dX8_ofKnot_4 : decode cX8_ofKnot 4 = .ok (.iload_n 3, 1) := by decide +kernel
theorem dX8_ofKnot_5 : decode cX8_ofKnot 5 = .ok (.aload_n 0, 1) := by decide +kernel
theorem dX8_ofKnot_6 : decode cX8_ofKnot 6 = .ok (.iload_n 1, 1) := by decide +kernel
theorem dX8_ofKnot_7 : decode cX8_ofKnot 7 = .ok (.iload_n 2, 1) := by decide +kernel
theorem dX8_ofKnot_8 : decode cX8_ofKnot 8 = .ok (.invokevirtual 21, 3) := by decide +kernel
theorem dX8_ofKnot_11 : decode cX8_ofKnot 11 = .ok (.if_icmp .lt 5, 3) := by decide +kernel
theorem dX8_ofKnot_14 : decode cX8_ofKnot 14 = .ok (.iconst (-1), 1) := by decide +kernel
theorem dX8_ofKnot_15 : decode cX8_ofKnot 15 = .ok (.ireturn, 1) := by decide +kernel
theorem dX8_ofKnot_16 : decode cX8_ofKnot 16 = .ok (.iload 4, 2) := by decide +kernel
theorem dX8_ofKnot_18 : decode cX8_ofKnot 18 = .ok (.lookupswitch 47 #[(0, 26), (1, 39)], 26) := by decide +kernel
theorem dX8_ofKnot_44 : decode cX8_ofKnot 44 = .ok (.aload_n 0, 1) := by decide +kernel
theorem dX8_ofKnot_45 : decode cX8_ofKnot 45 = .ok (.iload_n 1, 1) := by decide +kernel
theorem dX8_ofKnot_46 : decode cX8_ofKnot 46 = .ok (.iload_n 2, 1) := by decide +kernel
theorem dX8_ofKnot_47 : decode cX8_ofKnot 47 = .ok (.iload_n 3, 1) := by decide +kernel
theorem dX8_ofKnot_48 : decode cX8_ofKnot 48 = .ok (.invokestatic 25, 3) := by decide +kernel
theorem dX8_ofKnot_51 : decode cX8_ofKnot 51 = .ok (.iconst 0, 1) := by decide +kernel
theorem dX8_ofKnot_52 : decode cX8_ofKnot 52 = .ok (.iadd, 1) := by decide +kernel
theorem dX8_ofKnot_53 : decode cX8_ofKnot 53 = .ok (.invokevirtual 33, 3) := by decide +kernel
theorem dX8_ofKnot_56 : decode cX8_ofKnot 56 = .ok (.ireturn, 1) := by decide +kernel
theorem dX8_ofKnot_57 : decode cX8_ofKnot 57 = .ok (.aload_n 0, 1) := by decide +kernel
theorem dX8_ofKnot_58 : decode cX8_ofKnot 58 = .ok (.iload_n 1, 1) := by decide +kernel
theorem dX8_ofKnot_59 : decode cX8_ofKnot 59 = .ok (.iload_n 2, 1) := by decide +kernel
theorem dX8_ofKnot_60 : decode cX8_ofKnot 60 = .ok (.iload_n 3, 1) := by decide +kernel
theorem dX8_ofKnot_61 : decode cX8_ofKnot 61 = .ok (.invokevirtual 58, 3) := by decide +kernel
theorem dX8_ofKnot_64 : decode cX8_ofKnot 64 = .ok (.ireturn, 1) := by decide +kernel
theorem dX8_ofKnot_65 : decode cX8_ofKnot 65 = .ok (.aload_n 0, 1) := by decide +kernel
theorem dX8_ofKnot_66 : decode cX8_ofKnot 66 = .ok (.iload_n 1, 1) := by decide +kernel
theorem dX8_ofKnot_67 : decode cX8_ofKnot 67 = .ok (.iload_n 2, 1) := by decide +kernel
theorem dX8_ofKnot_68 : decode cX8_ofKnot 68 = .ok (.iload_n 3, 1) := by decide +kernel
theorem dX8_ofKnot_69 : decode cX8_ofKnot 69 = .ok (.invokevirtual 61, 3) := by decide +kernel
theorem dX8_ofKnot_72 : decode cX8_ofKnot 72 = .ok (.ireturn, 1) := by decide +kernel
theorem dX8_ofName_0 : decode cX8_ofName 0 = .ok (.iload_n 3, 1) := by decide +kernel
theorem dX8_ofName_1 : decode cX8_ofName 1 = .ok (.tableswitch 62 0 3 #[31, 38, 45, 54], 31) := by decide +kernel
theorem dX8_ofName_32 : decode cX8_ofName 32 = .ok (.aload_n 0, 1) := by decide +kernel
theorem dX8_ofName_33 : decode cX8_ofName 33 = .ok (.iload_n 1, 1) := by decide +kernel
theorem dX8_ofName_34 : decode cX8_ofName 34 = .ok (.iload_n 2, 1) := by decide +kernel
theorem dX8_ofName_35 : decode cX8_ofName 35 = .ok (.invokevirtual 21, 3) := by decide +kernel
theorem dX8_ofName_38 : decode cX8_ofName 38 = .ok (.ireturn, 1) := by decide +kernel
theorem dX8_ofName_39 : decode cX8_ofName 39 = .ok (.aload_n 0, 1) := by decide +kernel
theorem dX8_ofName_40 : decode cX8_ofName 40 = .ok (.iload_n 1, 1) := by decide +kernel
theorem dX8_ofName_41 : decode cX8_ofName 41 = .ok (.iload_n 2, 1) := by decide +kernel
theorem dX8_ofName_42 : decode cX8_ofName 42 = .ok (.invokevirtual 64, 3) := by decide +kernel
theorem dX8_ofName_45 : decode cX8_ofName 45 = .ok (.ireturn, 1) := by decide +kernel
theorem dX8_ofName_46 : decode cX8_ofName 46 = .ok (.aload_n 0, 1) := by decide +kernel
theorem dX8_ofName_47 : decode cX8_ofName 47 = .ok (.iload_n 1, 1) := by decide +kernel
theorem dX8_ofName_48 : decode cX8_ofName 48 = .ok (.iload_n 2, 1) := by decide +kernel
theorem dX8_ofName_49 : decode cX8_ofName 49 = .ok (.iconst 1, 1) := by decide +kernel
theorem dX8_ofName_50 : decode cX8_ofName 50 = .ok (.iconst (-1), 1) := by decide +kernel
theorem dX8_ofName_51 : decode cX8_ofName 51 = .ok (.invokestatic 15, 3) := by decide +kernel
theorem dX8_ofName_54 : decode cX8_ofName 54 = .ok (.ireturn, 1) := by decide +kernel
theorem dX8_ofName_55 : decode cX8_ofName 55 = .ok (.aload_n 0, 1) := by decide +kernel
theorem dX8_ofName_56 : decode cX8_ofName 56 = .ok (.iload_n 1, 1) := by decide +kernel
theorem dX8_ofName_57 : decode cX8_ofName 57 = .ok (.iload_n 2, 1) := by decide +kernel
theorem dX8_ofName_58 : decode cX8_ofName 58 = .ok (.iconst 0, 1) := by decide +kernel
theorem dX8_ofName_59 : decode cX8_ofName 59 = .ok (.invokestatic 67, 3) := by decide +kernel
theorem dX8_ofName_62 : decode cX8_ofName 62 = .ok (.ireturn, 1) := by decide +kernel
theorem dX8_ofName_63 : decode cX8_ofName 63 = .ok (.aload_n 0, 1) := by decide +kernel
theorem dX8_ofName_64 : decode cX8_ofName 64 = .ok (.iload_n 1, 1) := by decide +kernel
theorem dX8_ofName_65 : decode cX8_ofName 65 = .ok (.iload_n 2, 1) := by decide +kernel
theorem dX8_ofName_66 : decode cX8_ofName 66 = .ok (.invokestatic 73, 3) := by decide +kernel
theorem dX8_ofName_69 : decode cX8_ofName 69 = .ok (.ireturn, 1) := by decide +kernel
theorem dX8_ofFisher_0 : decode cX8_ofFisher 0 = .ok (.iload_n 2, 1) := by decide +kernel
theorem dX8_ofFisher_1 : decode cX8_ofFisher 1 = .ok (.tableswitch 63 0 3 #[31, 41, 47, 53], 31) := by decide +kernel
theorem dX8_ofFisher_32 : decode cX8_ofFisher 32 = .ok (.aload_n 0, 1) := by decide +kernel
theorem dX8_ofFisher_33 : decode cX8_ofFisher 33 = .ok (.iload_n 1, 1) := by decide +kernel
theorem dX8_ofFisher_34 : decode cX8_ofFisher 34 = .ok (.iconst 0, 1) := by decide +kernel
theorem dX8_ofFisher_35 : decode cX8_ofFisher 35 = .ok (.invokestatic 76, 3) := by decide +kernel
theorem dX8_ofFisher_38 : decode cX8_ofFisher 38 = .ok (.invokevirtual 33, 3) := by decide +kernel
theorem dX8_ofFisher_41 : decode cX8_ofFisher 41 = .ok (.ireturn, 1) := by decide +kernel
theorem dX8_ofFisher_42 : decode cX8_ofFisher 42 = .ok (.aload_n 0, 1) := by decide +kernel
theorem dX8_ofFisher_43 : decode cX8_ofFisher 43 = .ok (.iload_n 1, 1) := by decide +kernel
theorem dX8_ofFisher_44 : decode cX8_ofFisher 44 = .ok (.invokevirtual 9, 3) := by decide +kernel
theorem dX8_ofFisher_47 : decode cX8_ofFisher 47 = .ok (.ireturn, 1) := by decide +kernel
theorem dX8_ofFisher_48 : decode cX8_ofFisher 48 = .ok (.aload_n 0, 1) := by decide +kernel
theorem dX8_ofFisher_49 : decode cX8_ofFisher 49 = .ok (.iload_n 1, 1) := by decide +kernel
theorem dX8_ofFisher_50 : decode cX8_ofFisher 50 = .ok (.invokevirtual 79, 3) := by decide +kernel
theorem dX8_ofFisher_53 : decode cX8_ofFisher 53 = .ok (.ireturn, 1) := by decide +kernel
theorem dX8_ofFisher_54 : decode cX8_ofFisher 54 = .ok (.aload_n 0, 1) := by decide +kernel
theorem dX8_ofFisher_55 : decode cX8_ofFisher 55 = .ok (.iload_n 1, 1) := by decide +kernel
theorem dX8_ofFisher_56 : decode cX8_ofFisher 56 = .ok (.iconst 2, 1) := by decide +kernel
theorem dX8_ofFisher_57 : decode cX8_ofFisher 57 = .ok (.invokestatic 76, 3) := by decide +kernel
theorem dX8_ofFisher_60 : decode cX8_ofFisher 60 = .ok (.invokevirtual 33, 3) := by decide +kernel
theorem dX8_ofFisher_63 : decode cX8_ofFisher 63 = .ok (.ireturn, 1) := by decide +kernel
theorem dX8_ofFisher_64 : decode cX8_ofFisher 64 = .ok (.aload_n 0, 1) := by decide +kernel
theorem dX8_ofFisher_65 : decode cX8_ofFisher 65 = .ok (.iload_n 1, 1) := by decide +kernel
theorem dX8_ofFisher_66 : decode cX8_ofFisher 66 = .ok (.iconst 3, 1) := by decide +kernel
theorem dX8_ofFisher_67 : decode cX8_ofFisher 67 = .ok (.invokestatic 76, 3) := by decide +kernel
theorem dX8_ofFisher_70 : decode cX8_ofFisher 70 = .ok (.invokevirtual 33, 3) := by decide +kernel
theorem dX8_ofFisher_73 : decode cX8_ofFisher 73 = .ok (.ireturn, 1) := by decide +kernel
theorem dX8_ofAll_0 : decode cX8_ofAll 0 = .ok (.iload_n 1, 1) := by decide +kernel
theorem dX8_ofAll_1 : decode cX8_ofAll 1 = .ok (.tableswitch 133 0 11 #[63, 68, 74, 79, 84, 90, 97, 104, 110, 116, 122, 127], 63) := by decide +kernel
theorem dX8_ofAll_64 : decode cX8_ofAll 64 = .ok (.aload_n 0, 1) := by decide +kernel
theorem dX8_ofAll_65 : decode cX8_ofAll 65 = .ok (.invokestatic 82, 3) := by decide +kernel
theorem dX8_ofAll_68 : decode cX8_ofAll 68 = .ok (.ireturn, 1) := by decide +kernel
theorem dX8_ofAll_69 : decode cX8_ofAll 69 = .ok (.aload_n 0, 1) := by decide +kernel
theorem dX8_ofAll_70 : decode cX8_ofAll 70 = .ok (.iconst 0, 1) := by decide +kernel
theorem dX8_ofAll_71 : decode cX8_ofAll 71 = .ok (.invokevirtual 33, 3) := by decide +kernel
theorem dX8_ofAll_74 : decode cX8_ofAll 74 = .ok (.ireturn, 1) := by decide +kernel
theorem dX8_ofAll_75 : decode cX8_ofAll 75 = .ok (.aload_n 0, 1) := by decide +kernel
theorem dX8_ofAll_76 : decode cX8_ofAll 76 = .ok (.invokestatic 85, 3) := by decide +kernel
theorem dX8_ofAll_79 : decode cX8_ofAll 79 = .ok (.ireturn, 1) := by decide +kernel
theorem dX8_ofAll_80 : decode cX8_ofAll 80 = .ok (.aload_n 0, 1) := by decide +kernel
theorem dX8_ofAll_81 : decode cX8_ofAll 81 = .ok (.invokestatic 88, 3) := by decide +kernel
theorem dX8_ofAll_84 : decode cX8_ofAll 84 = .ok (.ireturn, 1) := by decide +kernel
theorem dX8_ofAll_85 : decode cX8_ofAll 85 = .ok (.aload_n 0, 1) := by decide +kernel
theorem dX8_ofAll_86 : decode cX8_ofAll 86 = .ok (.iconst 4, 1) := by decide +kernel
theorem dX8_ofAll_87 : decode cX8_ofAll 87 = .ok (.invokevirtual 33, 3) := by decide +kernel
theorem dX8_ofAll_90 : decode cX8_ofAll 90 = .ok (.ireturn, 1) := by decide +kernel
theorem dX8_ofAll_91 : decode cX8_ofAll 91 = .ok (.aload_n 0, 1) := by decide +kernel
theorem dX8_ofAll_92 : decode cX8_ofAll 92 = .ok (.iconst 1, 1) := by decide +kernel
theorem dX8_ofAll_93 : decode cX8_ofAll 93 = .ok (.iconst (-1), 1) := by decide +kernel
theorem dX8_ofAll_94 : decode cX8_ofAll 94 = .ok (.invokestatic 54, 3) := by decide +kernel
theorem dX8_ofAll_97 : decode cX8_ofAll 97 = .ok (.ireturn, 1) := by decide +kernel
theorem dX8_ofAll_98 : decode cX8_ofAll 98 = .ok (.aload_n 0, 1) := by decide +kernel
theorem dX8_ofAll_99 : decode cX8_ofAll 99 = .ok (.bipush 7, 2) := by decide +kernel
theorem dX8_ofAll_101 : decode cX8_ofAll 101 = .ok (.invokevirtual 33, 3) := by decide +kernel
theorem dX8_ofAll_104 : decode cX8_ofAll 104 = .ok (.ireturn, 1) := by decide +kernel
theorem dX8_ofAll_105 : decode cX8_ofAll 105 = .ok (.aload_n 0, 1) := by decide +kernel
theorem dX8_ofAll_106 : decode cX8_ofAll 106 = .ok (.iconst 2, 1) := by decide +kernel
theorem dX8_ofAll_107 : decode cX8_ofAll 107 = .ok (.invokestatic 91, 3) := by decide +kernel
theorem dX8_ofAll_110 : decode cX8_ofAll 110 = .ok (.ireturn, 1) := by decide +kernel
theorem dX8_ofAll_111 : decode cX8_ofAll 111 = .ok (.aload_n 0, 1) := by decide +kernel
theorem dX8_ofAll_112 : decode cX8_ofAll 112 = .ok (.iconst 3, 1) := by decide +kernel
theorem dX8_ofAll_113 : decode cX8_ofAll 113 = .ok (.invokestatic 91, 3) := by decide +kernel
theorem dX8_ofAll_116 : decode cX8_ofAll 116 = .ok (.ireturn, 1) := by decide +kernel
theorem dX8_ofAll_117 : decode cX8_ofAll 117 = .ok (.aload_n 0, 1) := by decide +kernel
theorem dX8_ofAll_118 : decode cX8_ofAll 118 = .ok (.iconst 3, 1) := by decide +kernel
theorem dX8_ofAll_119 : decode cX8_ofAll 119 = .ok (.invokevirtual 33, 3) := by decide +kernel
theorem dX8_ofAll_122 : decode cX8_ofAll 122 = .ok (.ireturn, 1) := by decide +kernel
theorem dX8_ofAll_123 : decode cX8_ofAll 123 = .ok (.aload_n 0, 1) := by decide +kernel
theorem dX8_ofAll_124 : decode cX8_ofAll 124 = .ok (.invokestatic 95, 3) := by decide +kernel
theorem dX8_ofAll_127 : decode cX8_ofAll 127 = .ok (.ireturn, 1) := by decide +kernel
theorem dX8_ofAll_128 : decode cX8_ofAll 128 = .ok (.aload_n 0, 1) := by decide +kernel
theorem dX8_ofAll_129 : decode cX8_ofAll 129 = .ok (.iconst 1, 1) := by decide +kernel
theorem dX8_ofAll_130 : decode cX8_ofAll 130 = .ok (.invokevirtual 33, 3) := by decide +kernel
theorem dX8_ofAll_133 : decode cX8_ofAll 133 = .ok (.ireturn, 1) := by decide +kernel
theorem dX8_ofAll_134 : decode cX8_ofAll 134 = .ok (.aload_n 0, 1) := by decide +kernel
theorem dX8_ofAll_135 : decode cX8_ofAll 135 = .ok (.iconst 2, 1) := by decide +kernel
theorem dX8_ofAll_136 : decode cX8_ofAll 136 = .ok (.invokevirtual 33, 3) := by decide +kernel
theorem dX8_ofAll_139 : decode cX8_ofAll 139 = .ok (.ireturn, 1) := by decide +kernel
theorem dX8_names_0 : decode cX8_names 0 = .ok (.aload_n 0, 1) := by decide +kernel
theorem dX8_names_1 : decode cX8_names 1 = .ok (.iconst 1, 1) := by decide +kernel
theorem dX8_names_2 : decode cX8_names 2 = .ok (.invokestatic 91, 3) := by decide +kernel
theorem dX8_names_5 : decode cX8_names 5 = .ok (.ireturn, 1) := by decide +kernel
theorem dX8_ofFishers_0 : decode cX8_ofFishers 0 = .ok (.iconst 0, 1) := by decide +kernel
theorem dX8_ofFishers_1 : decode cX8_ofFishers 1 = .ok (.istore_n 2, 1) := by decide +kernel
theorem dX8_ofFishers_2 : decode cX8_ofFishers 2 = .ok (.iconst 0, 1) := by decide +kernel
theorem dX8_ofFishers_3 : decode cX8_ofFishers 3 = .ok (.istore_n 3, 1) := by decide +kernel
theorem dX8_ofFishers_4 : decode cX8_ofFishers 4 = .ok (.iload_n 3, 1) := by decide +kernel
theorem dX8_ofFishers_5 : decode cX8_ofFishers 5 = .ok (.iconst 5, 1) := by decide +kernel
theorem dX8_ofFishers_6 : decode cX8_ofFishers 6 = .ok (.if_icmp .ge 21, 3) := by decide +kernel
theorem dX8_ofFishers_9 : decode cX8_ofFishers 9 = .ok (.iload_n 2, 1) := by decide +kernel
theorem dX8_ofFishers_10 : decode cX8_ofFishers 10 = .ok (.aload_n 0, 1) := by decide +kernel
theorem dX8_ofFishers_11 : decode cX8_ofFishers 11 = .ok (.iload_n 3, 1) := by decide +kernel
theorem dX8_ofFishers_12 : decode cX8_ofFishers 12 = .ok (.iload_n 1, 1) := by decide +kernel
theorem dX8_ofFishers_13 : decode cX8_ofFishers 13 = .ok (.invokestatic 76, 3) := by decide +kernel
theorem dX8_ofFishers_16 : decode cX8_ofFishers 16 = .ok (.invokevirtual 33, 3) := by decide +kernel
theorem dX8_ofFishers_19 : decode cX8_ofFishers 19 = .ok (.iadd, 1) := by decide +kernel
theorem dX8_ofFishers_20 : decode cX8_ofFishers 20 = .ok (.istore_n 2, 1) := by decide +kernel
theorem dX8_ofFishers_21 : decode cX8_ofFishers 21 = .ok (.iinc 3 1, 3) := by decide +kernel
theorem dX8_ofFishers_24 : decode cX8_ofFishers 24 = .ok (.goto (-20), 3) := by decide +kernel
theorem dX8_ofFishers_27 : decode cX8_ofFishers 27 = .ok (.iload_n 2, 1) := by decide +kernel
theorem dX8_ofFishers_28 : decode cX8_ofFishers 28 = .ok (.ireturn, 1) := by decide +kernel
theorem dX8_cordByNames_0 : decode cX8_cordByNames 0 = .ok (.iconst 0, 1) := by decide +kernel
theorem dX8_cordByNames_1 : decode cX8_cordByNames 1 = .ok (.istore_n 1, 1) := by decide +kernel
theorem dX8_cordByNames_2 : decode cX8_cordByNames 2 = .ok (.iconst 0, 1) := by decide +kernel
theorem dX8_cordByNames_3 : decode cX8_cordByNames 3 = .ok (.istore_n 2, 1) := by decide +kernel
theorem dX8_cordByNames_4 : decode cX8_cordByNames 4 = .ok (.iload_n 2, 1) := by decide +kernel
theorem dX8_cordByNames_5 : decode cX8_cordByNames 5 = .ok (.iconst 5, 1) := by decide +kernel
theorem dX8_cordByNames_6 : decode cX8_cordByNames 6 = .ok (.if_icmp .ge 40, 3) := by decide +kernel
theorem dX8_cordByNames_9 : decode cX8_cordByNames 9 = .ok (.aload_n 0, 1) := by decide +kernel
theorem dX8_cordByNames_10 : decode cX8_cordByNames 10 = .ok (.iload_n 2, 1) := by decide +kernel
theorem dX8_cordByNames_11 : decode cX8_cordByNames 11 = .ok (.invokevirtual 9, 3) := by decide +kernel
theorem dX8_cordByNames_14 : decode cX8_cordByNames 14 = .ok (.istore_n 3, 1) := by decide +kernel
theorem dX8_cordByNames_15 : decode cX8_cordByNames 15 = .ok (.iconst 0, 1) := by decide +kernel
theorem dX8_cordByNames_16 : decode cX8_cordByNames 16 = .ok (.istore 4, 2) := by decide +kernel
theorem dX8_cordByNames_18 : decode cX8_cordByNames 18 = .ok (.iload 4, 2) := by decide +kernel
theorem dX8_cordByNames_20 : decode cX8_cordByNames 20 = .ok (.iload_n 3, 1) := by decide +kernel
theorem dX8_cordByNames_21 : decode cX8_cordByNames 21 = .ok (.if_icmp .ge 19, 3) := by decide +kernel
theorem dX8_cordByNames_24 : decode cX8_cordByNames 24 = .ok (.iload_n 1, 1) := by decide +kernel
theorem dX8_cordByNames_25 : decode cX8_cordByNames 25 = .ok (.aload_n 0, 1) := by decide +kernel
theorem dX8_cordByNames_26 : decode cX8_cordByNames 26 = .ok (.iload_n 2, 1) := by decide +kernel
theorem dX8_cordByNames_27 : decode cX8_cordByNames 27 = .ok (.iload 4, 2) := by decide +kernel
theorem dX8_cordByNames_29 : decode cX8_cordByNames 29 = .ok (.invokevirtual 64, 3) := by decide +kernel
theorem dX8_cordByNames_32 : decode cX8_cordByNames 32 = .ok (.iadd, 1) := by decide +kernel
theorem dX8_cordByNames_33 : decode cX8_cordByNames 33 = .ok (.istore_n 1, 1) := by decide +kernel
theorem dX8_cordByNames_34 : decode cX8_cordByNames 34 = .ok (.iinc 4 1, 3) := by decide +kernel
theorem dX8_cordByNames_37 : decode cX8_cordByNames 37 = .ok (.goto (-19), 3) := by decide +kernel
theorem dX8_cordByNames_40 : decode cX8_cordByNames 40 = .ok (.iinc 2 1, 3) := by decide +kernel
theorem dX8_cordByNames_43 : decode cX8_cordByNames 43 = .ok (.goto (-39), 3) := by decide +kernel
theorem dX8_cordByNames_46 : decode cX8_cordByNames 46 = .ok (.iload_n 1, 1) := by decide +kernel
theorem dX8_cordByNames_47 : decode cX8_cordByNames 47 = .ok (.ireturn, 1) := by decide +kernel
theorem dX8_cordByLetters_0 : decode cX8_cordByLetters 0 = .ok (.iconst 2, 1) := by decide +kernel
theorem dX8_cordByLetters_1 : decode cX8_cordByLetters 1 = .ok (.aload_n 0, 1) := by decide +kernel
theorem dX8_cordByLetters_2 : decode cX8_cordByLetters 2 = .ok (.invokestatic 82, 3) := by decide +kernel
theorem dX8_cordByLetters_5 : decode cX8_cordByLetters 5 = .ok (.imul, 1) := by decide +kernel
theorem dX8_cordByLetters_6 : decode cX8_cordByLetters 6 = .ok (.istore_n 1, 1) := by decide +kernel
theorem dX8_cordByLetters_7 : decode cX8_cordByLetters 7 = .ok (.iconst 0, 1) := by decide +kernel
theorem dX8_cordByLetters_8 : decode cX8_cordByLetters 8 = .ok (.istore_n 2, 1) := by decide +kernel
theorem dX8_cordByLetters_9 : decode cX8_cordByLetters 9 = .ok (.iload_n 2, 1) := by decide +kernel
theorem dX8_cordByLetters_10 : decode cX8_cordByLetters 10 = .ok (.bipush 16, 2) := by decide +kernel
theorem dX8_cordByLetters_12 : decode cX8_cordByLetters 12 = .ok (.if_icmp .ge 27, 3) := by decide +kernel
theorem dX8_cordByLetters_15 : decode cX8_cordByLetters 15 = .ok (.iload_n 2, 1) := by decide +kernel
theorem dX8_cordByLetters_16 : decode cX8_cordByLetters 16 = .ok (.invokestatic 47, 3) := by decide +kernel
theorem dX8_cordByLetters_19 : decode cX8_cordByLetters 19 = .ok (.iconst 1, 1) := by decide +kernel
theorem dX8_cordByLetters_20 : decode cX8_cordByLetters 20 = .ok (.iadd, 1) := by decide +kernel
theorem dX8_cordByLetters_21 : decode cX8_cordByLetters 21 = .ok (.istore_n 3, 1) := by decide +kernel
theorem dX8_cordByLetters_22 : decode cX8_cordByLetters 22 = .ok (.iload_n 1, 1) := by decide +kernel
theorem dX8_cordByLetters_23 : decode cX8_cordByLetters 23 = .ok (.aload_n 0, 1) := by decide +kernel
theorem dX8_cordByLetters_24 : decode cX8_cordByLetters 24 = .ok (.iconst 2, 1) := by decide +kernel
theorem dX8_cordByLetters_25 : decode cX8_cordByLetters 25 = .ok (.iload_n 2, 1) := by decide +kernel
theorem dX8_cordByLetters_26 : decode cX8_cordByLetters 26 = .ok (.invokestatic 54, 3) := by decide +kernel
theorem dX8_cordByLetters_29 : decode cX8_cordByLetters 29 = .ok (.iload_n 3, 1) := by decide +kernel
theorem dX8_cordByLetters_30 : decode cX8_cordByLetters 30 = .ok (.imul, 1) := by decide +kernel
theorem dX8_cordByLetters_31 : decode cX8_cordByLetters 31 = .ok (.iadd, 1) := by decide +kernel
theorem dX8_cordByLetters_32 : decode cX8_cordByLetters 32 = .ok (.istore_n 1, 1) := by decide +kernel
theorem dX8_cordByLetters_33 : decode cX8_cordByLetters 33 = .ok (.iinc 2 1, 3) := by decide +kernel
theorem dX8_cordByLetters_36 : decode cX8_cordByLetters 36 = .ok (.goto (-27), 3) := by decide +kernel
theorem dX8_cordByLetters_39 : decode cX8_cordByLetters 39 = .ok (.iload_n 1, 1) := by decide +kernel
theorem dX8_cordByLetters_40 : decode cX8_cordByLetters 40 = .ok (.ireturn, 1) := by decide +kernel
theorem dX8_fishersWithSharedNames_0 : decode cX8_fishersWithSharedNames 0 = .ok (.iconst 0, 1) := by decide +kernel
theorem dX8_fishersWithSharedNames_1 : decode cX8_fishersWithSharedNames 1 = .ok (.istore_n 1, 1) := by decide +kernel
theorem dX8_fishersWithSharedNames_2 : decode cX8_fishersWithSharedNames 2 = .ok (.iconst 0, 1) := by decide +kernel
theorem dX8_fishersWithSharedNames_3 : decode cX8_fishersWithSharedNames 3 = .ok (.istore_n 2, 1) := by decide +kernel
theorem dX8_fishersWithSharedNames_4 : decode cX8_fishersWithSharedNames 4 = .ok (.iload_n 2, 1) := by decide +kernel
theorem dX8_fishersWithSharedNames_5 : decode cX8_fishersWithSharedNames 5 = .ok (.iconst 5, 1) := by decide +kernel
theorem dX8_fishersWithSharedNames_6 : decode cX8_fishersWithSharedNames 6 = .ok (.if_icmp .ge 43, 3) := by decide +kernel
theorem dX8_fishersWithSharedNames_9 : decode cX8_fishersWithSharedNames 9 = .ok (.iload_n 2, 1) := by decide +kernel
theorem dX8_fishersWithSharedNames_10 : decode cX8_fishersWithSharedNames 10 = .ok (.iconst 1, 1) := by decide +kernel
theorem dX8_fishersWithSharedNames_11 : decode cX8_fishersWithSharedNames 11 = .ok (.iadd, 1) := by decide +kernel
theorem dX8_fishersWithSharedNames_12 : decode cX8_fishersWithSharedNames 12 = .ok (.istore_n 3, 1) := by decide +kernel
theorem dX8_fishersWithSharedNames_13 : decode cX8_fishersWithSharedNames 13 = .ok (.iload_n 3, 1) := by decide +kernel
theorem dX8_fishersWithSharedNames_14 : decode cX8_fishersWithSharedNames 14 = .ok (.iconst 5, 1) := by decide +kernel
theorem dX8_fishersWithSharedNames_15 : decode cX8_fishersWithSharedNames 15 = .ok (.if_icmp .ge 28, 3) := by decide +kernel
theorem dX8_fishersWithSharedNames_18 : decode cX8_fishersWithSharedNames 18 = .ok (.aload_n 0, 1) := by decide +kernel
theorem dX8_fishersWithSharedNames_19 : decode cX8_fishersWithSharedNames 19 = .ok (.iload_n 2, 1) := by decide +kernel
theorem dX8_fishersWithSharedNames_20 : decode cX8_fishersWithSharedNames 20 = .ok (.iload_n 3, 1) := by decide +kernel
theorem dX8_fishersWithSharedNames_21 : decode cX8_fishersWithSharedNames 21 = .ok (.invokestatic 98, 3) := by decide +kernel
theorem dX8_fishersWithSharedNames_24 : decode cX8_fishersWithSharedNames 24 = .ok (.ifCond .eq 13, 3) := by decide +kernel
theorem dX8_fishersWithSharedNames_27 : decode cX8_fishersWithSharedNames 27 = .ok (.iload_n 1, 1) := by decide +kernel
theorem dX8_fishersWithSharedNames_28 : decode cX8_fishersWithSharedNames 28 = .ok (.iconst 1, 1) := by decide +kernel
theorem dX8_fishersWithSharedNames_29 : decode cX8_fishersWithSharedNames 29 = .ok (.iload_n 2, 1) := by decide +kernel
theorem dX8_fishersWithSharedNames_30 : decode cX8_fishersWithSharedNames 30 = .ok (.ishl, 1) := by decide +kernel
theorem dX8_fishersWithSharedNames_31 : decode cX8_fishersWithSharedNames 31 = .ok (.iconst 1, 1) := by decide +kernel
theorem dX8_fishersWithSharedNames_32 : decode cX8_fishersWithSharedNames 32 = .ok (.iload_n 3, 1) := by decide +kernel
theorem dX8_fishersWithSharedNames_33 : decode cX8_fishersWithSharedNames 33 = .ok (.ishl, 1) := by decide +kernel
theorem dX8_fishersWithSharedNames_34 : decode cX8_fishersWithSharedNames 34 = .ok (.ior, 1) := by decide +kernel
theorem dX8_fishersWithSharedNames_35 : decode cX8_fishersWithSharedNames 35 = .ok (.ior, 1) := by decide +kernel
theorem dX8_fishersWithSharedNames_36 : decode cX8_fishersWithSharedNames 36 = .ok (.istore_n 1, 1) := by decide +kernel
theorem dX8_fishersWithSharedNames_37 : decode cX8_fishersWithSharedNames 37 = .ok (.iinc 3 1, 3) := by decide +kernel
theorem dX8_fishersWithSharedNames_40 : decode cX8_fishersWithSharedNames 40 = .ok (.goto (-27), 3) := by decide +kernel
theorem dX8_fishersWithSharedNames_43 : decode cX8_fishersWithSharedNames 43 = .ok (.iinc 2 1, 3) := by decide +kernel
theorem dX8_fishersWithSharedNames_46 : decode cX8_fishersWithSharedNames 46 = .ok (.goto (-42), 3) := by decide +kernel
theorem dX8_fishersWithSharedNames_49 : decode cX8_fishersWithSharedNames 49 = .ok (.iload_n 1, 1) := by decide +kernel
theorem dX8_fishersWithSharedNames_50 : decode cX8_fishersWithSharedNames 50 = .ok (.ireturn, 1) := by decide +kernel
theorem dX8_share_0 : decode cX8_share 0 = .ok (.aload_n 0, 1) := by decide +kernel
theorem dX8_share_1 : decode cX8_share 1 = .ok (.iload_n 1, 1) := by decide +kernel
theorem dX8_share_2 : decode cX8_share 2 = .ok (.invokevirtual 9, 3) := by decide +kernel
theorem dX8_share_5 : decode cX8_share 5 = .ok (.istore_n 3, 1) := by decide +kernel
theorem dX8_share_6 : decode cX8_share 6 = .ok (.aload_n 0, 1) := by decide +kernel
theorem dX8_share_7 : decode cX8_share 7 = .ok (.iload_n 2, 1) := by decide +kernel
theorem dX8_share_8 : decode cX8_share 8 = .ok (.invokevirtual 9, 3) := by decide +kernel
theorem dX8_share_11 : decode cX8_share 11 = .ok (.istore 4, 2) := by decide +kernel
theorem dX8_share_13 : decode cX8_share 13 = .ok (.iconst 0, 1) := by decide +kernel
theorem dX8_share_14 : decode cX8_share 14 = .ok (.istore 5, 2) := by decide +kernel
theorem dX8_share_16 : decode cX8_share 16 = .ok (.iload 5, 2) := by decide +kernel
theorem dX8_share_18 : decode cX8_share 18 = .ok (.iload_n 3, 1) := by decide +kernel
theorem dX8_share_19 : decode cX8_share 19 = .ok (.if_icmp .ge 40, 3) := by decide +kernel
theorem dX8_share_22 : decode cX8_share 22 = .ok (.iconst 0, 1) := by decide +kernel
theorem dX8_share_23 : decode cX8_share 23 = .ok (.istore 6, 2) := by decide +kernel
theorem dX8_share_25 : decode cX8_share 25 = .ok (.iload 6, 2) := by decide +kernel
theorem dX8_share_27 : decode cX8_share 27 = .ok (.iload 4, 2) := by decide +kernel
theorem dX8_share_29 : decode cX8_share 29 = .ok (.if_icmp .ge 24, 3) := by decide +kernel
theorem dX8_share_32 : decode cX8_share 32 = .ok (.aload_n 0, 1) := by decide +kernel
theorem dX8_share_33 : decode cX8_share 33 = .ok (.iload_n 1, 1) := by decide +kernel
theorem dX8_share_34 : decode cX8_share 34 = .ok (.iload 5, 2) := by decide +kernel
theorem dX8_share_36 : decode cX8_share 36 = .ok (.iload_n 2, 1) := by decide +kernel
theorem dX8_share_37 : decode cX8_share 37 = .ok (.iload 6, 2) := by decide +kernel
theorem dX8_share_39 : decode cX8_share 39 = .ok (.invokestatic 102, 3) := by decide +kernel
theorem dX8_share_42 : decode cX8_share 42 = .ok (.ifCond .eq 5, 3) := by decide +kernel
theorem dX8_share_45 : decode cX8_share 45 = .ok (.iconst 1, 1) := by decide +kernel
theorem dX8_share_46 : decode cX8_share 46 = .ok (.ireturn, 1) := by decide +kernel
theorem dX8_share_47 : decode cX8_share 47 = .ok (.iinc 6 1, 3) := by decide +kernel
theorem dX8_share_50 : decode cX8_share 50 = .ok (.goto (-25), 3) := by decide +kernel
theorem dX8_share_53 : decode cX8_share 53 = .ok (.iinc 5 1, 3) := by decide +kernel
theorem dX8_share_56 : decode cX8_share 56 = .ok (.goto (-40), 3) := by decide +kernel
theorem dX8_share_59 : decode cX8_share 59 = .ok (.iconst 0, 1) := by decide +kernel
theorem dX8_share_60 : decode cX8_share 60 = .ok (.ireturn, 1) := by decide +kernel
theorem dX8_readAlike_0 : decode cX8_readAlike 0 = .ok (.aload_n 0, 1) := by decide +kernel
theorem dX8_readAlike_1 : decode cX8_readAlike 1 = .ok (.iload_n 1, 1) := by decide +kernel
theorem dX8_readAlike_2 : decode cX8_readAlike 2 = .ok (.iload_n 2, 1) := by decide +kernel
theorem dX8_readAlike_3 : decode cX8_readAlike 3 = .ok (.invokevirtual 21, 3) := by decide +kernel
theorem dX8_readAlike_6 : decode cX8_readAlike 6 = .ok (.istore 5, 2) := by decide +kernel
theorem dX8_readAlike_8 : decode cX8_readAlike 8 = .ok (.iload 5, 2) := by decide +kernel
theorem dX8_readAlike_10 : decode cX8_readAlike 10 = .ok (.aload_n 0, 1) := by decide +kernel
theorem dX8_readAlike_11 : decode cX8_readAlike 11 = .ok (.iload_n 3, 1) := by decide +kernel
theorem dX8_readAlike_12 : decode cX8_readAlike 12 = .ok (.iload 4, 2) := by decide +kernel
theorem dX8_readAlike_14 : decode cX8_readAlike 14 = .ok (.invokevirtual 21, 3) := by decide +kernel
theorem dX8_readAlike_17 : decode cX8_readAlike 17 = .ok (.if_icmp .eq 5, 3) := by decide +kernel
theorem dX8_readAlike_20 : decode cX8_readAlike 20 = .ok (.iconst 0, 1) := by decide +kernel
theorem dX8_readAlike_21 : decode cX8_readAlike 21 = .ok (.ireturn, 1) := by decide +kernel
theorem dX8_readAlike_22 : decode cX8_readAlike 22 = .ok (.iconst 0, 1) := by decide +kernel
theorem dX8_readAlike_23 : decode cX8_readAlike 23 = .ok (.istore 6, 2) := by decide +kernel
theorem dX8_readAlike_25 : decode cX8_readAlike 25 = .ok (.iload 6, 2) := by decide +kernel
theorem dX8_readAlike_27 : decode cX8_readAlike 27 = .ok (.iload 5, 2) := by decide +kernel
theorem dX8_readAlike_29 : decode cX8_readAlike 29 = .ok (.if_icmp .ge 31, 3) := by decide +kernel
theorem dX8_readAlike_32 : decode cX8_readAlike 32 = .ok (.aload_n 0, 1) := by decide +kernel
theorem dX8_readAlike_33 : decode cX8_readAlike 33 = .ok (.iload_n 1, 1) := by decide +kernel
theorem dX8_readAlike_34 : decode cX8_readAlike 34 = .ok (.iload_n 2, 1) := by decide +kernel
theorem dX8_readAlike_35 : decode cX8_readAlike 35 = .ok (.iload 6, 2) := by decide +kernel
theorem dX8_readAlike_37 : decode cX8_readAlike 37 = .ok (.invokevirtual 58, 3) := by decide +kernel
theorem dX8_readAlike_40 : decode cX8_readAlike 40 = .ok (.aload_n 0, 1) := by decide +kernel
theorem dX8_readAlike_41 : decode cX8_readAlike 41 = .ok (.iload_n 3, 1) := by decide +kernel
theorem dX8_readAlike_42 : decode cX8_readAlike 42 = .ok (.iload 4, 2) := by decide +kernel
theorem dX8_readAlike_44 : decode cX8_readAlike 44 = .ok (.iload 6, 2) := by decide +kernel
theorem dX8_readAlike_46 : decode cX8_readAlike 46 = .ok (.invokevirtual 58, 3) := by decide +kernel
theorem dX8_readAlike_49 : decode cX8_readAlike 49 = .ok (.if_icmp .eq 5, 3) := by decide +kernel
theorem dX8_readAlike_52 : decode cX8_readAlike 52 = .ok (.iconst 0, 1) := by decide +kernel
theorem dX8_readAlike_53 : decode cX8_readAlike 53 = .ok (.ireturn, 1) := by decide +kernel
theorem dX8_readAlike_54 : decode cX8_readAlike 54 = .ok (.iinc 6 1, 3) := by decide +kernel
theorem dX8_readAlike_57 : decode cX8_readAlike 57 = .ok (.goto (-32), 3) := by decide +kernel
theorem dX8_readAlike_60 : decode cX8_readAlike 60 = .ok (.iconst 1, 1) := by decide +kernel
theorem dX8_readAlike_61 : decode cX8_readAlike 61 = .ok (.ireturn, 1) := by decide +kernel
theorem dX8_codeOfBelt_0 : decode cX8_codeOfBelt 0 = .ok (.aload_n 0, 1) := by decide +kernel
theorem dX8_codeOfBelt_1 : decode cX8_codeOfBelt 1 = .ok (.iload_n 1, 1) := by decide +kernel
theorem dX8_codeOfBelt_2 : decode cX8_codeOfBelt 2 = .ok (.invokevirtual 9, 3) := by decide +kernel
theorem dX8_codeOfBelt_5 : decode cX8_codeOfBelt 5 = .ok (.istore_n 3, 1) := by decide +kernel
theorem dX8_codeOfBelt_6 : decode cX8_codeOfBelt 6 = .ok (.iconst 0, 1) := by decide +kernel
theorem dX8_codeOfBelt_7 : decode cX8_codeOfBelt 7 = .ok (.istore 4, 2) := by decide +kernel
theorem dX8_codeOfBelt_9 : decode cX8_codeOfBelt 9 = .ok (.iconst 0, 1) := by decide +kernel
theorem dX8_codeOfBelt_10 : decode cX8_codeOfBelt 10 = .ok (.istore 5, 2) := by decide +kernel
theorem dX8_codeOfBelt_12 : decode cX8_codeOfBelt 12 = .ok (.iload 5, 2) := by decide +kernel
theorem dX8_codeOfBelt_14 : decode cX8_codeOfBelt 14 = .ok (.iload_n 3, 1) := by decide +kernel
theorem dX8_codeOfBelt_15 : decode cX8_codeOfBelt 15 = .ok (.if_icmp .ge 75, 3) := by decide +kernel
theorem dX8_codeOfBelt_18 : decode cX8_codeOfBelt 18 = .ok (.iload_n 2, 1) := by decide +kernel
theorem dX8_codeOfBelt_19 : decode cX8_codeOfBelt 19 = .ok (.iload 4, 2) := by decide +kernel
theorem dX8_codeOfBelt_21 : decode cX8_codeOfBelt 21 = .ok (.isub, 1) := by decide +kernel
theorem dX8_codeOfBelt_22 : decode cX8_codeOfBelt 22 = .ok (.istore 6, 2) := by decide +kernel
theorem dX8_codeOfBelt_24 : decode cX8_codeOfBelt 24 = .ok (.aload_n 0, 1) := by decide +kernel
theorem dX8_codeOfBelt_25 : decode cX8_codeOfBelt 25 = .ok (.iload_n 1, 1) := by decide +kernel
theorem dX8_codeOfBelt_26 : decode cX8_codeOfBelt 26 = .ok (.iload 5, 2) := by decide +kernel
theorem dX8_codeOfBelt_28 : decode cX8_codeOfBelt 28 = .ok (.invokevirtual 21, 3) := by decide +kernel
theorem dX8_codeOfBelt_31 : decode cX8_codeOfBelt 31 = .ok (.istore 7, 2) := by decide +kernel
theorem dX8_codeOfBelt_33 : decode cX8_codeOfBelt 33 = .ok (.iload 6, 2) := by decide +kernel
theorem dX8_codeOfBelt_35 : decode cX8_codeOfBelt 35 = .ok (.iload 7, 2) := by decide +kernel
theorem dX8_codeOfBelt_37 : decode cX8_codeOfBelt 37 = .ok (.if_icmp .ge 16, 3) := by decide +kernel
theorem dX8_codeOfBelt_40 : decode cX8_codeOfBelt 40 = .ok (.aload_n 0, 1) := by decide +kernel
theorem dX8_codeOfBelt_41 : decode cX8_codeOfBelt 41 = .ok (.iload_n 1, 1) := by decide +kernel
theorem dX8_codeOfBelt_42 : decode cX8_codeOfBelt 42 = .ok (.iload 5, 2) := by decide +kernel
theorem dX8_codeOfBelt_44 : decode cX8_codeOfBelt 44 = .ok (.iload 6, 2) := by decide +kernel
theorem dX8_codeOfBelt_46 : decode cX8_codeOfBelt 46 = .ok (.invokevirtual 58, 3) := by decide +kernel
theorem dX8_codeOfBelt_49 : decode cX8_codeOfBelt 49 = .ok (.invokestatic 106, 3) := by decide +kernel
theorem dX8_codeOfBelt_52 : decode cX8_codeOfBelt 52 = .ok (.ireturn, 1) := by decide +kernel
theorem dX8_codeOfBelt_53 : decode cX8_codeOfBelt 53 = .ok (.iload 6, 2) := by decide +kernel
theorem dX8_codeOfBelt_55 : decode cX8_codeOfBelt 55 = .ok (.iload 7, 2) := by decide +kernel
theorem dX8_codeOfBelt_57 : decode cX8_codeOfBelt 57 = .ok (.if_icmp .ne 18, 3) := by decide +kernel
theorem dX8_codeOfBelt_60 : decode cX8_codeOfBelt 60 = .ok (.iload 5, 2) := by decide +kernel
theorem dX8_codeOfBelt_62 : decode cX8_codeOfBelt 62 = .ok (.iconst 1, 1) := by decide +kernel
theorem dX8_codeOfBelt_63 : decode cX8_codeOfBelt 63 = .ok (.iadd, 1) := by decide +kernel
theorem dX8_codeOfBelt_64 : decode cX8_codeOfBelt 64 = .ok (.iload_n 3, 1) := by decide +kernel
theorem dX8_codeOfBelt_65 : decode cX8_codeOfBelt 65 = .ok (.if_icmp .ge 8, 3) := by decide +kernel
theorem dX8_codeOfBelt_68 : decode cX8_codeOfBelt 68 = .ok (.bipush 45, 2) := by decide +kernel
theorem dX8_codeOfBelt_70 : decode cX8_codeOfBelt 70 = .ok (.goto 4, 3) := by decide +kernel
theorem dX8_codeOfBelt_73 : decode cX8_codeOfBelt 73 = .ok (.iconst (-1), 1) := by decide +kernel
theorem dX8_codeOfBelt_74 : decode cX8_codeOfBelt 74 = .ok (.ireturn, 1) := by decide +kernel
theorem dX8_codeOfBelt_75 : decode cX8_codeOfBelt 75 = .ok (.iload 4, 2) := by decide +kernel
theorem dX8_codeOfBelt_77 : decode cX8_codeOfBelt 77 = .ok (.iload 7, 2) := by decide +kernel
theorem dX8_codeOfBelt_79 : decode cX8_codeOfBelt 79 = .ok (.iconst 1, 1) := by decide +kernel
theorem dX8_codeOfBelt_80 : decode cX8_codeOfBelt 80 = .ok (.iadd, 1) := by decide +kernel
theorem dX8_codeOfBelt_81 : decode cX8_codeOfBelt 81 = .ok (.iadd, 1) := by decide +kernel
theorem dX8_codeOfBelt_82 : decode cX8_codeOfBelt 82 = .ok (.istore 4, 2) := by decide +kernel
theorem dX8_codeOfBelt_84 : decode cX8_codeOfBelt 84 = .ok (.iinc 5 1, 3) := by decide +kernel
theorem dX8_codeOfBelt_87 : decode cX8_codeOfBelt 87 = .ok (.goto (-75), 3) := by decide +kernel
theorem dX8_codeOfBelt_90 : decode cX8_codeOfBelt 90 = .ok (.iconst (-1), 1) := by decide +kernel
theorem dX8_codeOfBelt_91 : decode cX8_codeOfBelt 91 = .ok (.ireturn, 1) := by decide +kernel
theorem dX8_shareThatReadsTrue_0 : decode cX8_shareThatReadsTrue 0 = .ok (.aload_n 0, 1) := by decide +kernel
theorem dX8_shareThatReadsTrue_1 : decode cX8_shareThatReadsTrue 1 = .ok (.iconst 0, 1) := by decide +kernel
theorem dX8_shareThatReadsTrue_2 : decode cX8_shareThatReadsTrue 2 = .ok (.iconst (-1), 1) := by decide +kernel
theorem dX8_shareThatReadsTrue_3 : decode cX8_shareThatReadsTrue 3 = .ok (.invokestatic 54, 3) := by decide +kernel
theorem dX8_shareThatReadsTrue_6 : decode cX8_shareThatReadsTrue 6 = .ok (.istore_n 1, 1) := by decide +kernel
theorem dX8_shareThatReadsTrue_7 : decode cX8_shareThatReadsTrue 7 = .ok (.aload_n 0, 1) := by decide +kernel
theorem dX8_shareThatReadsTrue_8 : decode cX8_shareThatReadsTrue 8 = .ok (.iconst 1, 1) := by decide +kernel
theorem dX8_shareThatReadsTrue_9 : decode cX8_shareThatReadsTrue 9 = .ok (.iconst (-1), 1) := by decide +kernel
theorem dX8_shareThatReadsTrue_10 : decode cX8_shareThatReadsTrue 10 = .ok (.invokestatic 54, 3) := by decide +kernel
theorem dX8_shareThatReadsTrue_13 : decode cX8_shareThatReadsTrue 13 = .ok (.istore_n 2, 1) := by decide +kernel
theorem dX8_shareThatReadsTrue_14 : decode cX8_shareThatReadsTrue 14 = .ok (.iload_n 1, 1) := by decide +kernel
theorem dX8_shareThatReadsTrue_15 : decode cX8_shareThatReadsTrue 15 = .ok (.ifCond .ne 7, 3) := by decide +kernel
theorem dX8_shareThatReadsTrue_18 : decode cX8_shareThatReadsTrue 18 = .ok (.dconst 1, 1) := by decide +kernel
theorem dX8_shareThatReadsTrue_19 : decode cX8_shareThatReadsTrue 19 = .ok (.goto 10, 3) := by decide +kernel
theorem dX8_shareThatReadsTrue_22 : decode cX8_shareThatReadsTrue 22 = .ok (.iload_n 1, 1) := by decide +kernel
theorem dX8_shareThatReadsTrue_23 : decode cX8_shareThatReadsTrue 23 = .ok (.iload_n 2, 1) := by decide +kernel
theorem dX8_shareThatReadsTrue_24 : decode cX8_shareThatReadsTrue 24 = .ok (.isub, 1) := by decide +kernel
theorem dX8_shareThatReadsTrue_25 : decode cX8_shareThatReadsTrue 25 = .ok (.i2d, 1) := by decide +kernel
theorem dX8_shareThatReadsTrue_26 : decode cX8_shareThatReadsTrue 26 = .ok (.iload_n 1, 1) := by decide +kernel
theorem dX8_shareThatReadsTrue_27 : decode cX8_shareThatReadsTrue 27 = .ok (.i2d, 1) := by decide +kernel
theorem dX8_shareThatReadsTrue_28 : decode cX8_shareThatReadsTrue 28 = .ok (.ddiv, 1) := by decide +kernel
theorem dX8_shareThatReadsTrue_29 : decode cX8_shareThatReadsTrue 29 = .ok (.dreturn, 1) := by decide +kernel
theorem dX9_init_0 : decode cX9_init 0 = .ok (.aload_n 0, 1) := by decide +kernel
theorem dX9_init_1 : decode cX9_init 1 = .ok (.invokespecial 3, 3) := by decide +kernel
theorem dX9_init_4 : decode cX9_init 4 = .ok (.aload_n 0, 1) := by decide +kernel
theorem dX9_init_5 : decode cX9_init 5 = .ok (.bipush 8, 2) := by decide +kernel
theorem dX9_init_7 : decode cX9_init 7 = .ok (.newarray .int, 2) := by decide +kernel
theorem dX9_init_9 : decode cX9_init 9 = .ok (.putfield 9, 3) := by decide +kernel
theorem dX9_init_12 : decode cX9_init 12 = .ok (.aload_n 0, 1) := by decide +kernel
theorem dX9_init_13 : decode cX9_init 13 = .ok (.iconst 0, 1) := by decide +kernel
theorem dX9_init_14 : decode cX9_init 14 = .ok (.putfield 15, 3) := by decide +kernel
theorem dX9_init_17 : decode cX9_init 17 = .ok (.return_, 1) := by decide +kernel
theorem dX9_empty_0 : decode cX9_empty 0 = .ok (.aload_n 0, 1) := by decide +kernel
theorem dX9_empty_1 : decode cX9_empty 1 = .ok (.iconst 0, 1) := by decide +kernel
theorem dX9_empty_2 : decode cX9_empty 2 = .ok (.putfield 15, 3) := by decide +kernel
theorem dX9_empty_5 : decode cX9_empty 5 = .ok (.return_, 1) := by decide +kernel
theorem dX9_add_0 : decode cX9_add 0 = .ok (.aload_n 0, 1) := by decide +kernel
theorem dX9_add_1 : decode cX9_add 1 = .ok (.getfield 15, 3) := by decide +kernel
theorem dX9_add_4 : decode cX9_add 4 = .ok (.ifCond .lt 35, 3) := by decide +kernel
theorem dX9_add_7 : decode cX9_add 7 = .ok (.aload_n 0, 1) := by decide +kernel
theorem dX9_add_8 : decode cX9_add 8 = .ok (.getfield 15, 3) := by decide +kernel
theorem dX9_add_11 : decode cX9_add 11 = .ok (.aload_n 0, 1) := by decide +kernel
theorem dX9_add_12 : decode cX9_add 12 = .ok (.getfield 9, 3) := by decide +kernel
theorem dX9_add_15 : decode cX9_add 15 = .ok (.arraylength, 1) := by decide +kernel
theorem dX9_add_16 : decode cX9_add 16 = .ok (.if_icmp .ge 23, 3) := by decide +kernel
theorem dX9_add_19 : decode cX9_add 19 = .ok (.aload_n 0, 1) := by decide +kernel
theorem dX9_add_20 : decode cX9_add 20 = .ok (.getfield 9, 3) := by decide +kernel
theorem dX9_add_23 : decode cX9_add 23 = .ok (.aload_n 0, 1) := by decide +kernel
theorem dX9_add_24 : decode cX9_add 24 = .ok (.getfield 15, 3) := by decide +kernel
theorem dX9_add_27 : decode cX9_add 27 = .ok (.iload_n 1, 1) := by decide +kernel
theorem dX9_add_28 : decode cX9_add 28 = .ok (.iastore, 1) := by decide +kernel
theorem dX9_add_29 : decode cX9_add 29 = .ok (.aload_n 0, 1) := by decide +kernel
theorem dX9_add_30 : decode cX9_add 30 = .ok (.dup, 1) := by decide +kernel
theorem dX9_add_31 : decode cX9_add 31 = .ok (.getfield 15, 3) := by decide +kernel
theorem dX9_add_34 : decode cX9_add 34 = .ok (.iconst 1, 1) := by decide +kernel
theorem dX9_add_35 : decode cX9_add 35 = .ok (.iadd, 1) := by decide +kernel
theorem dX9_add_36 : decode cX9_add 36 = .ok (.putfield 15, 3) := by decide +kernel
theorem dX9_add_39 : decode cX9_add 39 = .ok (.return_, 1) := by decide +kernel
theorem dX9_size_0 : decode cX9_size 0 = .ok (.aload_n 0, 1) := by decide +kernel
theorem dX9_size_1 : decode cX9_size 1 = .ok (.getfield 15, 3) := by decide +kernel
theorem dX9_size_4 : decode cX9_size 4 = .ok (.ireturn, 1) := by decide +kernel
theorem dX9_at_0 : decode cX9_at 0 = .ok (.iload_n 1, 1) := by decide +kernel
theorem dX9_at_1 : decode cX9_at 1 = .ok (.ifCond .lt 21, 3) := by decide +kernel
theorem dX9_at_4 : decode cX9_at 4 = .ok (.iload_n 1, 1) := by decide +kernel
theorem dX9_at_5 : decode cX9_at 5 = .ok (.aload_n 0, 1) := by decide +kernel
theorem dX9_at_6 : decode cX9_at 6 = .ok (.getfield 9, 3) := by decide +kernel
theorem dX9_at_9 : decode cX9_at 9 = .ok (.arraylength, 1) := by decide +kernel
theorem dX9_at_10 : decode cX9_at 10 = .ok (.if_icmp .ge 12, 3) := by decide +kernel
theorem dX9_at_13 : decode cX9_at 13 = .ok (.aload_n 0, 1) := by decide +kernel
theorem dX9_at_14 : decode cX9_at 14 = .ok (.getfield 9, 3) := by decide +kernel
theorem dX9_at_17 : decode cX9_at 17 = .ok (.iload_n 1, 1) := by decide +kernel
theorem dX9_at_18 : decode cX9_at 18 = .ok (.iaload, 1) := by decide +kernel
theorem dX9_at_19 : decode cX9_at 19 = .ok (.goto 4, 3) := by decide +kernel
theorem dX9_at_22 : decode cX9_at 22 = .ok (.iconst (-1), 1) := by decide +kernel
theorem dX9_at_23 : decode cX9_at 23 = .ok (.ireturn, 1) := by decide +kernel
theorem dX9_cord_0 : decode cX9_cord 0 = .ok (.iconst 2, 1) := by decide +kernel
theorem dX9_cord_1 : decode cX9_cord 1 = .ok (.istore_n 1, 1) := by decide +kernel
theorem dX9_cord_2 : decode cX9_cord 2 = .ok (.iconst 0, 1) := by decide +kernel
theorem dX9_cord_3 : decode cX9_cord 3 = .ok (.istore_n 2, 1) := by decide +kernel
theorem dX9_cord_4 : decode cX9_cord 4 = .ok (.iload_n 2, 1) := by decide +kernel
theorem dX9_cord_5 : decode cX9_cord 5 = .ok (.aload_n 0, 1) := by decide +kernel
theorem dX9_cord_6 : decode cX9_cord 6 = .ok (.getfield 15, 3) := by decide +kernel
theorem dX9_cord_9 : decode cX9_cord 9 = .ok (.if_icmp .ge 22, 3) := by decide +kernel
theorem dX9_cord_12 : decode cX9_cord 12 = .ok (.iload_n 1, 1) := by decide +kernel
theorem dX9_cord_13 : decode cX9_cord 13 = .ok (.aload_n 0, 1) := by decide +kernel
theorem dX9_cord_14 : decode cX9_cord 14 = .ok (.iload_n 2, 1) := by decide +kernel
theorem dX9_cord_15 : decode cX9_cord 15 = .ok (.invokevirtual 19, 3) := by decide +kernel
theorem dX9_cord_18 : decode cX9_cord 18 = .ok (.invokestatic 23, 3) := by decide +kernel
theorem dX9_cord_21 : decode cX9_cord 21 = .ok (.iconst 1, 1) := by decide +kernel
theorem dX9_cord_22 : decode cX9_cord 22 = .ok (.iadd, 1) := by decide +kernel
theorem dX9_cord_23 : decode cX9_cord 23 = .ok (.iadd, 1) := by decide +kernel
theorem dX9_cord_24 : decode cX9_cord 24 = .ok (.istore_n 1, 1) := by decide +kernel
theorem dX9_cord_25 : decode cX9_cord 25 = .ok (.iinc 2 1, 3) := by decide +kernel
theorem dX9_cord_28 : decode cX9_cord 28 = .ok (.goto (-24), 3) := by decide +kernel
theorem dX9_cord_31 : decode cX9_cord 31 = .ok (.iload_n 1, 1) := by decide +kernel
theorem dX9_cord_32 : decode cX9_cord 32 = .ok (.ireturn, 1) := by decide +kernel
theorem dX10_init_0 : decode cX10_init 0 = .ok (.aload_n 0, 1) := by decide +kernel
theorem dX10_init_1 : decode cX10_init 1 = .ok (.invokespecial 3, 3) := by decide +kernel
theorem dX10_init_4 : decode cX10_init 4 = .ok (.aload_n 0, 1) := by decide +kernel
theorem dX10_init_5 : decode cX10_init 5 = .ok (.new 9, 3) := by decide +kernel
theorem dX10_init_8 : decode cX10_init 8 = .ok (.dup, 1) := by decide +kernel
theorem dX10_init_9 : decode cX10_init 9 = .ok (.invokespecial 11, 3) := by decide +kernel
theorem dX10_init_12 : decode cX10_init 12 = .ok (.putfield 12, 3) := by decide +kernel
theorem dX10_init_15 : decode cX10_init 15 = .ok (.aload_n 0, 1) := by decide +kernel
theorem dX10_init_16 : decode cX10_init 16 = .ok (.new 16, 3) := by decide +kernel
theorem dX10_init_19 : decode cX10_init 19 = .ok (.dup, 1) := by decide +kernel
theorem dX10_init_20 : decode cX10_init 20 = .ok (.invokespecial 18, 3) := by decide +kernel
theorem dX10_init_23 : decode cX10_init 23 = .ok (.putfield 19, 3) := by decide +kernel
theorem dX10_init_26 : decode cX10_init 26 = .ok (.aload_n 0, 1) := by decide +kernel
theorem dX10_init_27 : decode cX10_init 27 = .ok (.new 23, 3) := by decide +kernel
theorem dX10_init_30 : decode cX10_init 30 = .ok (.dup, 1) := by decide +kernel
theorem dX10_init_31 : decode cX10_init 31 = .ok (.invokespecial 25, 3) := by decide +kernel
theorem dX10_init_34 : decode cX10_init 34 = .ok (.putfield 26, 3) := by decide +kernel
theorem dX10_init_37 : decode cX10_init 37 = .ok (.aload_n 0, 1) := by decide +kernel
theorem dX10_init_38 : decode cX10_init 38 = .ok (.new 30, 3) := by decide +kernel
theorem dX10_init_41 : decode cX10_init 41 = .ok (.dup, 1) := by decide +kernel
theorem dX10_init_42 : decode cX10_init 42 = .ok (.invokespecial 32, 3) := by decide +kernel
theorem dX10_init_45 : decode cX10_init 45 = .ok (.putfield 33, 3) := by decide +kernel
theorem dX10_init_48 : decode cX10_init 48 = .ok (.aload_n 0, 1) := by decide +kernel
theorem dX10_init_49 : decode cX10_init 49 = .ok (.new 37, 3) := by decide +kernel
theorem dX10_init_52 : decode cX10_init 52 = .ok (.dup, 1) := by decide +kernel
theorem dX10_init_53 : decode cX10_init 53 = .ok (.invokespecial 39, 3) := by decide +kernel
theorem dX10_init_56 : decode cX10_init 56 = .ok (.putfield 40, 3) := by decide +kernel
theorem dX10_init_59 : decode cX10_init 59 = .ok (.return_, 1) := by decide +kernel
theorem dX10_tie_0 : decode cX10_tie 0 = .ok (.iload_n 1, 1) := by decide +kernel
theorem dX10_tie_1 : decode cX10_tie 1 = .ok (.invokestatic 44, 3) := by decide +kernel
theorem dX10_tie_4 : decode cX10_tie 4 = .ok (.aload_n 0, 1) := by decide +kernel
theorem dX10_tie_5 : decode cX10_tie 5 = .ok (.invokevirtual 48, 3) := by decide +kernel
theorem dX10_tie_8 : decode cX10_tie 8 = .ok (.aload_n 0, 1) := by decide +kernel
theorem dX10_tie_9 : decode cX10_tie 9 = .ok (.getfield 12, 3) := by decide +kernel
theorem dX10_tie_12 : decode cX10_tie 12 = .ok (.aload_n 0, 1) := by decide +kernel
theorem dX10_tie_13 : decode cX10_tie 13 = .ok (.getfield 40, 3) := by decide +kernel
theorem dX10_tie_16 : decode cX10_tie 16 = .ok (.iload_n 1, 1) := by decide +kernel
theorem dX10_tie_17 : decode cX10_tie 17 = .ok (.invokestatic 51, 3) := by decide +kernel
theorem dX10_tie_20 : decode cX10_tie 20 = .ok (.ifCond .eq 13, 3) := by decide +kernel
theorem dX10_tie_23 : decode cX10_tie 23 = .ok (.new 57, 3) := by decide +kernel
theorem dX10_tie_26 : decode cX10_tie 26 = .ok (.dup, 1) := by decide +kernel
theorem dX10_tie_27 : decode cX10_tie 27 = .ok (.ldc 59, 2) := by decide +kernel
theorem dX10_tie_29 : decode cX10_tie 29 = .ok (.invokespecial 61, 3) := by decide +kernel
theorem dX10_tie_32 : decode cX10_tie 32 = .ok (.athrow, 1) := by decide +kernel
theorem dX10_tie_33 : decode cX10_tie 33 = .ok (.aload_n 0, 1) := by decide +kernel
theorem dX10_tie_34 : decode cX10_tie 34 = .ok (.getfield 19, 3) := by decide +kernel
theorem dX10_tie_37 : decode cX10_tie 37 = .ok (.aload_n 0, 1) := by decide +kernel
theorem dX10_tie_38 : decode cX10_tie 38 = .ok (.getfield 12, 3) := by decide +kernel
theorem dX10_tie_41 : decode cX10_tie 41 = .ok (.invokevirtual 64, 3) := by decide +kernel
theorem dX10_tie_44 : decode cX10_tie 44 = .ok (.aload_n 0, 1) := by decide +kernel
theorem dX10_tie_45 : decode cX10_tie 45 = .ok (.getfield 26, 3) := by decide +kernel
theorem dX10_tie_48 : decode cX10_tie 48 = .ok (.invokevirtual 68, 3) := by decide +kernel
theorem dX10_tie_51 : decode cX10_tie 51 = .ok (.pop, 1) := by decide +kernel
theorem dX10_tie_52 : decode cX10_tie 52 = .ok (.aload_n 0, 1) := by decide +kernel
theorem dX10_tie_53 : decode cX10_tie 53 = .ok (.getfield 12, 3) := by decide +kernel
theorem dX10_tie_56 : decode cX10_tie 56 = .ok (.aload_n 0, 1) := by decide +kernel
theorem dX10_tie_57 : decode cX10_tie 57 = .ok (.getfield 40, 3) := by decide +kernel
theorem dX10_tie_60 : decode cX10_tie 60 = .ok (.iload_n 1, 1) := by decide +kernel
theorem dX10_tie_61 : decode cX10_tie 61 = .ok (.invokestatic 72, 3) := by decide +kernel
theorem dX10_tie_64 : decode cX10_tie 64 = .ok (.ireturn, 1) := by decide +kernel
theorem dX10_cut_0 : decode cX10_cut 0 = .ok (.aload_n 0, 1) := by decide +kernel
theorem dX10_cut_1 : decode cX10_cut 1 = .ok (.iload_n 1, 1) := by decide +kernel
theorem dX10_cut_2 : decode cX10_cut 2 = .ok (.iload_n 2, 1) := by decide +kernel
theorem dX10_cut_3 : decode cX10_cut 3 = .ok (.invokevirtual 75, 3) := by decide +kernel
theorem dX10_cut_6 : decode cX10_cut 6 = .ok (.aload_n 0, 1) := by decide +kernel
theorem dX10_cut_7 : decode cX10_cut 7 = .ok (.getfield 19, 3) := by decide +kernel
theorem dX10_cut_10 : decode cX10_cut 10 = .ok (.aload_n 0, 1) := by decide +kernel
theorem dX10_cut_11 : decode cX10_cut 11 = .ok (.getfield 12, 3) := by decide +kernel
theorem dX10_cut_14 : decode cX10_cut 14 = .ok (.invokevirtual 64, 3) := by decide +kernel
theorem dX10_cut_17 : decode cX10_cut 17 = .ok (.aload_n 0, 1) := by decide +kernel
theorem dX10_cut_18 : decode cX10_cut 18 = .ok (.getfield 12, 3) := by decide +kernel
theorem dX10_cut_21 : decode cX10_cut 21 = .ok (.iload_n 1, 1) := by decide +kernel
theorem dX10_cut_22 : decode cX10_cut 22 = .ok (.iload_n 2, 1) := by decide +kernel
theorem dX10_cut_23 : decode cX10_cut 23 = .ok (.invokestatic 79, 3) := by decide +kernel
theorem dX10_cut_26 : decode cX10_cut 26 = .ok (.ireturn, 1) := by decide +kernel
theorem dX10_fast_0 : decode cX10_fast 0 = .ok (.aload_n 0, 1) := by decide +kernel
theorem dX10_fast_1 : decode cX10_fast 1 = .ok (.iload_n 1, 1) := by decide +kernel
theorem dX10_fast_2 : decode cX10_fast 2 = .ok (.iload_n 2, 1) := by decide +kernel
theorem dX10_fast_3 : decode cX10_fast 3 = .ok (.invokevirtual 75, 3) := by decide +kernel
theorem dX10_fast_6 : decode cX10_fast 6 = .ok (.aload_n 0, 1) := by decide +kernel
theorem dX10_fast_7 : decode cX10_fast 7 = .ok (.getfield 12, 3) := by decide +kernel
theorem dX10_fast_10 : decode cX10_fast 10 = .ok (.iload_n 1, 1) := by decide +kernel
theorem dX10_fast_11 : decode cX10_fast 11 = .ok (.iload_n 2, 1) := by decide +kernel
theorem dX10_fast_12 : decode cX10_fast 12 = .ok (.invokestatic 83, 3) := by decide +kernel
theorem dX10_fast_15 : decode cX10_fast 15 = .ok (.ifCond .eq 13, 3) := by decide +kernel
theorem dX10_fast_18 : decode cX10_fast 18 = .ok (.new 57, 3) := by decide +kernel
theorem dX10_fast_21 : decode cX10_fast 21 = .ok (.dup, 1) := by decide +kernel
theorem dX10_fast_22 : decode cX10_fast 22 = .ok (.ldc 86, 2) := by decide +kernel
theorem dX10_fast_24 : decode cX10_fast 24 = .ok (.invokespecial 61, 3) := by decide +kernel
theorem dX10_fast_27 : decode cX10_fast 27 = .ok (.athrow, 1) := by decide +kernel
theorem dX10_fast_28 : decode cX10_fast 28 = .ok (.aload_n 0, 1) := by decide +kernel
theorem dX10_fast_29 : decode cX10_fast 29 = .ok (.getfield 19, 3) := by decide +kernel
theorem dX10_fast_32 : decode cX10_fast 32 = .ok (.aload_n 0, 1) := by decide +kernel
theorem dX10_fast_33 : decode cX10_fast 33 = .ok (.getfield 12, 3) := by decide +kernel
theorem dX10_fast_36 : decode cX10_fast 36 = .ok (.invokevirtual 64, 3) := by decide +kernel
theorem dX10_fast_39 : decode cX10_fast 39 = .ok (.aload_n 0, 1) := by decide +kernel
theorem dX10_fast_40 : decode cX10_fast 40 = .ok (.getfield 12, 3) := by decide +kernel
theorem dX10_fast_43 : decode cX10_fast 43 = .ok (.iload_n 1, 1) := by decide +kernel
theorem dX10_fast_44 : decode cX10_fast 44 = .ok (.iload_n 2, 1) := by decide +kernel
theorem dX10_fast_45 : decode cX10_fast 45 = .ok (.invokestatic 88, 3) := by decide +kernel
theorem dX10_fast_48 : decode cX10_fast 48 = .ok (.ireturn, 1) := by decide +kernel
theorem dX10_give_0 : decode cX10_give 0 = .ok (.aload_n 0, 1) := by decide +kernel
theorem dX10_give_1 : decode cX10_give 1 = .ok (.iload_n 1, 1) := by decide +kernel
theorem dX10_give_2 : decode cX10_give 2 = .ok (.iload_n 2, 1) := by decide +kernel
theorem dX10_give_3 : decode cX10_give 3 = .ok (.invokevirtual 75, 3) := by decide +kernel
theorem dX10_give_6 : decode cX10_give 6 = .ok (.iload_n 3, 1) := by decide +kernel
theorem dX10_give_7 : decode cX10_give 7 = .ok (.invokestatic 44, 3) := by decide +kernel
theorem dX10_give_10 : decode cX10_give 10 = .ok (.aload_n 0, 1) := by decide +kernel
theorem dX10_give_11 : decode cX10_give 11 = .ok (.getfield 12, 3) := by decide +kernel
theorem dX10_give_14 : decode cX10_give 14 = .ok (.aload_n 0, 1) := by decide +kernel
theorem dX10_give_15 : decode cX10_give 15 = .ok (.getfield 40, 3) := by decide +kernel
theorem dX10_give_18 : decode cX10_give 18 = .ok (.iload_n 1, 1) := by decide +kernel
theorem dX10_give_19 : decode cX10_give 19 = .ok (.iload_n 2, 1) := by decide +kernel
theorem dX10_give_20 : decode cX10_give 20 = .ok (.iload_n 3, 1) := by decide +kernel
theorem dX10_give_21 : decode cX10_give 21 = .ok (.invokestatic 91, 3) := by decide +kernel
theorem dX10_give_24 : decode cX10_give 24 = .ok (.ifCond .eq 13, 3) := by decide +kernel
theorem dX10_give_27 : decode cX10_give 27 = .ok (.new 57, 3) := by decide +kernel
theorem dX10_give_30 : decode cX10_give 30 = .ok (.dup, 1) := by decide +kernel
theorem dX10_give_31 : decode cX10_give 31 = .ok (.ldc 95, 2) := by decide +kernel
theorem dX10_give_33 : decode cX10_give 33 = .ok (.invokespecial 61, 3) := by decide +kernel
theorem dX10_give_36 : decode cX10_give 36 = .ok (.athrow, 1) := by decide +kernel
theorem dX10_give_37 : decode cX10_give 37 = .ok (.aload_n 0, 1) := by decide +kernel
theorem dX10_give_38 : decode cX10_give 38 = .ok (.getfield 19, 3) := by decide +kernel
theorem dX10_give_41 : decode cX10_give 41 = .ok (.aload_n 0, 1) := by decide +kernel
theorem dX10_give_42 : decode cX10_give 42 = .ok (.getfield 12, 3) := by decide +kernel
theorem dX10_give_45 : decode cX10_give 45 = .ok (.invokevirtual 64, 3) := by decide +kernel
theorem dX10_give_48 : decode cX10_give 48 = .ok (.aload_n 0, 1) := by decide +kernel
theorem dX10_give_49 : decode cX10_give 49 = .ok (.getfield 12, 3) := by decide +kernel
theorem dX10_give_52 : decode cX10_give 52 = .ok (.aload_n 0, 1) := by decide +kernel
theorem dX10_give_53 : decode cX10_give 53 = .ok (.getfield 40, 3) := by decide +kernel
theorem dX10_give_56 : decode cX10_give 56 = .ok (.iload_n 1, 1) := by decide +kernel
theorem dX10_give_57 : decode cX10_give 57 = .ok (.iload_n 2, 1) := by decide +kernel
theorem dX10_give_58 : decode cX10_give 58 = .ok (.iload_n 3, 1) := by decide +kernel
theorem dX10_give_59 : decode cX10_give 59 = .ok (.invokestatic 97, 3) := by decide +kernel
theorem dX10_give_62 : decode cX10_give 62 = .ok (.ireturn, 1) := by decide +kernel
theorem dX10_storm_0 : decode cX10_storm 0 = .ok (.iload_n 1, 1) := by decide +kernel
theorem dX10_storm_1 : decode cX10_storm 1 = .ok (.invokestatic 44, 3) := by decide +kernel
theorem dX10_storm_4 : decode cX10_storm 4 = .ok (.aload_n 0, 1) := by decide +kernel
theorem dX10_storm_5 : decode cX10_storm 5 = .ok (.getfield 19, 3) := by decide +kernel
theorem dX10_storm_8 : decode cX10_storm 8 = .ok (.aload_n 0, 1) := by decide +kernel
theorem dX10_storm_9 : decode cX10_storm 9 = .ok (.getfield 12, 3) := by decide +kernel
theorem dX10_storm_12 : decode cX10_storm 12 = .ok (.invokevirtual 64, 3) := by decide +kernel
theorem dX10_storm_15 : decode cX10_storm 15 = .ok (.aload_n 0, 1) := by decide +kernel
theorem dX10_storm_16 : decode cX10_storm 16 = .ok (.getfield 12, 3) := by decide +kernel
theorem dX10_storm_19 : decode cX10_storm 19 = .ok (.iload_n 1, 1) := by decide +kernel
theorem dX10_storm_20 : decode cX10_storm 20 = .ok (.invokestatic 100, 3) := by decide +kernel
theorem dX10_storm_23 : decode cX10_storm 23 = .ok (.ireturn, 1) := by decide +kernel
theorem dX10_belt_0 : decode cX10_belt 0 = .ok (.iload_n 1, 1) := by decide +kernel
theorem dX10_belt_1 : decode cX10_belt 1 = .ok (.invokestatic 44, 3) := by decide +kernel
theorem dX10_belt_4 : decode cX10_belt 4 = .ok (.iload_n 2, 1) := by decide +kernel
theorem dX10_belt_5 : decode cX10_belt 5 = .ok (.bipush 20, 2) := by decide +kernel
theorem dX10_belt_7 : decode cX10_belt 7 = .ok (.if_icmp .lt 9, 3) := by decide +kernel
theorem dX10_belt_10 : decode cX10_belt 10 = .ok (.iload_n 2, 1) := by decide +kernel
theorem dX10_belt_11 : decode cX10_belt 11 = .ok (.bipush 120, 2) := by decide +kernel
theorem dX10_belt_13 : decode cX10_belt 13 = .ok (.if_icmp .le 13, 3) := by decide +kernel
theorem dX10_belt_16 : decode cX10_belt 16 = .ok (.new 106, 3) := by decide +kernel
theorem dX10_belt_19 : decode cX10_belt 19 = .ok (.dup, 1) := by decide +kernel
theorem dX10_belt_20 : decode cX10_belt 20 = .ok (.ldc 108, 2) := by decide +kernel
theorem dX10_belt_22 : decode cX10_belt 22 = .ok (.invokespecial 110, 3) := by decide +kernel
theorem dX10_belt_25 : decode cX10_belt 25 = .ok (.athrow, 1) := by decide +kernel
theorem dX10_belt_26 : decode cX10_belt 26 = .ok (.aload_n 0, 1) := by decide +kernel
theorem dX10_belt_27 : decode cX10_belt 27 = .ok (.getfield 12, 3) := by decide +kernel
theorem dX10_belt_30 : decode cX10_belt 30 = .ok (.iload_n 1, 1) := by decide +kernel
theorem dX10_belt_31 : decode cX10_belt 31 = .ok (.iconst 0, 1) := by decide +kernel
theorem dX10_belt_32 : decode cX10_belt 32 = .ok (.invokestatic 111, 3) := by decide +kernel
theorem dX10_belt_35 : decode cX10_belt 35 = .ok (.invokevirtual 115, 3) := by decide +kernel
theorem dX10_belt_38 : decode cX10_belt 38 = .ok (.istore_n 3, 1) := by decide +kernel
theorem dX10_belt_39 : decode cX10_belt 39 = .ok (.iload_n 3, 1) := by decide +kernel
theorem dX10_belt_40 : decode cX10_belt 40 = .ok (.aload_n 0, 1) := by decide +kernel
theorem dX10_belt_41 : decode cX10_belt 41 = .ok (.getfield 12, 3) := by decide +kernel
theorem dX10_belt_44 : decode cX10_belt 44 = .ok (.iload_n 1, 1) := by decide +kernel
theorem dX10_belt_45 : decode cX10_belt 45 = .ok (.invokevirtual 119, 3) := by decide +kernel
theorem dX10_belt_48 : decode cX10_belt 48 = .ok (.isub, 1) := by decide +kernel
theorem dX10_belt_49 : decode cX10_belt 49 = .ok (.iload_n 2, 1) := by decide +kernel
theorem dX10_belt_50 : decode cX10_belt 50 = .ok (.if_icmp .le 13, 3) := by decide +kernel
theorem dX10_belt_53 : decode cX10_belt 53 = .ok (.new 57, 3) := by decide +kernel
theorem dX10_belt_56 : decode cX10_belt 56 = .ok (.dup, 1) := by decide +kernel
theorem dX10_belt_57 : decode cX10_belt 57 = .ok (.ldc 122, 2) := by decide +kernel
theorem dX10_belt_59 : decode cX10_belt 59 = .ok (.invokespecial 61, 3) := by decide +kernel
theorem dX10_belt_62 : decode cX10_belt 62 = .ok (.athrow, 1) := by decide +kernel
theorem dX10_belt_63 : decode cX10_belt 63 = .ok (.aload_n 0, 1) := by decide +kernel
theorem dX10_belt_64 : decode cX10_belt 64 = .ok (.getfield 19, 3) := by decide +kernel
theorem dX10_belt_67 : decode cX10_belt 67 = .ok (.aload_n 0, 1) := by decide +kernel
theorem dX10_belt_68 : decode cX10_belt 68 = .ok (.getfield 12, 3) := by decide +kernel
theorem dX10_belt_71 : decode cX10_belt 71 = .ok (.invokevirtual 64, 3) := by decide +kernel
theorem dX10_belt_74 : decode cX10_belt 74 = .ok (.aload_n 0, 1) := by decide +kernel
theorem dX10_belt_75 : decode cX10_belt 75 = .ok (.getfield 12, 3) := by decide +kernel
theorem dX10_belt_78 : decode cX10_belt 78 = .ok (.iload_n 1, 1) := by decide +kernel
theorem dX10_belt_79 : decode cX10_belt 79 = .ok (.iconst 0, 1) := by decide +kernel
theorem dX10_belt_80 : decode cX10_belt 80 = .ok (.invokestatic 111, 3) := by decide +kernel
theorem dX10_belt_83 : decode cX10_belt 83 = .ok (.iload_n 2, 1) := by decide +kernel
theorem dX10_belt_84 : decode cX10_belt 84 = .ok (.invokevirtual 124, 3) := by decide +kernel
theorem dX10_belt_87 : decode cX10_belt 87 = .ok (.iload_n 3, 1) := by decide +kernel
theorem dX10_belt_88 : decode cX10_belt 88 = .ok (.ireturn, 1) := by decide +kernel
theorem dX10_set_0 : decode cX10_set 0 = .ok (.iload_n 1, 1) := by decide +kernel
theorem dX10_set_1 : decode cX10_set 1 = .ok (.ifCond .eq 18, 3) := by decide +kernel
theorem dX10_set_4 : decode cX10_set 4 = .ok (.iload_n 1, 1) := by decide +kernel
theorem dX10_set_5 : decode cX10_set 5 = .ok (.iconst 1, 1) := by decide +kernel
theorem dX10_set_6 : decode cX10_set 6 = .ok (.if_icmp .eq 13, 3) := by decide +kernel
theorem dX10_set_9 : decode cX10_set 9 = .ok (.new 127, 3) := by decide +kernel
theorem dX10_set_12 : decode cX10_set 12 = .ok (.dup, 1) := by decide +kernel
theorem dX10_set_13 : decode cX10_set 13 = .ok (.ldc 129, 2) := by decide +kernel
theorem dX10_set_15 : decode cX10_set 15 = .ok (.invokespecial 131, 3) := by decide +kernel
theorem dX10_set_18 : decode cX10_set 18 = .ok (.athrow, 1) := by decide +kernel
theorem dX10_set_19 : decode cX10_set 19 = .ok (.iload_n 1, 1) := by decide +kernel
theorem dX10_set_20 : decode cX10_set 20 = .ok (.ifCond .ne 7, 3) := by decide +kernel
theorem dX10_set_23 : decode cX10_set 23 = .ok (.iconst 1, 1) := by decide +kernel
theorem dX10_set_24 : decode cX10_set 24 = .ok (.goto 4, 3) := by decide +kernel
theorem dX10_set_27 : decode cX10_set 27 = .ok (.iconst 0, 1) := by decide +kernel
theorem dX10_set_28 : decode cX10_set 28 = .ok (.istore_n 3, 1) := by decide +kernel
theorem dX10_set_29 : decode cX10_set 29 = .ok (.iload_n 1, 1) := by decide +kernel
theorem dX10_set_30 : decode cX10_set 30 = .ok (.ifCond .ne 8, 3) := by decide +kernel
theorem dX10_set_33 : decode cX10_set 33 = .ok (.bipush 9, 2) := by decide +kernel
theorem dX10_set_35 : decode cX10_set 35 = .ok (.goto 5, 3) := by decide +kernel
theorem dX10_set_38 : decode cX10_set 38 = .ok (.bipush 8, 2) := by decide +kernel
theorem dX10_set_40 : decode cX10_set 40 = .ok (.istore 4, 2) := by decide +kernel
theorem dX10_set_42 : decode cX10_set 42 = .ok (.iload_n 2, 1) := by decide +kernel
theorem dX10_set_43 : decode cX10_set 43 = .ok (.iload_n 3, 1) := by decide +kernel
theorem dX10_set_44 : decode cX10_set 44 = .ok (.if_icmp .lt 9, 3) := by decide +kernel
theorem dX10_set_47 : decode cX10_set 47 = .ok (.iload_n 2, 1) := by decide +kernel
theorem dX10_set_48 : decode cX10_set 48 = .ok (.iload 4, 2) := by decide +kernel
theorem dX10_set_50 : decode cX10_set 50 = .ok (.if_icmp .le 13, 3) := by decide +kernel
theorem dX10_set_53 : decode cX10_set 53 = .ok (.new 106, 3) := by decide +kernel
theorem dX10_set_56 : decode cX10_set 56 = .ok (.dup, 1) := by decide +kernel
theorem dX10_set_57 : decode cX10_set 57 = .ok (.ldc 132, 2) := by decide +kernel
theorem dX10_set_59 : decode cX10_set 59 = .ok (.invokespecial 110, 3) := by decide +kernel
theorem dX10_set_62 : decode cX10_set 62 = .ok (.athrow, 1) := by decide +kernel
theorem dX10_set_63 : decode cX10_set 63 = .ok (.aload_n 0, 1) := by decide +kernel
theorem dX10_set_64 : decode cX10_set 64 = .ok (.getfield 19, 3) := by decide +kernel
theorem dX10_set_67 : decode cX10_set 67 = .ok (.aload_n 0, 1) := by decide +kernel
theorem dX10_set_68 : decode cX10_set 68 = .ok (.getfield 12, 3) := by decide +kernel
theorem dX10_set_71 : decode cX10_set 71 = .ok (.invokevirtual 64, 3) := by decide +kernel
theorem dX10_set_74 : decode cX10_set 74 = .ok (.aload_n 0, 1) := by decide +kernel
theorem dX10_set_75 : decode cX10_set 75 = .ok (.getfield 12, 3) := by decide +kernel
theorem dX10_set_78 : decode cX10_set 78 = .ok (.iconst 1, 1) := by decide +kernel
theorem dX10_set_79 : decode cX10_set 79 = .ok (.iload_n 1, 1) := by decide +kernel
theorem dX10_set_80 : decode cX10_set 80 = .ok (.iadd, 1) := by decide +kernel
theorem dX10_set_81 : decode cX10_set 81 = .ok (.invokevirtual 115, 3) := by decide +kernel
theorem dX10_set_84 : decode cX10_set 84 = .ok (.istore 5, 2) := by decide +kernel
theorem dX10_set_86 : decode cX10_set 86 = .ok (.aload_n 0, 1) := by decide +kernel
theorem dX10_set_87 : decode cX10_set 87 = .ok (.getfield 12, 3) := by decide +kernel
theorem dX10_set_90 : decode cX10_set 90 = .ok (.iconst 1, 1) := by decide +kernel
theorem dX10_set_91 : decode cX10_set 91 = .ok (.iload_n 1, 1) := by decide +kernel
theorem dX10_set_92 : decode cX10_set 92 = .ok (.iadd, 1) := by decide +kernel
theorem dX10_set_93 : decode cX10_set 93 = .ok (.iload_n 2, 1) := by decide +kernel
theorem dX10_set_94 : decode cX10_set 94 = .ok (.invokevirtual 124, 3) := by decide +kernel
theorem dX10_set_97 : decode cX10_set 97 = .ok (.iload 5, 2) := by decide +kernel
theorem dX10_set_99 : decode cX10_set 99 = .ok (.ireturn, 1) := by decide +kernel
theorem dX10_append_0 : decode cX10_append 0 = .ok (.iload_n 1, 1) := by decide +kernel
theorem dX10_append_1 : decode cX10_append 1 = .ok (.bipush 33, 2) := by decide +kernel
theorem dX10_append_3 : decode cX10_append 3 = .ok (.if_icmp .lt 9, 3) := by decide +kernel
theorem dX10_append_6 : decode cX10_append 6 = .ok (.iload_n 1, 1) := by decide +kernel
theorem dX10_append_7 : decode cX10_append 7 = .ok (.bipush 126, 2) := by decide +kernel
theorem dX10_append_9 : decode cX10_append 9 = .ok (.if_icmp .le 13, 3) := by decide +kernel
theorem dX10_append_12 : decode cX10_append 12 = .ok (.new 106, 3) := by decide +kernel
theorem dX10_append_15 : decode cX10_append 15 = .ok (.dup, 1) := by decide +kernel
theorem dX10_append_16 : decode cX10_append 16 = .ok (.ldc 134, 2) := by decide +kernel
theorem dX10_append_18 : decode cX10_append 18 = .ok (.invokespecial 110, 3) := by decide +kernel
theorem dX10_append_21 : decode cX10_append 21 = .ok (.athrow, 1) := by decide +kernel
theorem dX10_append_22 : decode cX10_append 22 = .ok (.aload_n 0, 1) := by decide +kernel
theorem dX10_append_23 : decode cX10_append 23 = .ok (.getfield 26, 3) := by decide +kernel
theorem dX10_append_26 : decode cX10_append 26 = .ok (.invokevirtual 136, 3) := by decide +kernel
theorem dX10_append_29 : decode cX10_append 29 = .ok (.ifCond .eq 13, 3) := by decide +kernel
theorem dX10_append_32 : decode cX10_append 32 = .ok (.new 57, 3) := by decide +kernel
theorem dX10_append_35 : decode cX10_append 35 = .ok (.dup, 1) := by decide +kernel
theorem dX10_append_36 : decode cX10_append 36 = .ok (.ldc 140, 2) := by decide +kernel
theorem dX10_append_38 : decode cX10_append 38 = .ok (.invokespecial 61, 3) := by decide +kernel
theorem dX10_append_41 : decode cX10_append 41 = .ok (.athrow, 1) := by decide +kernel
theorem dX10_append_42 : decode cX10_append 42 = .ok (.aload_n 0, 1) := by decide +kernel
theorem dX10_append_43 : decode cX10_append 43 = .ok (.getfield 26, 3) := by decide +kernel
theorem dX10_append_46 : decode cX10_append 46 = .ok (.iload_n 1, 1) := by decide +kernel
theorem dX10_append_47 : decode cX10_append 47 = .ok (.invokevirtual 142, 3) := by decide +kernel
theorem dX10_append_50 : decode cX10_append 50 = .ok (.ireturn, 1) := by decide +kernel
theorem dX10_clearBuffer_0 : decode cX10_clearBuffer 0 = .ok (.aload_n 0, 1) := by decide +kernel
theorem dX10_clearBuffer_1 : decode cX10_clearBuffer 1 = .ok (.getfield 26, 3) := by decide +kernel
theorem dX10_clearBuffer_4 : decode cX10_clearBuffer 4 = .ok (.invokevirtual 68, 3) := by decide +kernel
theorem dX10_clearBuffer_7 : decode cX10_clearBuffer 7 = .ok (.ireturn, 1) := by decide +kernel
theorem dX10_stopped_0 : decode cX10_stopped 0 = .ok (.iload_n 1, 1) := by decide +kernel
theorem dX10_stopped_1 : decode cX10_stopped 1 = .ok (.ifCond .eq 18, 3) := by decide +kernel
theorem dX10_stopped_4 : decode cX10_stopped 4 = .ok (.iload_n 1, 1) := by decide +kernel
theorem dX10_stopped_5 : decode cX10_stopped 5 = .ok (.iconst 1, 1) := by decide +kernel
theorem dX10_stopped_6 : decode cX10_stopped 6 = .ok (.if_icmp .eq 13, 3) := by decide +kernel
theorem dX10_stopped_9 : decode cX10_stopped 9 = .ok (.new 106, 3) := by decide +kernel
theorem dX10_stopped_12 : decode cX10_stopped 12 = .ok (.dup, 1) := by decide +kernel
theorem dX10_stopped_13 : decode cX10_stopped 13 = .ok (.ldc 167, 2) := by decide +kernel
theorem dX10_stopped_15 : decode cX10_stopped 15 = .ok (.invokespecial 110, 3) := by decide +kernel
theorem dX10_stopped_18 : decode cX10_stopped 18 = .ok (.athrow, 1) := by decide +kernel
theorem dX10_stopped_19 : decode cX10_stopped 19 = .ok (.aload_n 0, 1) := by decide +kernel
theorem dX10_stopped_20 : decode cX10_stopped 20 = .ok (.iload_n 1, 1) := by decide +kernel
theorem dX10_stopped_21 : decode cX10_stopped 21 = .ok (.invokevirtual 169, 3) := by decide +kernel
theorem dX10_stopped_24 : decode cX10_stopped 24 = .ok (.ireturn, 1) := by decide +kernel
theorem dX10_told_0 : decode cX10_told 0 = .ok (.iload_n 1, 1) := by decide +kernel
theorem dX10_told_1 : decode cX10_told 1 = .ok (.invokestatic 44, 3) := by decide +kernel
theorem dX10_told_4 : decode cX10_told 4 = .ok (.iload_n 2, 1) := by decide +kernel
theorem dX10_told_5 : decode cX10_told 5 = .ok (.ifCond .ge 13, 3) := by decide +kernel
theorem dX10_told_8 : decode cX10_told 8 = .ok (.new 106, 3) := by decide +kernel
theorem dX10_told_11 : decode cX10_told 11 = .ok (.dup, 1) := by decide +kernel
theorem dX10_told_12 : decode cX10_told 12 = .ok (.ldc 172, 2) := by decide +kernel
theorem dX10_told_14 : decode cX10_told 14 = .ok (.invokespecial 110, 3) := by decide +kernel
theorem dX10_told_17 : decode cX10_told 17 = .ok (.athrow, 1) := by decide +kernel
theorem dX10_told_18 : decode cX10_told 18 = .ok (.aload_n 0, 1) := by decide +kernel
theorem dX10_told_19 : decode cX10_told 19 = .ok (.getfield 12, 3) := by decide +kernel
theorem dX10_told_22 : decode cX10_told 22 = .ok (.iload_n 1, 1) := by decide +kernel
theorem dX10_told_23 : decode cX10_told 23 = .ok (.iload_n 2, 1) := by decide +kernel
theorem dX10_told_24 : decode cX10_told 24 = .ok (.invokestatic 174, 3) := by decide +kernel
theorem dX10_told_27 : decode cX10_told 27 = .ok (.ireturn, 1) := by decide +kernel
theorem dX10_keep_0 : decode cX10_keep 0 = .ok (.aload_n 0, 1) := by decide +kernel
theorem dX10_keep_1 : decode cX10_keep 1 = .ok (.getfield 19, 3) := by decide +kernel
theorem dX10_keep_4 : decode cX10_keep 4 = .ok (.aload_n 0, 1) := by decide +kernel
theorem dX10_keep_5 : decode cX10_keep 5 = .ok (.getfield 12, 3) := by decide +kernel
theorem dX10_keep_8 : decode cX10_keep 8 = .ok (.invokevirtual 185, 3) := by decide +kernel
theorem dX10_keep_11 : decode cX10_keep 11 = .ok (.aload_n 0, 1) := by decide +kernel
theorem dX10_keep_12 : decode cX10_keep 12 = .ok (.getfield 12, 3) := by decide +kernel
theorem dX10_keep_15 : decode cX10_keep 15 = .ok (.invokestatic 188, 3) := by decide +kernel
theorem dX10_keep_18 : decode cX10_keep 18 = .ok (.ireturn, 1) := by decide +kernel
theorem dX10_restore_0 : decode cX10_restore 0 = .ok (.aload_n 0, 1) := by decide +kernel
theorem dX10_restore_1 : decode cX10_restore 1 = .ok (.getfield 19, 3) := by decide +kernel
theorem dX10_restore_4 : decode cX10_restore 4 = .ok (.invokevirtual 192, 3) := by decide +kernel
theorem dX10_restore_7 : decode cX10_restore 7 = .ok (.ifCond .ne 13, 3) := by decide +kernel
theorem dX10_restore_10 : decode cX10_restore 10 = .ok (.new 57, 3) := by decide +kernel
theorem dX10_restore_13 : decode cX10_restore 13 = .ok (.dup, 1) := by decide +kernel
theorem dX10_restore_14 : decode cX10_restore 14 = .ok (.ldc 195, 2) := by decide +kernel
theorem dX10_restore_16 : decode cX10_restore 16 = .ok (.invokespecial 61, 3) := by decide +kernel
theorem dX10_restore_19 : decode cX10_restore 19 = .ok (.athrow, 1) := by decide +kernel
theorem dX10_restore_20 : decode cX10_restore 20 = .ok (.aload_n 0, 1) := by decide +kernel
theorem dX10_restore_21 : decode cX10_restore 21 = .ok (.getfield 19, 3) := by decide +kernel
theorem dX10_restore_24 : decode cX10_restore 24 = .ok (.aload_n 0, 1) := by decide +kernel
theorem dX10_restore_25 : decode cX10_restore 25 = .ok (.getfield 12, 3) := by decide +kernel
theorem dX10_restore_28 : decode cX10_restore 28 = .ok (.invokevirtual 64, 3) := by decide +kernel
theorem dX10_restore_31 : decode cX10_restore 31 = .ok (.aload_n 0, 1) := by decide +kernel
theorem dX10_restore_32 : decode cX10_restore 32 = .ok (.getfield 19, 3) := by decide +kernel
theorem dX10_restore_35 : decode cX10_restore 35 = .ok (.aload_n 0, 1) := by decide +kernel
theorem dX10_restore_36 : decode cX10_restore 36 = .ok (.getfield 12, 3) := by decide +kernel
theorem dX10_restore_39 : decode cX10_restore 39 = .ok (.invokevirtual 197, 3) := by decide +kernel
theorem dX10_restore_42 : decode cX10_restore 42 = .ok (.aload_n 0, 1) := by decide +kernel
theorem dX10_restore_43 : decode cX10_restore 43 = .ok (.getfield 12, 3) := by decide +kernel
theorem dX10_restore_46 : decode cX10_restore 46 = .ok (.invokestatic 188, 3) := by decide +kernel
theorem dX10_restore_49 : decode cX10_restore 49 = .ok (.ireturn, 1) := by decide +kernel
theorem dX10_letter_0 : decode cX10_letter 0 = .ok (.iload_n 1, 1) := by decide +kernel
theorem dX10_letter_1 : decode cX10_letter 1 = .ok (.ifCond .lt 9, 3) := by decide +kernel
theorem dX10_letter_4 : decode cX10_letter 4 = .ok (.iload_n 1, 1) := by decide +kernel
theorem dX10_letter_5 : decode cX10_letter 5 = .ok (.bipush 16, 2) := by decide +kernel
theorem dX10_letter_7 : decode cX10_letter 7 = .ok (.if_icmp .lt 13, 3) := by decide +kernel
theorem dX10_letter_10 : decode cX10_letter 10 = .ok (.new 127, 3) := by decide +kernel
theorem dX10_letter_13 : decode cX10_letter 13 = .ok (.dup, 1) := by decide +kernel
theorem dX10_letter_14 : decode cX10_letter 14 = .ok (.ldc 200, 2) := by decide +kernel
theorem dX10_letter_16 : decode cX10_letter 16 = .ok (.invokespecial 131, 3) := by decide +kernel
theorem dX10_letter_19 : decode cX10_letter 19 = .ok (.athrow, 1) := by decide +kernel
theorem dX10_letter_20 : decode cX10_letter 20 = .ok (.iload_n 2, 1) := by decide +kernel
theorem dX10_letter_21 : decode cX10_letter 21 = .ok (.iconst 5, 1) := by decide +kernel
theorem dX10_letter_22 : decode cX10_letter 22 = .ok (.invokestatic 202, 3) := by decide +kernel
theorem dX10_letter_25 : decode cX10_letter 25 = .ok (.aload_n 0, 1) := by decide +kernel
theorem dX10_letter_26 : decode cX10_letter 26 = .ok (.getfield 12, 3) := by decide +kernel
theorem dX10_letter_29 : decode cX10_letter 29 = .ok (.iload_n 1, 1) := by decide +kernel
theorem dX10_letter_30 : decode cX10_letter 30 = .ok (.iload_n 2, 1) := by decide +kernel
theorem dX10_letter_31 : decode cX10_letter 31 = .ok (.invokestatic 205, 3) := by decide +kernel
theorem dX10_letter_34 : decode cX10_letter 34 = .ok (.ireturn, 1) := by decide +kernel
theorem dX10_knot_0 : decode cX10_knot 0 = .ok (.aload_n 0, 1) := by decide +kernel
theorem dX10_knot_1 : decode cX10_knot 1 = .ok (.iload_n 1, 1) := by decide +kernel
theorem dX10_knot_2 : decode cX10_knot 2 = .ok (.iload_n 2, 1) := by decide +kernel
theorem dX10_knot_3 : decode cX10_knot 3 = .ok (.invokevirtual 75, 3) := by decide +kernel
theorem dX10_knot_6 : decode cX10_knot 6 = .ok (.iload_n 3, 1) := by decide +kernel
theorem dX10_knot_7 : decode cX10_knot 7 = .ok (.ifCond .lt 9, 3) := by decide +kernel
theorem dX10_knot_10 : decode cX10_knot 10 = .ok (.iload_n 3, 1) := by decide +kernel
theorem dX10_knot_11 : decode cX10_knot 11 = .ok (.bipush 8, 2) := by decide +kernel
theorem dX10_knot_13 : decode cX10_knot 13 = .ok (.if_icmp .lt 13, 3) := by decide +kernel
theorem dX10_knot_16 : decode cX10_knot 16 = .ok (.new 106, 3) := by decide +kernel
theorem dX10_knot_19 : decode cX10_knot 19 = .ok (.dup, 1) := by decide +kernel
theorem dX10_knot_20 : decode cX10_knot 20 = .ok (.ldc 208, 2) := by decide +kernel
theorem dX10_knot_22 : decode cX10_knot 22 = .ok (.invokespecial 110, 3) := by decide +kernel
theorem dX10_knot_25 : decode cX10_knot 25 = .ok (.athrow, 1) := by decide +kernel
theorem dX10_knot_26 : decode cX10_knot 26 = .ok (.iload 4, 2) := by decide +kernel
theorem dX10_knot_28 : decode cX10_knot 28 = .ok (.iconst 2, 1) := by decide +kernel
theorem dX10_knot_29 : decode cX10_knot 29 = .ok (.invokestatic 202, 3) := by decide +kernel
theorem dX10_knot_32 : decode cX10_knot 32 = .ok (.aload_n 0, 1) := by decide +kernel
theorem dX10_knot_33 : decode cX10_knot 33 = .ok (.getfield 12, 3) := by decide +kernel
theorem dX10_knot_36 : decode cX10_knot 36 = .ok (.iload_n 1, 1) := by decide +kernel
theorem dX10_knot_37 : decode cX10_knot 37 = .ok (.iload_n 2, 1) := by decide +kernel
theorem dX10_knot_38 : decode cX10_knot 38 = .ok (.iload_n 3, 1) := by decide +kernel
theorem dX10_knot_39 : decode cX10_knot 39 = .ok (.iload 4, 2) := by decide +kernel
theorem dX10_knot_41 : decode cX10_knot 41 = .ok (.invokestatic 210, 3) := by decide +kernel
theorem dX10_knot_44 : decode cX10_knot 44 = .ok (.ireturn, 1) := by decide +kernel
theorem dX10_name_0 : decode cX10_name 0 = .ok (.aload_n 0, 1) := by decide +kernel
theorem dX10_name_1 : decode cX10_name 1 = .ok (.iload_n 1, 1) := by decide +kernel
theorem dX10_name_2 : decode cX10_name 2 = .ok (.iload_n 2, 1) := by decide +kernel
theorem dX10_name_3 : decode cX10_name 3 = .ok (.invokevirtual 75, 3) := by decide +kernel
theorem dX10_name_6 : decode cX10_name 6 = .ok (.iload_n 3, 1) := by decide +kernel
theorem dX10_name_7 : decode cX10_name 7 = .ok (.iconst 4, 1) := by decide +kernel
theorem dX10_name_8 : decode cX10_name 8 = .ok (.invokestatic 202, 3) := by decide +kernel
theorem dX10_name_11 : decode cX10_name 11 = .ok (.aload_n 0, 1) := by decide +kernel
theorem dX10_name_12 : decode cX10_name 12 = .ok (.getfield 12, 3) := by decide +kernel
theorem dX10_name_15 : decode cX10_name 15 = .ok (.iload_n 1, 1) := by decide +kernel
theorem dX10_name_16 : decode cX10_name 16 = .ok (.iload_n 2, 1) := by decide +kernel
theorem dX10_name_17 : decode cX10_name 17 = .ok (.iload_n 3, 1) := by decide +kernel
theorem dX10_name_18 : decode cX10_name 18 = .ok (.invokestatic 214, 3) := by decide +kernel
theorem dX10_name_21 : decode cX10_name 21 = .ok (.ireturn, 1) := by decide +kernel
theorem dX10_fisher_0 : decode cX10_fisher 0 = .ok (.iload_n 1, 1) := by decide +kernel
theorem dX10_fisher_1 : decode cX10_fisher 1 = .ok (.invokestatic 44, 3) := by decide +kernel
theorem dX10_fisher_4 : decode cX10_fisher 4 = .ok (.iload_n 2, 1) := by decide +kernel
theorem dX10_fisher_5 : decode cX10_fisher 5 = .ok (.iconst 4, 1) := by decide +kernel
theorem dX10_fisher_6 : decode cX10_fisher 6 = .ok (.invokestatic 202, 3) := by decide +kernel
theorem dX10_fisher_9 : decode cX10_fisher 9 = .ok (.aload_n 0, 1) := by decide +kernel
theorem dX10_fisher_10 : decode cX10_fisher 10 = .ok (.getfield 12, 3) := by decide +kernel
theorem dX10_fisher_13 : decode cX10_fisher 13 = .ok (.iload_n 1, 1) := by decide +kernel
theorem dX10_fisher_14 : decode cX10_fisher 14 = .ok (.iload_n 2, 1) := by decide +kernel
theorem dX10_fisher_15 : decode cX10_fisher 15 = .ok (.invokestatic 218, 3) := by decide +kernel
theorem dX10_fisher_18 : decode cX10_fisher 18 = .ok (.ireturn, 1) := by decide +kernel
theorem dX10_drowned_0 : decode cX10_drowned 0 = .ok (.iload_n 1, 1) := by decide +kernel
theorem dX10_drowned_1 : decode cX10_drowned 1 = .ok (.ifCond .ge 13, 3) := by decide +kernel
theorem dX10_drowned_4 : decode cX10_drowned 4 = .ok (.new 106, 3) := by decide +kernel
theorem dX10_drowned_7 : decode cX10_drowned 7 = .ok (.dup, 1) := by decide +kernel
theorem dX10_drowned_8 : decode cX10_drowned 8 = .ok (.ldc 221, 2) := by decide +kernel
theorem dX10_drowned_10 : decode cX10_drowned 10 = .ok (.invokespecial 110, 3) := by decide +kernel
theorem dX10_drowned_13 : decode cX10_drowned 13 = .ok (.athrow, 1) := by decide +kernel
theorem dX10_drowned_14 : decode cX10_drowned 14 = .ok (.iload_n 2, 1) := by decide +kernel
theorem dX10_drowned_15 : decode cX10_drowned 15 = .ok (.iconst 3, 1) := by decide +kernel
theorem dX10_drowned_16 : decode cX10_drowned 16 = .ok (.invokestatic 202, 3) := by decide +kernel
theorem dX10_drowned_19 : decode cX10_drowned 19 = .ok (.aload_n 0, 1) := by decide +kernel
theorem dX10_drowned_20 : decode cX10_drowned 20 = .ok (.getfield 12, 3) := by decide +kernel
theorem dX10_drowned_23 : decode cX10_drowned 23 = .ok (.iload_n 1, 1) := by decide +kernel
theorem dX10_drowned_24 : decode cX10_drowned 24 = .ok (.iload_n 2, 1) := by decide +kernel
theorem dX10_drowned_25 : decode cX10_drowned 25 = .ok (.invokestatic 223, 3) := by decide +kernel
theorem dX10_drowned_28 : decode cX10_drowned 28 = .ok (.ireturn, 1) := by decide +kernel
theorem dX10_count_0 : decode cX10_count 0 = .ok (.iload_n 1, 1) := by decide +kernel
theorem dX10_count_1 : decode cX10_count 1 = .ok (.bipush 13, 2) := by decide +kernel
theorem dX10_count_3 : decode cX10_count 3 = .ok (.invokestatic 202, 3) := by decide +kernel
theorem dX10_count_6 : decode cX10_count 6 = .ok (.iload_n 1, 1) := by decide +kernel
theorem dX10_count_7 : decode cX10_count 7 = .ok (.bipush 13, 2) := by decide +kernel
theorem dX10_count_9 : decode cX10_count 9 = .ok (.if_icmp .ne 13, 3) := by decide +kernel
theorem dX10_count_12 : decode cX10_count 12 = .ok (.aload_n 0, 1) := by decide +kernel
theorem dX10_count_13 : decode cX10_count 13 = .ok (.getfield 19, 3) := by decide +kernel
theorem dX10_count_16 : decode cX10_count 16 = .ok (.invokevirtual 179, 3) := by decide +kernel
theorem dX10_count_19 : decode cX10_count 19 = .ok (.goto 11, 3) := by decide +kernel
theorem dX10_count_22 : decode cX10_count 22 = .ok (.aload_n 0, 1) := by decide +kernel
theorem dX10_count_23 : decode cX10_count 23 = .ok (.getfield 12, 3) := by decide +kernel
theorem dX10_count_26 : decode cX10_count 26 = .ok (.iload_n 1, 1) := by decide +kernel
theorem dX10_count_27 : decode cX10_count 27 = .ok (.invokestatic 230, 3) := by decide +kernel
theorem dX10_count_30 : decode cX10_count 30 = .ok (.ireturn, 1) := by decide +kernel
theorem dX10_whyNot_0 : decode cX10_whyNot 0 = .ok (.iload_n 1, 1) := by decide +kernel
theorem dX10_whyNot_1 : decode cX10_whyNot 1 = .ok (.invokestatic 44, 3) := by decide +kernel
theorem dX10_whyNot_4 : decode cX10_whyNot 4 = .ok (.aload_n 0, 1) := by decide +kernel
theorem dX10_whyNot_5 : decode cX10_whyNot 5 = .ok (.invokevirtual 48, 3) := by decide +kernel
theorem dX10_whyNot_8 : decode cX10_whyNot 8 = .ok (.aload_n 0, 1) := by decide +kernel
theorem dX10_whyNot_9 : decode cX10_whyNot 9 = .ok (.getfield 12, 3) := by decide +kernel
theorem dX10_whyNot_12 : decode cX10_whyNot 12 = .ok (.aload_n 0, 1) := by decide +kernel
theorem dX10_whyNot_13 : decode cX10_whyNot 13 = .ok (.getfield 40, 3) := by decide +kernel
theorem dX10_whyNot_16 : decode cX10_whyNot 16 = .ok (.iload_n 1, 1) := by decide +kernel
theorem dX10_whyNot_17 : decode cX10_whyNot 17 = .ok (.invokestatic 51, 3) := by decide +kernel
theorem dX10_whyNot_20 : decode cX10_whyNot 20 = .ok (.ireturn, 1) := by decide +kernel
theorem dX10_noGift_0 : decode cX10_noGift 0 = .ok (.aload_n 0, 1) := by decide +kernel
theorem dX10_noGift_1 : decode cX10_noGift 1 = .ok (.iload_n 1, 1) := by decide +kernel
theorem dX10_noGift_2 : decode cX10_noGift 2 = .ok (.iload_n 2, 1) := by decide +kernel
theorem dX10_noGift_3 : decode cX10_noGift 3 = .ok (.invokevirtual 75, 3) := by decide +kernel
theorem dX10_noGift_6 : decode cX10_noGift 6 = .ok (.iload_n 3, 1) := by decide +kernel
theorem dX10_noGift_7 : decode cX10_noGift 7 = .ok (.invokestatic 44, 3) := by decide +kernel
theorem dX10_noGift_10 : decode cX10_noGift 10 = .ok (.aload_n 0, 1) := by decide +kernel
theorem dX10_noGift_11 : decode cX10_noGift 11 = .ok (.getfield 12, 3) := by decide +kernel
theorem dX10_noGift_14 : decode cX10_noGift 14 = .ok (.aload_n 0, 1) := by decide +kernel
theorem dX10_noGift_15 : decode cX10_noGift 15 = .ok (.getfield 40, 3) := by decide +kernel
theorem dX10_noGift_18 : decode cX10_noGift 18 = .ok (.iload_n 1, 1) := by decide +kernel
theorem dX10_noGift_19 : decode cX10_noGift 19 = .ok (.iload_n 2, 1) := by decide +kernel
theorem dX10_noGift_20 : decode cX10_noGift 20 = .ok (.iload_n 3, 1) := by decide +kernel
theorem dX10_noGift_21 : decode cX10_noGift 21 = .ok (.invokestatic 91, 3) := by decide +kernel
theorem dX10_noGift_24 : decode cX10_noGift 24 = .ok (.ireturn, 1) := by decide +kernel
theorem dX10_ifStorm_0 : decode cX10_ifStorm 0 = .ok (.iload_n 1, 1) := by decide +kernel
theorem dX10_ifStorm_1 : decode cX10_ifStorm 1 = .ok (.invokestatic 44, 3) := by decide +kernel
theorem dX10_ifStorm_4 : decode cX10_ifStorm 4 = .ok (.iload_n 2, 1) := by decide +kernel
theorem dX10_ifStorm_5 : decode cX10_ifStorm 5 = .ok (.iconst 1, 1) := by decide +kernel
theorem dX10_ifStorm_6 : decode cX10_ifStorm 6 = .ok (.invokestatic 202, 3) := by decide +kernel
theorem dX10_ifStorm_9 : decode cX10_ifStorm 9 = .ok (.aload_n 0, 1) := by decide +kernel
theorem dX10_ifStorm_10 : decode cX10_ifStorm 10 = .ok (.getfield 12, 3) := by decide +kernel
theorem dX10_ifStorm_13 : decode cX10_ifStorm 13 = .ok (.iload_n 1, 1) := by decide +kernel
theorem dX10_ifStorm_14 : decode cX10_ifStorm 14 = .ok (.iload_n 2, 1) := by decide +kernel
theorem dX10_ifStorm_15 : decode cX10_ifStorm 15 = .ok (.invokestatic 233, 3) := by decide +kernel
theorem dX10_ifStorm_18 : decode cX10_ifStorm 18 = .ok (.ireturn, 1) := by decide +kernel
theorem dX10_bestBelt_0 : decode cX10_bestBelt 0 = .ok (.aload_n 0, 1) := by decide +kernel
theorem dX10_bestBelt_1 : decode cX10_bestBelt 1 = .ok (.invokevirtual 48, 3) := by decide +kernel
theorem dX10_bestBelt_4 : decode cX10_bestBelt 4 = .ok (.iconst (-1), 1) := by decide +kernel
theorem dX10_bestBelt_5 : decode cX10_bestBelt 5 = .ok (.istore_n 1, 1) := by decide +kernel
theorem dX10_bestBelt_6 : decode cX10_bestBelt 6 = .ok (.iconst 0, 1) := by decide +kernel
theorem dX10_bestBelt_7 : decode cX10_bestBelt 7 = .ok (.istore_n 2, 1) := by decide +kernel
theorem dX10_bestBelt_8 : decode cX10_bestBelt 8 = .ok (.iload_n 2, 1) := by decide +kernel
theorem dX10_bestBelt_9 : decode cX10_bestBelt 9 = .ok (.iconst 5, 1) := by decide +kernel
theorem dX10_bestBelt_10 : decode cX10_bestBelt 10 = .ok (.if_icmp .ge 60, 3) := by decide +kernel
theorem dX10_bestBelt_13 : decode cX10_bestBelt 13 = .ok (.aload_n 0, 1) := by decide +kernel
theorem dX10_bestBelt_14 : decode cX10_bestBelt 14 = .ok (.getfield 12, 3) := by decide +kernel
theorem dX10_bestBelt_17 : decode cX10_bestBelt 17 = .ok (.aload_n 0, 1) := by decide +kernel
theorem dX10_bestBelt_18 : decode cX10_bestBelt 18 = .ok (.getfield 40, 3) := by decide +kernel
theorem dX10_bestBelt_21 : decode cX10_bestBelt 21 = .ok (.iload_n 2, 1) := by decide +kernel
theorem dX10_bestBelt_22 : decode cX10_bestBelt 22 = .ok (.invokestatic 51, 3) := by decide +kernel
theorem dX10_bestBelt_25 : decode cX10_bestBelt 25 = .ok (.ifCond .ne 7, 3) := by decide +kernel
theorem dX10_bestBelt_28 : decode cX10_bestBelt 28 = .ok (.iconst 1, 1) := by decide +kernel
theorem dX10_bestBelt_29 : decode cX10_bestBelt 29 = .ok (.goto 4, 3) := by decide +kernel
theorem dX10_bestBelt_32 : decode cX10_bestBelt 32 = .ok (.iconst 0, 1) := by decide +kernel
theorem dX10_bestBelt_33 : decode cX10_bestBelt 33 = .ok (.istore_n 3, 1) := by decide +kernel
theorem dX10_bestBelt_34 : decode cX10_bestBelt 34 = .ok (.iload_n 3, 1) := by decide +kernel
theorem dX10_bestBelt_35 : decode cX10_bestBelt 35 = .ok (.ifCond .eq 29, 3) := by decide +kernel
theorem dX10_bestBelt_38 : decode cX10_bestBelt 38 = .ok (.iload_n 1, 1) := by decide +kernel
theorem dX10_bestBelt_39 : decode cX10_bestBelt 39 = .ok (.iconst (-1), 1) := by decide +kernel
theorem dX10_bestBelt_40 : decode cX10_bestBelt 40 = .ok (.if_icmp .eq 22, 3) := by decide +kernel
theorem dX10_bestBelt_43 : decode cX10_bestBelt 43 = .ok (.aload_n 0, 1) := by decide +kernel
theorem dX10_bestBelt_44 : decode cX10_bestBelt 44 = .ok (.getfield 12, 3) := by decide +kernel
theorem dX10_bestBelt_47 : decode cX10_bestBelt 47 = .ok (.iload_n 2, 1) := by decide +kernel
theorem dX10_bestBelt_48 : decode cX10_bestBelt 48 = .ok (.invokevirtual 119, 3) := by decide +kernel
theorem dX10_bestBelt_51 : decode cX10_bestBelt 51 = .ok (.aload_n 0, 1) := by decide +kernel
theorem dX10_bestBelt_52 : decode cX10_bestBelt 52 = .ok (.getfield 12, 3) := by decide +kernel
theorem dX10_bestBelt_55 : decode cX10_bestBelt 55 = .ok (.iload_n 1, 1) := by decide +kernel
theorem dX10_bestBelt_56 : decode cX10_bestBelt 56 = .ok (.invokevirtual 119, 3) := by decide +kernel
theorem dX10_bestBelt_59 : decode cX10_bestBelt 59 = .ok (.if_icmp .le 5, 3) := by decide +kernel
theorem dX10_bestBelt_62 : decode cX10_bestBelt 62 = .ok (.iload_n 2, 1) := by decide +kernel
theorem dX10_bestBelt_63 : decode cX10_bestBelt 63 = .ok (.istore_n 1, 1) := by decide +kernel
theorem dX10_bestBelt_64 : decode cX10_bestBelt 64 = .ok (.iinc 2 1, 3) := by decide +kernel
theorem dX10_bestBelt_67 : decode cX10_bestBelt 67 = .ok (.goto (-59), 3) := by decide +kernel
theorem dX10_bestBelt_70 : decode cX10_bestBelt 70 = .ok (.iload_n 1, 1) := by decide +kernel
theorem dX10_bestBelt_71 : decode cX10_bestBelt 71 = .ok (.ireturn, 1) := by decide +kernel
theorem dX10_trueShare_0 : decode cX10_trueShare 0 = .ok (.aload_n 0, 1) := by decide +kernel
theorem dX10_trueShare_1 : decode cX10_trueShare 1 = .ok (.getfield 12, 3) := by decide +kernel
theorem dX10_trueShare_4 : decode cX10_trueShare 4 = .ok (.invokestatic 236, 3) := by decide +kernel
theorem dX10_trueShare_7 : decode cX10_trueShare 7 = .ok (.dreturn, 1) := by decide +kernel
theorem dX10_needFisher_0 : decode cX10_needFisher 0 = .ok (.iload_n 0, 1) := by decide +kernel
theorem dX10_needFisher_1 : decode cX10_needFisher 1 = .ok (.ifCond .lt 8, 3) := by decide +kernel
theorem dX10_needFisher_4 : decode cX10_needFisher 4 = .ok (.iload_n 0, 1) := by decide +kernel
theorem dX10_needFisher_5 : decode cX10_needFisher 5 = .ok (.iconst 5, 1) := by decide +kernel
theorem dX10_needFisher_6 : decode cX10_needFisher 6 = .ok (.if_icmp .lt 14, 3) := by decide +kernel
theorem dX10_needFisher_9 : decode cX10_needFisher 9 = .ok (.new 127, 3) := by decide +kernel
theorem dX10_needFisher_12 : decode cX10_needFisher 12 = .ok (.dup, 1) := by decide +kernel
theorem dX10_needFisher_13 : decode cX10_needFisher 13 = .ok (.ldc_w 268, 3) := by decide +kernel
theorem dX10_needFisher_16 : decode cX10_needFisher 16 = .ok (.invokespecial 131, 3) := by decide +kernel
theorem dX10_needFisher_19 : decode cX10_needFisher 19 = .ok (.athrow, 1) := by decide +kernel
theorem dX10_needFisher_20 : decode cX10_needFisher 20 = .ok (.return_, 1) := by decide +kernel
theorem dX10_needName_0 : decode cX10_needName 0 = .ok (.iload_n 1, 1) := by decide +kernel
theorem dX10_needName_1 : decode cX10_needName 1 = .ok (.invokestatic 44, 3) := by decide +kernel
theorem dX10_needName_4 : decode cX10_needName 4 = .ok (.aload_n 0, 1) := by decide +kernel
theorem dX10_needName_5 : decode cX10_needName 5 = .ok (.getfield 12, 3) := by decide +kernel
theorem dX10_needName_8 : decode cX10_needName 8 = .ok (.iload_n 1, 1) := by decide +kernel
theorem dX10_needName_9 : decode cX10_needName 9 = .ok (.iload_n 2, 1) := by decide +kernel
theorem dX10_needName_10 : decode cX10_needName 10 = .ok (.invokevirtual 270, 3) := by decide +kernel
theorem dX10_needName_13 : decode cX10_needName 13 = .ok (.ifCond .ne 14, 3) := by decide +kernel
theorem dX10_needName_16 : decode cX10_needName 16 = .ok (.new 127, 3) := by decide +kernel
theorem dX10_needName_19 : decode cX10_needName 19 = .ok (.dup, 1) := by decide +kernel
theorem dX10_needName_20 : decode cX10_needName 20 = .ok (.ldc_w 274, 3) := by decide +kernel
theorem dX10_needName_23 : decode cX10_needName 23 = .ok (.invokespecial 131, 3) := by decide +kernel
theorem dX10_needName_26 : decode cX10_needName 26 = .ok (.athrow, 1) := by decide +kernel
theorem dX10_needName_27 : decode cX10_needName 27 = .ok (.return_, 1) := by decide +kernel
theorem dX10_needWord_0 : decode cX10_needWord 0 = .ok (.aload_n 0, 1) := by decide +kernel
theorem dX10_needWord_1 : decode cX10_needWord 1 = .ok (.getfield 26, 3) := by decide +kernel
theorem dX10_needWord_4 : decode cX10_needWord 4 = .ok (.aload_n 0, 1) := by decide +kernel
theorem dX10_needWord_5 : decode cX10_needWord 5 = .ok (.getfield 40, 3) := by decide +kernel
theorem dX10_needWord_8 : decode cX10_needWord 8 = .ok (.invokevirtual 276, 3) := by decide +kernel
theorem dX10_needWord_11 : decode cX10_needWord 11 = .ok (.ifCond .ne 14, 3) := by decide +kernel
theorem dX10_needWord_14 : decode cX10_needWord 14 = .ok (.new 106, 3) := by decide +kernel
theorem dX10_needWord_17 : decode cX10_needWord 17 = .ok (.dup, 1) := by decide +kernel
theorem dX10_needWord_18 : decode cX10_needWord 18 = .ok (.ldc_w 280, 3) := by decide +kernel
theorem dX10_needWord_21 : decode cX10_needWord 21 = .ok (.invokespecial 110, 3) := by decide +kernel
theorem dX10_needWord_24 : decode cX10_needWord 24 = .ok (.athrow, 1) := by decide +kernel
theorem dX10_needWord_25 : decode cX10_needWord 25 = .ok (.return_, 1) := by decide +kernel
theorem dX10_needWhat_0 : decode cX10_needWhat 0 = .ok (.iload_n 0, 1) := by decide +kernel
theorem dX10_needWhat_1 : decode cX10_needWhat 1 = .ok (.ifCond .lt 8, 3) := by decide +kernel
theorem dX10_needWhat_4 : decode cX10_needWhat 4 = .ok (.iload_n 0, 1) := by decide +kernel
theorem dX10_needWhat_5 : decode cX10_needWhat 5 = .ok (.iload_n 1, 1) := by decide +kernel
theorem dX10_needWhat_6 : decode cX10_needWhat 6 = .ok (.if_icmp .le 14, 3) := by decide +kernel
theorem dX10_needWhat_9 : decode cX10_needWhat 9 = .ok (.new 106, 3) := by decide +kernel
theorem dX10_needWhat_12 : decode cX10_needWhat 12 = .ok (.dup, 1) := by decide +kernel
theorem dX10_needWhat_13 : decode cX10_needWhat 13 = .ok (.ldc_w 282, 3) := by decide +kernel
theorem dX10_needWhat_16 : decode cX10_needWhat 16 = .ok (.invokespecial 110, 3) := by decide +kernel
theorem dX10_needWhat_19 : decode cX10_needWhat 19 = .ok (.athrow, 1) := by decide +kernel
theorem dX10_needWhat_20 : decode cX10_needWhat 20 = .ok (.return_, 1) := by decide +kernel
theorem dX10_numberOfStop_0 : decode cX10_numberOfStop 0 = .ok (.aload_n 0, 1) := by decide +kernel
theorem dX10_numberOfStop_1 : decode cX10_numberOfStop 1 = .ok (.getfield 12, 3) := by decide +kernel
theorem dX10_numberOfStop_4 : decode cX10_numberOfStop 4 = .ok (.bipush 6, 2) := by decide +kernel
theorem dX10_numberOfStop_6 : decode cX10_numberOfStop 6 = .ok (.invokevirtual 115, 3) := by decide +kernel
theorem dX10_numberOfStop_9 : decode cX10_numberOfStop 9 = .ok (.ifCond .ne 5, 3) := by decide +kernel
theorem dX10_numberOfStop_12 : decode cX10_numberOfStop 12 = .ok (.iconst (-1), 1) := by decide +kernel
theorem dX10_numberOfStop_13 : decode cX10_numberOfStop 13 = .ok (.ireturn, 1) := by decide +kernel
theorem dX10_numberOfStop_14 : decode cX10_numberOfStop 14 = .ok (.aload_n 0, 1) := by decide +kernel
theorem dX10_numberOfStop_15 : decode cX10_numberOfStop 15 = .ok (.getfield 12, 3) := by decide +kernel
theorem dX10_numberOfStop_18 : decode cX10_numberOfStop 18 = .ok (.iload_n 1, 1) := by decide +kernel
theorem dX10_numberOfStop_19 : decode cX10_numberOfStop 19 = .ok (.ifCond .ne 7, 3) := by decide +kernel
theorem dX10_numberOfStop_22 : decode cX10_numberOfStop 22 = .ok (.iconst 5, 1) := by decide +kernel
theorem dX10_numberOfStop_23 : decode cX10_numberOfStop 23 = .ok (.goto 5, 3) := by decide +kernel
theorem dX10_numberOfStop_26 : decode cX10_numberOfStop 26 = .ok (.bipush 6, 2) := by decide +kernel
theorem dX10_numberOfStop_28 : decode cX10_numberOfStop 28 = .ok (.invokevirtual 115, 3) := by decide +kernel
theorem dX10_numberOfStop_31 : decode cX10_numberOfStop 31 = .ok (.ireturn, 1) := by decide +kernel
theorem dL_cell_0 : decode cL_cell 0 = .ok (.iload_n 1, 1) := by decide +kernel
theorem dL_cell_1 : decode cL_cell 1 = .ok (.aload_n 0, 1) := by decide +kernel
theorem dL_cell_2 : decode cL_cell 2 = .ok (.arraylength, 1) := by decide +kernel
theorem dL_cell_3 : decode cL_cell 3 = .ok (.if_icmp .ge 9, 3) := by decide +kernel
theorem dL_cell_6 : decode cL_cell 6 = .ok (.aload_n 0, 1) := by decide +kernel
theorem dL_cell_7 : decode cL_cell 7 = .ok (.iload_n 1, 1) := by decide +kernel
theorem dL_cell_8 : decode cL_cell 8 = .ok (.iaload, 1) := by decide +kernel
theorem dL_cell_9 : decode cL_cell 9 = .ok (.goto 12, 3) := by decide +kernel
theorem dL_cell_12 : decode cL_cell 12 = .ok (.ldc 7, 2) := by decide +kernel
theorem dL_cell_14 : decode cL_cell 14 = .ok (.iload_n 1, 1) := by decide +kernel
theorem dL_cell_15 : decode cL_cell 15 = .ok (.iconst 5, 1) := by decide +kernel
theorem dL_cell_16 : decode cL_cell 16 = .ok (.iadd, 1) := by decide +kernel
theorem dL_cell_17 : decode cL_cell 17 = .ok (.imul, 1) := by decide +kernel
theorem dL_cell_18 : decode cL_cell 18 = .ok (.ldc 8, 2) := by decide +kernel
theorem dL_cell_20 : decode cL_cell 20 = .ok (.iadd, 1) := by decide +kernel
theorem dL_cell_21 : decode cL_cell 21 = .ok (.ireturn, 1) := by decide +kernel
theorem dL_low_0 : decode cL_low 0 = .ok (.iload_n 0, 1) := by decide +kernel
theorem dL_low_1 : decode cL_low 1 = .ok (.ldc 9, 2) := by decide +kernel
theorem dL_low_3 : decode cL_low 3 = .ok (.iand, 1) := by decide +kernel
theorem dL_low_4 : decode cL_low 4 = .ok (.iload_n 1, 1) := by decide +kernel
theorem dL_low_5 : decode cL_low 5 = .ok (.irem, 1) := by decide +kernel
theorem dL_low_6 : decode cL_low 6 = .ok (.ireturn, 1) := by decide +kernel
theorem dL_isName_0 : decode cL_isName 0 = .ok (.aload_n 0, 1) := by decide +kernel
theorem dL_isName_1 : decode cL_isName 1 = .ok (.iload_n 1, 1) := by decide +kernel
theorem dL_isName_2 : decode cL_isName 2 = .ok (.iload_n 2, 1) := by decide +kernel
theorem dL_isName_3 : decode cL_isName 3 = .ok (.iconst 0, 1) := by decide +kernel
theorem dL_isName_4 : decode cL_isName 4 = .ok (.invokevirtual 10, 3) := by decide +kernel
theorem dL_isName_7 : decode cL_isName 7 = .ok (.istore_n 3, 1) := by decide +kernel
theorem dL_isName_8 : decode cL_isName 8 = .ok (.iconst 2, 1) := by decide +kernel
theorem dL_isName_9 : decode cL_isName 9 = .ok (.istore 4, 2) := by decide +kernel
theorem dL_isName_11 : decode cL_isName 11 = .ok (.iconst 0, 1) := by decide +kernel
theorem dL_isName_12 : decode cL_isName 12 = .ok (.istore 5, 2) := by decide +kernel
theorem dL_isName_14 : decode cL_isName 14 = .ok (.iconst 0, 1) := by decide +kernel
theorem dL_isName_15 : decode cL_isName 15 = .ok (.istore 6, 2) := by decide +kernel
theorem dL_isName_17 : decode cL_isName 17 = .ok (.iconst 0, 1) := by decide +kernel
theorem dL_isName_18 : decode cL_isName 18 = .ok (.istore 7, 2) := by decide +kernel
theorem dL_isName_20 : decode cL_isName 20 = .ok (.iload 7, 2) := by decide +kernel
theorem dL_isName_22 : decode cL_isName 22 = .ok (.bipush 8, 2) := by decide +kernel
theorem dL_isName_24 : decode cL_isName 24 = .ok (.if_icmp .ge 221, 3) := by decide +kernel
theorem dL_isName_27 : decode cL_isName 27 = .ok (.aload_n 0, 1) := by decide +kernel
theorem dL_isName_28 : decode cL_isName 28 = .ok (.iload_n 1, 1) := by decide +kernel
theorem dL_isName_29 : decode cL_isName 29 = .ok (.iload_n 2, 1) := by decide +kernel
theorem dL_isName_30 : decode cL_isName 30 = .ok (.iload 7, 2) := by decide +kernel
theorem dL_isName_32 : decode cL_isName 32 = .ok (.iconst 0, 1) := by decide +kernel
theorem dL_isName_33 : decode cL_isName 33 = .ok (.invokevirtual 16, 3) := by decide +kernel
theorem dL_isName_36 : decode cL_isName 36 = .ok (.istore 8, 2) := by decide +kernel
theorem dL_isName_38 : decode cL_isName 38 = .ok (.aload_n 0, 1) := by decide +kernel
theorem dL_isName_39 : decode cL_isName 39 = .ok (.iload_n 1, 1) := by decide +kernel
theorem dL_isName_40 : decode cL_isName 40 = .ok (.iload_n 2, 1) := by decide +kernel
theorem dL_isName_41 : decode cL_isName 41 = .ok (.iload 7, 2) := by decide +kernel
theorem dL_isName_43 : decode cL_isName 43 = .ok (.iconst 1, 1) := by decide +kernel
theorem dL_isName_44 : decode cL_isName 44 = .ok (.invokevirtual 16, 3) := by decide +kernel
theorem dL_isName_47 : decode cL_isName 47 = .ok (.istore 9, 2) := by decide +kernel
theorem dL_isName_49 : decode cL_isName 49 = .ok (.aload_n 0, 1) := by decide +kernel
theorem dL_isName_50 : decode cL_isName 50 = .ok (.iload_n 1, 1) := by decide +kernel
theorem dL_isName_51 : decode cL_isName 51 = .ok (.iload_n 2, 1) := by decide +kernel
theorem dL_isName_52 : decode cL_isName 52 = .ok (.iload 7, 2) := by decide +kernel
theorem dL_isName_54 : decode cL_isName 54 = .ok (.iconst 2, 1) := by decide +kernel
theorem dL_isName_55 : decode cL_isName 55 = .ok (.invokevirtual 16, 3) := by decide +kernel
theorem dL_isName_58 : decode cL_isName 58 = .ok (.istore 10, 2) := by decide +kernel
theorem dL_isName_60 : decode cL_isName 60 = .ok (.iload 8, 2) := by decide +kernel
theorem dL_isName_62 : decode cL_isName 62 = .ok (.iconst (-1), 1) := by decide +kernel
theorem dL_isName_63 : decode cL_isName 63 = .ok (.if_icmp .ne 7, 3) := by decide +kernel
theorem dL_isName_66 : decode cL_isName 66 = .ok (.iconst 1, 1) := by decide +kernel
theorem dL_isName_67 : decode cL_isName 67 = .ok (.goto 4, 3) := by decide +kernel
theorem dL_isName_70 : decode cL_isName 70 = .ok (.iconst 0, 1) := by decide +kernel
theorem dL_isName_71 : decode cL_isName 71 = .ok (.iload 7, 2) := by decide +kernel
theorem dL_isName_73 : decode cL_isName 73 = .ok (.iload_n 3, 1) := by decide +kernel
theorem dL_isName_74 : decode cL_isName 74 = .ok (.if_icmp .lt 7, 3) := by decide +kernel
theorem dL_isName_77 : decode cL_isName 77 = .ok (.iconst 1, 1) := by decide +kernel
theorem dL_isName_78 : decode cL_isName 78 = .ok (.goto 4, 3) := by decide +kernel
theorem dL_isName_81 : decode cL_isName 81 = .ok (.iconst 0, 1) := by decide +kernel
theorem dL_isName_82 : decode cL_isName 82 = .ok (.if_icmp .ne 53, 3) := by decide +kernel
theorem dL_isName_85 : decode cL_isName 85 = .ok (.iload 8, 2) := by decide +kernel
theorem dL_isName_87 : decode cL_isName 87 = .ok (.iconst (-1), 1) := by decide +kernel
theorem dL_isName_88 : decode cL_isName 88 = .ok (.if_icmp .ne 7, 3) := by decide +kernel
theorem dL_isName_91 : decode cL_isName 91 = .ok (.iconst 1, 1) := by decide +kernel
theorem dL_isName_92 : decode cL_isName 92 = .ok (.goto 4, 3) := by decide +kernel
theorem dL_isName_95 : decode cL_isName 95 = .ok (.iconst 0, 1) := by decide +kernel
theorem dL_isName_96 : decode cL_isName 96 = .ok (.iload 9, 2) := by decide +kernel
theorem dL_isName_98 : decode cL_isName 98 = .ok (.iconst (-1), 1) := by decide +kernel
theorem dL_isName_99 : decode cL_isName 99 = .ok (.if_icmp .ne 7, 3) := by decide +kernel
theorem dL_isName_102 : decode cL_isName 102 = .ok (.iconst 1, 1) := by decide +kernel
theorem dL_isName_103 : decode cL_isName 103 = .ok (.goto 4, 3) := by decide +kernel
theorem dL_isName_106 : decode cL_isName 106 = .ok (.iconst 0, 1) := by decide +kernel
theorem dL_isName_107 : decode cL_isName 107 = .ok (.if_icmp .ne 28, 3) := by decide +kernel
theorem dL_isName_110 : decode cL_isName 110 = .ok (.iload 8, 2) := by decide +kernel
theorem dL_isName_112 : decode cL_isName 112 = .ok (.iconst (-1), 1) := by decide +kernel
theorem dL_isName_113 : decode cL_isName 113 = .ok (.if_icmp .ne 7, 3) := by decide +kernel
theorem dL_isName_116 : decode cL_isName 116 = .ok (.iconst 1, 1) := by decide +kernel
theorem dL_isName_117 : decode cL_isName 117 = .ok (.goto 4, 3) := by decide +kernel
theorem dL_isName_120 : decode cL_isName 120 = .ok (.iconst 0, 1) := by decide +kernel
theorem dL_isName_121 : decode cL_isName 121 = .ok (.iload 10, 2) := by decide +kernel
theorem dL_isName_123 : decode cL_isName 123 = .ok (.iconst (-1), 1) := by decide +kernel
theorem dL_isName_124 : decode cL_isName 124 = .ok (.if_icmp .ne 7, 3) := by decide +kernel
theorem dL_isName_127 : decode cL_isName 127 = .ok (.iconst 1, 1) := by decide +kernel
theorem dL_isName_128 : decode cL_isName 128 = .ok (.goto 4, 3) := by decide +kernel
theorem dL_isName_131 : decode cL_isName 131 = .ok (.iconst 0, 1) := by decide +kernel
theorem dL_isName_132 : decode cL_isName 132 = .ok (.if_icmp .eq 5, 3) := by decide +kernel
theorem dL_isName_135 : decode cL_isName 135 = .ok (.iconst 0, 1) := by decide +kernel
theorem dL_isName_136 : decode cL_isName 136 = .ok (.ireturn, 1) := by decide +kernel
theorem dL_isName_137 : decode cL_isName 137 = .ok (.iload 8, 2) := by decide +kernel
theorem dL_isName_139 : decode cL_isName 139 = .ok (.ifCond .lt 100, 3) := by decide +kernel
theorem dL_isName_142 : decode cL_isName 142 = .ok (.iload 4, 2) := by decide +kernel
theorem dL_isName_144 : decode cL_isName 144 = .ok (.aload_n 0, 1) := by decide +kernel
theorem dL_isName_145 : decode cL_isName 145 = .ok (.iload 8, 2) := by decide +kernel
theorem dL_isName_147 : decode cL_isName 147 = .ok (.iconst 2, 1) := by decide +kernel
theorem dL_isName_148 : decode cL_isName 148 = .ok (.invokevirtual 20, 3) := by decide +kernel
theorem dL_isName_151 : decode cL_isName 151 = .ok (.iconst 1, 1) := by decide +kernel
theorem dL_isName_152 : decode cL_isName 152 = .ok (.iadd, 1) := by decide +kernel
theorem dL_isName_153 : decode cL_isName 153 = .ok (.iadd, 1) := by decide +kernel
theorem dL_isName_154 : decode cL_isName 154 = .ok (.istore 4, 2) := by decide +kernel
theorem dL_isName_156 : decode cL_isName 156 = .ok (.iload 5, 2) := by decide +kernel
theorem dL_isName_158 : decode cL_isName 158 = .ok (.iload 10, 2) := by decide +kernel
theorem dL_isName_160 : decode cL_isName 160 = .ok (.ifCond .le 7, 3) := by decide +kernel
theorem dL_isName_163 : decode cL_isName 163 = .ok (.iconst 1, 1) := by decide +kernel
theorem dL_isName_164 : decode cL_isName 164 = .ok (.goto 4, 3) := by decide +kernel
theorem dL_isName_167 : decode cL_isName 167 = .ok (.iconst 0, 1) := by decide +kernel
theorem dL_isName_168 : decode cL_isName 168 = .ok (.iadd, 1) := by decide +kernel
theorem dL_isName_169 : decode cL_isName 169 = .ok (.istore 5, 2) := by decide +kernel
theorem dL_isName_171 : decode cL_isName 171 = .ok (.iload 6, 2) := by decide +kernel
theorem dL_isName_173 : decode cL_isName 173 = .ok (.iload 10, 2) := by decide +kernel
theorem dL_isName_175 : decode cL_isName 175 = .ok (.iconst 1, 1) := by decide +kernel
theorem dL_isName_176 : decode cL_isName 176 = .ok (.if_icmp .le 7, 3) := by decide +kernel
theorem dL_isName_179 : decode cL_isName 179 = .ok (.iconst 1, 1) := by decide +kernel
theorem dL_isName_180 : decode cL_isName 180 = .ok (.goto 4, 3) := by decide +kernel
theorem dL_isName_183 : decode cL_isName 183 = .ok (.iconst 0, 1) := by decide +kernel
theorem dL_isName_184 : decode cL_isName 184 = .ok (.iadd, 1) := by decide +kernel
theorem dL_isName_185 : decode cL_isName 185 = .ok (.istore 6, 2) := by decide +kernel
theorem dL_isName_187 : decode cL_isName 187 = .ok (.iload 9, 2) := by decide +kernel
theorem dL_isName_189 : decode cL_isName 189 = .ok (.iload 10, 2) := by decide +kernel
theorem dL_isName_191 : decode cL_isName 191 = .ok (.ifCond .ne 8, 3) := by decide +kernel
theorem dL_isName_194 : decode cL_isName 194 = .ok (.iload 8, 2) := by decide +kernel
theorem dL_isName_196 : decode cL_isName 196 = .ok (.goto 18, 3) := by decide +kernel
theorem dL_isName_199 : decode cL_isName 199 = .ok (.iload 10, 2) := by decide +kernel
theorem dL_isName_201 : decode cL_isName 201 = .ok (.iconst 1, 1) := by decide +kernel
theorem dL_isName_202 : decode cL_isName 202 = .ok (.if_icmp .ne 10, 3) := by decide +kernel
theorem dL_isName_205 : decode cL_isName 205 = .ok (.iload 8, 2) := by decide +kernel
theorem dL_isName_207 : decode cL_isName 207 = .ok (.iconst 1, 1) := by decide +kernel
theorem dL_isName_208 : decode cL_isName 208 = .ok (.iadd, 1) := by decide +kernel
theorem dL_isName_209 : decode cL_isName 209 = .ok (.goto 5, 3) := by decide +kernel
theorem dL_isName_212 : decode cL_isName 212 = .ok (.bipush 16, 2) := by decide +kernel
theorem dL_isName_214 : decode cL_isName 214 = .ok (.if_icmp .ne 23, 3) := by decide +kernel
theorem dL_isName_217 : decode cL_isName 217 = .ok (.iload 10, 2) := by decide +kernel
theorem dL_isName_219 : decode cL_isName 219 = .ok (.ifCond .le 13, 3) := by decide +kernel
theorem dL_isName_222 : decode cL_isName 222 = .ok (.aload_n 0, 1) := by decide +kernel
theorem dL_isName_223 : decode cL_isName 223 = .ok (.iload 8, 2) := by decide +kernel
theorem dL_isName_225 : decode cL_isName 225 = .ok (.iconst 3, 1) := by decide +kernel
theorem dL_isName_226 : decode cL_isName 226 = .ok (.invokevirtual 20, 3) := by decide +kernel
theorem dL_isName_229 : decode cL_isName 229 = .ok (.ifCond .eq 8, 3) := by decide +kernel
theorem dL_isName_232 : decode cL_isName 232 = .ok (.iload 10, 2) := by decide +kernel
theorem dL_isName_234 : decode cL_isName 234 = .ok (.ifCond .ge 5, 3) := by decide +kernel
theorem dL_isName_237 : decode cL_isName 237 = .ok (.iconst 0, 1) := by decide +kernel
theorem dL_isName_238 : decode cL_isName 238 = .ok (.ireturn, 1) := by decide +kernel
theorem dL_isName_239 : decode cL_isName 239 = .ok (.iinc 7 1, 3) := by decide +kernel
theorem dL_isName_242 : decode cL_isName 242 = .ok (.goto (-222), 3) := by decide +kernel
theorem dL_isName_245 : decode cL_isName 245 = .ok (.aload_n 0, 1) := by decide +kernel
theorem dL_isName_246 : decode cL_isName 246 = .ok (.iload_n 1, 1) := by decide +kernel
theorem dL_isName_247 : decode cL_isName 247 = .ok (.iload_n 2, 1) := by decide +kernel
theorem dL_isName_248 : decode cL_isName 248 = .ok (.iconst 4, 1) := by decide +kernel
theorem dL_isName_249 : decode cL_isName 249 = .ok (.invokevirtual 10, 3) := by decide +kernel
theorem dL_isName_252 : decode cL_isName 252 = .ok (.istore 7, 2) := by decide +kernel
theorem dL_isName_254 : decode cL_isName 254 = .ok (.iload_n 3, 1) := by decide +kernel
theorem dL_isName_255 : decode cL_isName 255 = .ok (.iconst 1, 1) := by decide +kernel
theorem dL_isName_256 : decode cL_isName 256 = .ok (.if_icmp .lt 68, 3) := by decide +kernel
theorem dL_isName_259 : decode cL_isName 259 = .ok (.iload_n 3, 1) := by decide +kernel
theorem dL_isName_260 : decode cL_isName 260 = .ok (.bipush 8, 2) := by decide +kernel
theorem dL_isName_262 : decode cL_isName 262 = .ok (.if_icmp .gt 62, 3) := by decide +kernel
theorem dL_isName_265 : decode cL_isName 265 = .ok (.aload_n 0, 1) := by decide +kernel
theorem dL_isName_266 : decode cL_isName 266 = .ok (.iload_n 1, 1) := by decide +kernel
theorem dL_isName_267 : decode cL_isName 267 = .ok (.iload_n 2, 1) := by decide +kernel
theorem dL_isName_268 : decode cL_isName 268 = .ok (.iconst 1, 1) := by decide +kernel
theorem dL_isName_269 : decode cL_isName 269 = .ok (.invokevirtual 10, 3) := by decide +kernel
theorem dL_isName_272 : decode cL_isName 272 = .ok (.iload 4, 2) := by decide +kernel
theorem dL_isName_274 : decode cL_isName 274 = .ok (.if_icmp .ne 50, 3) := by decide +kernel
theorem dL_isName_277 : decode cL_isName 277 = .ok (.aload_n 0, 1) := by decide +kernel
theorem dL_isName_278 : decode cL_isName 278 = .ok (.iload_n 1, 1) := by decide +kernel
theorem dL_isName_279 : decode cL_isName 279 = .ok (.iload_n 2, 1) := by decide +kernel
theorem dL_isName_280 : decode cL_isName 280 = .ok (.iconst 2, 1) := by decide +kernel
theorem dL_isName_281 : decode cL_isName 281 = .ok (.invokevirtual 10, 3) := by decide +kernel
theorem dL_isName_284 : decode cL_isName 284 = .ok (.iload 5, 2) := by decide +kernel
theorem dL_isName_286 : decode cL_isName 286 = .ok (.if_icmp .ne 38, 3) := by decide +kernel
theorem dL_isName_289 : decode cL_isName 289 = .ok (.aload_n 0, 1) := by decide +kernel
theorem dL_isName_290 : decode cL_isName 290 = .ok (.iload_n 1, 1) := by decide +kernel
theorem dL_isName_291 : decode cL_isName 291 = .ok (.iload_n 2, 1) := by decide +kernel
theorem dL_isName_292 : decode cL_isName 292 = .ok (.iconst 3, 1) := by decide +kernel
theorem dL_isName_293 : decode cL_isName 293 = .ok (.invokevirtual 10, 3) := by decide +kernel
theorem dL_isName_296 : decode cL_isName 296 = .ok (.iload 6, 2) := by decide +kernel
theorem dL_isName_298 : decode cL_isName 298 = .ok (.if_icmp .ne 26, 3) := by decide +kernel
theorem dL_isName_301 : decode cL_isName 301 = .ok (.iload 7, 2) := by decide +kernel
theorem dL_isName_303 : decode cL_isName 303 = .ok (.iconst (-1), 1) := by decide +kernel
theorem dL_isName_304 : decode cL_isName 304 = .ok (.if_icmp .eq 16, 3) := by decide +kernel
theorem dL_isName_307 : decode cL_isName 307 = .ok (.iload 7, 2) := by decide +kernel
theorem dL_isName_309 : decode cL_isName 309 = .ok (.iconst 1, 1) := by decide +kernel
theorem dL_isName_310 : decode cL_isName 310 = .ok (.if_icmp .lt 14, 3) := by decide +kernel
theorem dL_isName_313 : decode cL_isName 313 = .ok (.iload 7, 2) := by decide +kernel
theorem dL_isName_315 : decode cL_isName 315 = .ok (.bipush 60, 2) := by decide +kernel
theorem dL_isName_317 : decode cL_isName 317 = .ok (.if_icmp .gt 7, 3) := by decide +kernel
theorem dL_isName_320 : decode cL_isName 320 = .ok (.iconst 1, 1) := by decide +kernel
theorem dL_isName_321 : decode cL_isName 321 = .ok (.goto 4, 3) := by decide +kernel
theorem dL_isName_324 : decode cL_isName 324 = .ok (.iconst 0, 1) := by decide +kernel
theorem dL_isName_325 : decode cL_isName 325 = .ok (.ireturn, 1) := by decide +kernel
theorem dL_holds_0 : decode cL_holds 0 = .ok (.iconst 0, 1) := by decide +kernel
theorem dL_holds_1 : decode cL_holds 1 = .ok (.istore_n 1, 1) := by decide +kernel
theorem dL_holds_2 : decode cL_holds 2 = .ok (.iconst 0, 1) := by decide +kernel
theorem dL_holds_3 : decode cL_holds 3 = .ok (.istore_n 2, 1) := by decide +kernel
theorem dL_holds_4 : decode cL_holds 4 = .ok (.iconst 0, 1) := by decide +kernel
theorem dL_holds_5 : decode cL_holds 5 = .ok (.istore_n 3, 1) := by decide +kernel
theorem dL_holds_6 : decode cL_holds 6 = .ok (.iconst 0, 1) := by decide +kernel
theorem dL_holds_7 : decode cL_holds 7 = .ok (.istore 4, 2) := by decide +kernel
theorem dL_holds_9 : decode cL_holds 9 = .ok (.iconst 0, 1) := by decide +kernel
theorem dL_holds_10 : decode cL_holds 10 = .ok (.istore 5, 2) := by decide +kernel
theorem dL_holds_12 : decode cL_holds 12 = .ok (.iconst 0, 1) := by decide +kernel
theorem dL_holds_13 : decode cL_holds 13 = .ok (.istore 6, 2) := by decide +kernel
theorem dL_holds_15 : decode cL_holds 15 = .ok (.iconst 0, 1) := by decide +kernel
theorem dL_holds_16 : decode cL_holds 16 = .ok (.istore 7, 2) := by decide +kernel
theorem dL_holds_18 : decode cL_holds 18 = .ok (.iload 7, 2) := by decide +kernel
theorem dL_holds_20 : decode cL_holds 20 = .ok (.iconst 5, 1) := by decide +kernel
theorem dL_holds_21 : decode cL_holds 21 = .ok (.if_icmp .ge 210, 3) := by decide +kernel
theorem dL_holds_24 : decode cL_holds 24 = .ok (.iconst 0, 1) := by decide +kernel
theorem dL_holds_25 : decode cL_holds 25 = .ok (.istore 8, 2) := by decide +kernel
theorem dL_holds_27 : decode cL_holds 27 = .ok (.iconst 0, 1) := by decide +kernel
theorem dL_holds_28 : decode cL_holds 28 = .ok (.istore 9, 2) := by decide +kernel
theorem dL_holds_30 : decode cL_holds 30 = .ok (.iload 9, 2) := by decide +kernel
theorem dL_holds_32 : decode cL_holds 32 = .ok (.aload_n 0, 1) := by decide +kernel
theorem dL_holds_33 : decode cL_holds 33 = .ok (.iload 7, 2) := by decide +kernel
theorem dL_holds_35 : decode cL_holds 35 = .ok (.iconst 1, 1) := by decide +kernel
theorem dL_holds_36 : decode cL_holds 36 = .ok (.invokevirtual 24, 3) := by decide +kernel
theorem dL_holds_39 : decode cL_holds 39 = .ok (.if_icmp .ge 78, 3) := by decide +kernel
theorem dL_holds_42 : decode cL_holds 42 = .ok (.iload 8, 2) := by decide +kernel
theorem dL_holds_44 : decode cL_holds 44 = .ok (.aload_n 0, 1) := by decide +kernel
theorem dL_holds_45 : decode cL_holds 45 = .ok (.iload 7, 2) := by decide +kernel
theorem dL_holds_47 : decode cL_holds 47 = .ok (.iload 9, 2) := by decide +kernel
theorem dL_holds_49 : decode cL_holds 49 = .ok (.iconst 1, 1) := by decide +kernel
theorem dL_holds_50 : decode cL_holds 50 = .ok (.invokevirtual 10, 3) := by decide +kernel
theorem dL_holds_53 : decode cL_holds 53 = .ok (.iadd, 1) := by decide +kernel
theorem dL_holds_54 : decode cL_holds 54 = .ok (.istore 8, 2) := by decide +kernel
theorem dL_holds_56 : decode cL_holds 56 = .ok (.iload 5, 2) := by decide +kernel
theorem dL_holds_58 : decode cL_holds 58 = .ok (.aload_n 0, 1) := by decide +kernel
theorem dL_holds_59 : decode cL_holds 59 = .ok (.iload 7, 2) := by decide +kernel
theorem dL_holds_61 : decode cL_holds 61 = .ok (.iload 9, 2) := by decide +kernel
theorem dL_holds_63 : decode cL_holds 63 = .ok (.iconst 2, 1) := by decide +kernel
theorem dL_holds_64 : decode cL_holds 64 = .ok (.invokevirtual 10, 3) := by decide +kernel
theorem dL_holds_67 : decode cL_holds 67 = .ok (.iadd, 1) := by decide +kernel
theorem dL_holds_68 : decode cL_holds 68 = .ok (.istore 5, 2) := by decide +kernel
theorem dL_holds_70 : decode cL_holds 70 = .ok (.iload 6, 2) := by decide +kernel
theorem dL_holds_72 : decode cL_holds 72 = .ok (.aload_n 0, 1) := by decide +kernel
theorem dL_holds_73 : decode cL_holds 73 = .ok (.iload 7, 2) := by decide +kernel
theorem dL_holds_75 : decode cL_holds 75 = .ok (.iload 9, 2) := by decide +kernel
theorem dL_holds_77 : decode cL_holds 77 = .ok (.iconst 0, 1) := by decide +kernel
theorem dL_holds_78 : decode cL_holds 78 = .ok (.invokevirtual 10, 3) := by decide +kernel
theorem dL_holds_81 : decode cL_holds 81 = .ok (.iadd, 1) := by decide +kernel
theorem dL_holds_82 : decode cL_holds 82 = .ok (.istore 6, 2) := by decide +kernel
theorem dL_holds_84 : decode cL_holds 84 = .ok (.aload_n 0, 1) := by decide +kernel
theorem dL_holds_85 : decode cL_holds 85 = .ok (.iload 7, 2) := by decide +kernel
theorem dL_holds_87 : decode cL_holds 87 = .ok (.iload 9, 2) := by decide +kernel
theorem dL_holds_89 : decode cL_holds 89 = .ok (.invokestatic 27, 3) := by decide +kernel
theorem dL_holds_92 : decode cL_holds 92 = .ok (.ifCond .eq 17, 3) := by decide +kernel
theorem dL_holds_95 : decode cL_holds 95 = .ok (.aload_n 0, 1) := by decide +kernel
theorem dL_holds_96 : decode cL_holds 96 = .ok (.iload 7, 2) := by decide +kernel
theorem dL_holds_98 : decode cL_holds 98 = .ok (.iload 9, 2) := by decide +kernel
theorem dL_holds_100 : decode cL_holds 100 = .ok (.iload 7, 2) := by decide +kernel
theorem dL_holds_102 : decode cL_holds 102 = .ok (.invokevirtual 33, 3) := by decide +kernel
theorem dL_holds_105 : decode cL_holds 105 = .ok (.iconst 5, 1) := by decide +kernel
theorem dL_holds_106 : decode cL_holds 106 = .ok (.if_icmp .eq 5, 3) := by decide +kernel
theorem dL_holds_109 : decode cL_holds 109 = .ok (.iconst 0, 1) := by decide +kernel
theorem dL_holds_110 : decode cL_holds 110 = .ok (.ireturn, 1) := by decide +kernel
theorem dL_holds_111 : decode cL_holds 111 = .ok (.iinc 9 1, 3) := by decide +kernel
theorem dL_holds_114 : decode cL_holds 114 = .ok (.goto (-84), 3) := by decide +kernel
theorem dL_holds_117 : decode cL_holds 117 = .ok (.iload_n 1, 1) := by decide +kernel
theorem dL_holds_118 : decode cL_holds 118 = .ok (.aload_n 0, 1) := by decide +kernel
theorem dL_holds_119 : decode cL_holds 119 = .ok (.iload 7, 2) := by decide +kernel
theorem dL_holds_121 : decode cL_holds 121 = .ok (.iconst 1, 1) := by decide +kernel
theorem dL_holds_122 : decode cL_holds 122 = .ok (.invokevirtual 24, 3) := by decide +kernel
theorem dL_holds_125 : decode cL_holds 125 = .ok (.iadd, 1) := by decide +kernel
theorem dL_holds_126 : decode cL_holds 126 = .ok (.istore_n 1, 1) := by decide +kernel
theorem dL_holds_127 : decode cL_holds 127 = .ok (.iload_n 2, 1) := by decide +kernel
theorem dL_holds_128 : decode cL_holds 128 = .ok (.iload 8, 2) := by decide +kernel
theorem dL_holds_130 : decode cL_holds 130 = .ok (.iadd, 1) := by decide +kernel
theorem dL_holds_131 : decode cL_holds 131 = .ok (.istore_n 2, 1) := by decide +kernel
theorem dL_holds_132 : decode cL_holds 132 = .ok (.iload_n 3, 1) := by decide +kernel
theorem dL_holds_133 : decode cL_holds 133 = .ok (.aload_n 0, 1) := by decide +kernel
theorem dL_holds_134 : decode cL_holds 134 = .ok (.iload 7, 2) := by decide +kernel
theorem dL_holds_136 : decode cL_holds 136 = .ok (.iconst 3, 1) := by decide +kernel
theorem dL_holds_137 : decode cL_holds 137 = .ok (.invokevirtual 24, 3) := by decide +kernel
theorem dL_holds_140 : decode cL_holds 140 = .ok (.iadd, 1) := by decide +kernel
theorem dL_holds_141 : decode cL_holds 141 = .ok (.istore_n 3, 1) := by decide +kernel
theorem dL_holds_142 : decode cL_holds 142 = .ok (.iload 4, 2) := by decide +kernel
theorem dL_holds_144 : decode cL_holds 144 = .ok (.aload_n 0, 1) := by decide +kernel
theorem dL_holds_145 : decode cL_holds 145 = .ok (.iload 7, 2) := by decide +kernel
theorem dL_holds_147 : decode cL_holds 147 = .ok (.iconst 4, 1) := by decide +kernel
theorem dL_holds_148 : decode cL_holds 148 = .ok (.invokevirtual 24, 3) := by decide +kernel
theorem dL_holds_151 : decode cL_holds 151 = .ok (.iadd, 1) := by decide +kernel
theorem dL_holds_152 : decode cL_holds 152 = .ok (.istore 4, 2) := by decide +kernel
theorem dL_holds_154 : decode cL_holds 154 = .ok (.aload_n 0, 1) := by decide +kernel
theorem dL_holds_155 : decode cL_holds 155 = .ok (.iload 7, 2) := by decide +kernel
theorem dL_holds_157 : decode cL_holds 157 = .ok (.iconst 1, 1) := by decide +kernel
theorem dL_holds_158 : decode cL_holds 158 = .ok (.invokevirtual 24, 3) := by decide +kernel
theorem dL_holds_161 : decode cL_holds 161 = .ok (.bipush 6, 2) := by decide +kernel
theorem dL_holds_163 : decode cL_holds 163 = .ok (.if_icmp .gt 60, 3) := by decide +kernel
theorem dL_holds_166 : decode cL_holds 166 = .ok (.aload_n 0, 1) := by decide +kernel
theorem dL_holds_167 : decode cL_holds 167 = .ok (.iload 7, 2) := by decide +kernel
theorem dL_holds_169 : decode cL_holds 169 = .ok (.iconst 2, 1) := by decide +kernel
theorem dL_holds_170 : decode cL_holds 170 = .ok (.invokevirtual 24, 3) := by decide +kernel
theorem dL_holds_173 : decode cL_holds 173 = .ok (.aload_n 0, 1) := by decide +kernel
theorem dL_holds_174 : decode cL_holds 174 = .ok (.iload 7, 2) := by decide +kernel
theorem dL_holds_176 : decode cL_holds 176 = .ok (.iconst 0, 1) := by decide +kernel
theorem dL_holds_177 : decode cL_holds 177 = .ok (.invokevirtual 24, 3) := by decide +kernel
theorem dL_holds_180 : decode cL_holds 180 = .ok (.iload 8, 2) := by decide +kernel
theorem dL_holds_182 : decode cL_holds 182 = .ok (.isub, 1) := by decide +kernel
theorem dL_holds_183 : decode cL_holds 183 = .ok (.if_icmp .ne 40, 3) := by decide +kernel
theorem dL_holds_186 : decode cL_holds 186 = .ok (.aload_n 0, 1) := by decide +kernel
theorem dL_holds_187 : decode cL_holds 187 = .ok (.iload 7, 2) := by decide +kernel
theorem dL_holds_189 : decode cL_holds 189 = .ok (.iconst 2, 1) := by decide +kernel
theorem dL_holds_190 : decode cL_holds 190 = .ok (.invokevirtual 24, 3) := by decide +kernel
theorem dL_holds_193 : decode cL_holds 193 = .ok (.ifCond .lt 30, 3) := by decide +kernel
theorem dL_holds_196 : decode cL_holds 196 = .ok (.aload_n 0, 1) := by decide +kernel
theorem dL_holds_197 : decode cL_holds 197 = .ok (.iload 7, 2) := by decide +kernel
theorem dL_holds_199 : decode cL_holds 199 = .ok (.iconst 0, 1) := by decide +kernel
theorem dL_holds_200 : decode cL_holds 200 = .ok (.invokevirtual 36, 3) := by decide +kernel
theorem dL_holds_203 : decode cL_holds 203 = .ok (.aload_n 0, 1) := by decide +kernel
theorem dL_holds_204 : decode cL_holds 204 = .ok (.iload 7, 2) := by decide +kernel
theorem dL_holds_206 : decode cL_holds 206 = .ok (.iconst 1, 1) := by decide +kernel
theorem dL_holds_207 : decode cL_holds 207 = .ok (.invokevirtual 24, 3) := by decide +kernel
theorem dL_holds_210 : decode cL_holds 210 = .ok (.if_icmp .gt 13, 3) := by decide +kernel
theorem dL_holds_213 : decode cL_holds 213 = .ok (.aload_n 0, 1) := by decide +kernel
theorem dL_holds_214 : decode cL_holds 214 = .ok (.iload 7, 2) := by decide +kernel
theorem dL_holds_216 : decode cL_holds 216 = .ok (.iconst 1, 1) := by decide +kernel
theorem dL_holds_217 : decode cL_holds 217 = .ok (.invokevirtual 36, 3) := by decide +kernel
theorem dL_holds_220 : decode cL_holds 220 = .ok (.ifCond .ge 5, 3) := by decide +kernel
theorem dL_holds_223 : decode cL_holds 223 = .ok (.iconst 0, 1) := by decide +kernel
theorem dL_holds_224 : decode cL_holds 224 = .ok (.ireturn, 1) := by decide +kernel
theorem dL_holds_225 : decode cL_holds 225 = .ok (.iinc 7 1, 3) := by decide +kernel
theorem dL_holds_228 : decode cL_holds 228 = .ok (.goto (-210), 3) := by decide +kernel
theorem dL_holds_231 : decode cL_holds 231 = .ok (.iconst 0, 1) := by decide +kernel
theorem dL_holds_232 : decode cL_holds 232 = .ok (.istore 7, 2) := by decide +kernel
theorem dL_holds_234 : decode cL_holds 234 = .ok (.iconst 0, 1) := by decide +kernel
theorem dL_holds_235 : decode cL_holds 235 = .ok (.istore 8, 2) := by decide +kernel
theorem dL_holds_237 : decode cL_holds 237 = .ok (.iload 8, 2) := by decide +kernel
theorem dL_holds_239 : decode cL_holds 239 = .ok (.bipush 16, 2) := by decide +kernel
theorem dL_holds_241 : decode cL_holds 241 = .ok (.if_icmp .ge 50, 3) := by decide +kernel
theorem dL_holds_244 : decode cL_holds 244 = .ok (.iload 7, 2) := by decide +kernel
theorem dL_holds_246 : decode cL_holds 246 = .ok (.aload_n 0, 1) := by decide +kernel
theorem dL_holds_247 : decode cL_holds 247 = .ok (.iload 8, 2) := by decide +kernel
theorem dL_holds_249 : decode cL_holds 249 = .ok (.iconst 4, 1) := by decide +kernel
theorem dL_holds_250 : decode cL_holds 250 = .ok (.invokevirtual 20, 3) := by decide +kernel
theorem dL_holds_253 : decode cL_holds 253 = .ok (.iadd, 1) := by decide +kernel
theorem dL_holds_254 : decode cL_holds 254 = .ok (.istore 7, 2) := by decide +kernel
theorem dL_holds_256 : decode cL_holds 256 = .ok (.aload_n 0, 1) := by decide +kernel
theorem dL_holds_257 : decode cL_holds 257 = .ok (.iload 8, 2) := by decide +kernel
theorem dL_holds_259 : decode cL_holds 259 = .ok (.iconst 2, 1) := by decide +kernel
theorem dL_holds_260 : decode cL_holds 260 = .ok (.invokevirtual 20, 3) := by decide +kernel
theorem dL_holds_263 : decode cL_holds 263 = .ok (.iconst 2, 1) := by decide +kernel
theorem dL_holds_264 : decode cL_holds 264 = .ok (.aload_n 0, 1) := by decide +kernel
theorem dL_holds_265 : decode cL_holds 265 = .ok (.iload 8, 2) := by decide +kernel
theorem dL_holds_267 : decode cL_holds 267 = .ok (.iconst 0, 1) := by decide +kernel
theorem dL_holds_268 : decode cL_holds 268 = .ok (.invokevirtual 20, 3) := by decide +kernel
theorem dL_holds_271 : decode cL_holds 271 = .ok (.imul, 1) := by decide +kernel
theorem dL_holds_272 : decode cL_holds 272 = .ok (.aload_n 0, 1) := by decide +kernel
theorem dL_holds_273 : decode cL_holds 273 = .ok (.iload 8, 2) := by decide +kernel
theorem dL_holds_275 : decode cL_holds 275 = .ok (.iconst 1, 1) := by decide +kernel
theorem dL_holds_276 : decode cL_holds 276 = .ok (.invokevirtual 20, 3) := by decide +kernel
theorem dL_holds_279 : decode cL_holds 279 = .ok (.iadd, 1) := by decide +kernel
theorem dL_holds_280 : decode cL_holds 280 = .ok (.if_icmp .eq 5, 3) := by decide +kernel
theorem dL_holds_283 : decode cL_holds 283 = .ok (.iconst 0, 1) := by decide +kernel
theorem dL_holds_284 : decode cL_holds 284 = .ok (.ireturn, 1) := by decide +kernel
theorem dL_holds_285 : decode cL_holds 285 = .ok (.iinc 8 1, 3) := by decide +kernel
theorem dL_holds_288 : decode cL_holds 288 = .ok (.goto (-51), 3) := by decide +kernel
theorem dL_holds_291 : decode cL_holds 291 = .ok (.aload_n 0, 1) := by decide +kernel
theorem dL_holds_292 : decode cL_holds 292 = .ok (.bipush 6, 2) := by decide +kernel
theorem dL_holds_294 : decode cL_holds 294 = .ok (.invokevirtual 39, 3) := by decide +kernel
theorem dL_holds_297 : decode cL_holds 297 = .ok (.istore 8, 2) := by decide +kernel
theorem dL_holds_299 : decode cL_holds 299 = .ok (.iconst 0, 1) := by decide +kernel
theorem dL_holds_300 : decode cL_holds 300 = .ok (.istore 9, 2) := by decide +kernel
theorem dL_holds_302 : decode cL_holds 302 = .ok (.iload 9, 2) := by decide +kernel
theorem dL_holds_304 : decode cL_holds 304 = .ok (.iload 8, 2) := by decide +kernel
theorem dL_holds_306 : decode cL_holds 306 = .ok (.if_icmp .gt 95, 3) := by decide +kernel
theorem dL_holds_309 : decode cL_holds 309 = .ok (.aload_n 0, 1) := by decide +kernel
theorem dL_holds_310 : decode cL_holds 310 = .ok (.iload 9, 2) := by decide +kernel
theorem dL_holds_312 : decode cL_holds 312 = .ok (.iconst 0, 1) := by decide +kernel
theorem dL_holds_313 : decode cL_holds 313 = .ok (.invokevirtual 43, 3) := by decide +kernel
theorem dL_holds_316 : decode cL_holds 316 = .ok (.iconst (-1), 1) := by decide +kernel
theorem dL_holds_317 : decode cL_holds 317 = .ok (.if_icmp .ne 7, 3) := by decide +kernel
theorem dL_holds_320 : decode cL_holds 320 = .ok (.iconst 1, 1) := by decide +kernel
theorem dL_holds_321 : decode cL_holds 321 = .ok (.goto 4, 3) := by decide +kernel
theorem dL_holds_324 : decode cL_holds 324 = .ok (.iconst 0, 1) := by decide +kernel
theorem dL_holds_325 : decode cL_holds 325 = .ok (.iload 9, 2) := by decide +kernel
theorem dL_holds_327 : decode cL_holds 327 = .ok (.iload 8, 2) := by decide +kernel
theorem dL_holds_329 : decode cL_holds 329 = .ok (.if_icmp .ne 7, 3) := by decide +kernel
theorem dL_holds_332 : decode cL_holds 332 = .ok (.iconst 1, 1) := by decide +kernel
theorem dL_holds_333 : decode cL_holds 333 = .ok (.goto 4, 3) := by decide +kernel
theorem dL_holds_336 : decode cL_holds 336 = .ok (.iconst 0, 1) := by decide +kernel
theorem dL_holds_337 : decode cL_holds 337 = .ok (.if_icmp .ne 56, 3) := by decide +kernel
theorem dL_holds_340 : decode cL_holds 340 = .ok (.iload 9, 2) := by decide +kernel
theorem dL_holds_342 : decode cL_holds 342 = .ok (.ifCond .le 29, 3) := by decide +kernel
theorem dL_holds_345 : decode cL_holds 345 = .ok (.iload 9, 2) := by decide +kernel
theorem dL_holds_347 : decode cL_holds 347 = .ok (.iload 8, 2) := by decide +kernel
theorem dL_holds_349 : decode cL_holds 349 = .ok (.if_icmp .ge 22, 3) := by decide +kernel
theorem dL_holds_352 : decode cL_holds 352 = .ok (.aload_n 0, 1) := by decide +kernel
theorem dL_holds_353 : decode cL_holds 353 = .ok (.iload 9, 2) := by decide +kernel
theorem dL_holds_355 : decode cL_holds 355 = .ok (.iconst 2, 1) := by decide +kernel
theorem dL_holds_356 : decode cL_holds 356 = .ok (.invokevirtual 43, 3) := by decide +kernel
theorem dL_holds_359 : decode cL_holds 359 = .ok (.aload_n 0, 1) := by decide +kernel
theorem dL_holds_360 : decode cL_holds 360 = .ok (.iload 9, 2) := by decide +kernel
theorem dL_holds_362 : decode cL_holds 362 = .ok (.iconst 1, 1) := by decide +kernel
theorem dL_holds_363 : decode cL_holds 363 = .ok (.isub, 1) := by decide +kernel
theorem dL_holds_364 : decode cL_holds 364 = .ok (.iconst 2, 1) := by decide +kernel
theorem dL_holds_365 : decode cL_holds 365 = .ok (.invokevirtual 43, 3) := by decide +kernel
theorem dL_holds_368 : decode cL_holds 368 = .ok (.if_icmp .lt 25, 3) := by decide +kernel
theorem dL_holds_371 : decode cL_holds 371 = .ok (.iload 9, 2) := by decide +kernel
theorem dL_holds_373 : decode cL_holds 373 = .ok (.iload 8, 2) := by decide +kernel
theorem dL_holds_375 : decode cL_holds 375 = .ok (.if_icmp .ge 20, 3) := by decide +kernel
theorem dL_holds_378 : decode cL_holds 378 = .ok (.aload_n 0, 1) := by decide +kernel
theorem dL_holds_379 : decode cL_holds 379 = .ok (.iload 9, 2) := by decide +kernel
theorem dL_holds_381 : decode cL_holds 381 = .ok (.iconst 2, 1) := by decide +kernel
theorem dL_holds_382 : decode cL_holds 382 = .ok (.invokevirtual 43, 3) := by decide +kernel
theorem dL_holds_385 : decode cL_holds 385 = .ok (.aload_n 0, 1) := by decide +kernel
theorem dL_holds_386 : decode cL_holds 386 = .ok (.iconst 1, 1) := by decide +kernel
theorem dL_holds_387 : decode cL_holds 387 = .ok (.invokevirtual 39, 3) := by decide +kernel
theorem dL_holds_390 : decode cL_holds 390 = .ok (.if_icmp .le 5, 3) := by decide +kernel
theorem dL_holds_393 : decode cL_holds 393 = .ok (.iconst 0, 1) := by decide +kernel
theorem dL_holds_394 : decode cL_holds 394 = .ok (.ireturn, 1) := by decide +kernel
theorem dL_holds_395 : decode cL_holds 395 = .ok (.iinc 9 1, 3) := by decide +kernel
theorem dL_holds_398 : decode cL_holds 398 = .ok (.goto (-96), 3) := by decide +kernel
theorem dL_holds_401 : decode cL_holds 401 = .ok (.iload 6, 2) := by decide +kernel
theorem dL_holds_403 : decode cL_holds 403 = .ok (.ifCond .ne 7, 3) := by decide +kernel
theorem dL_holds_406 : decode cL_holds 406 = .ok (.dconst 1, 1) := by decide +kernel
theorem dL_holds_407 : decode cL_holds 407 = .ok (.goto 13, 3) := by decide +kernel
theorem dL_holds_410 : decode cL_holds 410 = .ok (.iload 6, 2) := by decide +kernel
theorem dL_holds_412 : decode cL_holds 412 = .ok (.iload 5, 2) := by decide +kernel
theorem dL_holds_414 : decode cL_holds 414 = .ok (.isub, 1) := by decide +kernel
theorem dL_holds_415 : decode cL_holds 415 = .ok (.i2d, 1) := by decide +kernel
theorem dL_holds_416 : decode cL_holds 416 = .ok (.iload 6, 2) := by decide +kernel
theorem dL_holds_418 : decode cL_holds 418 = .ok (.i2d, 1) := by decide +kernel
theorem dL_holds_419 : decode cL_holds 419 = .ok (.ddiv, 1) := by decide +kernel
theorem dL_holds_420 : decode cL_holds 420 = .ok (.dstore 9, 2) := by decide +kernel
theorem dL_holds_422 : decode cL_holds 422 = .ok (.aload_n 0, 1) := by decide +kernel
theorem dL_holds_423 : decode cL_holds 423 = .ok (.iconst 0, 1) := by decide +kernel
theorem dL_holds_424 : decode cL_holds 424 = .ok (.invokevirtual 39, 3) := by decide +kernel
theorem dL_holds_427 : decode cL_holds 427 = .ok (.iload_n 1, 1) := by decide +kernel
theorem dL_holds_428 : decode cL_holds 428 = .ok (.if_icmp .ne 130, 3) := by decide +kernel
theorem dL_holds_431 : decode cL_holds 431 = .ok (.aload_n 0, 1) := by decide +kernel
theorem dL_holds_432 : decode cL_holds 432 = .ok (.iconst 2, 1) := by decide +kernel
theorem dL_holds_433 : decode cL_holds 433 = .ok (.invokevirtual 39, 3) := by decide +kernel
theorem dL_holds_436 : decode cL_holds 436 = .ok (.iload_n 2, 1) := by decide +kernel
theorem dL_holds_437 : decode cL_holds 437 = .ok (.if_icmp .ne 121, 3) := by decide +kernel
theorem dL_holds_440 : decode cL_holds 440 = .ok (.aload_n 0, 1) := by decide +kernel
theorem dL_holds_441 : decode cL_holds 441 = .ok (.iconst 3, 1) := by decide +kernel
theorem dL_holds_442 : decode cL_holds 442 = .ok (.invokevirtual 39, 3) := by decide +kernel
theorem dL_holds_445 : decode cL_holds 445 = .ok (.iload_n 2, 1) := by decide +kernel
theorem dL_holds_446 : decode cL_holds 446 = .ok (.if_icmp .ne 112, 3) := by decide +kernel
theorem dL_holds_449 : decode cL_holds 449 = .ok (.aload_n 0, 1) := by decide +kernel
theorem dL_holds_450 : decode cL_holds 450 = .ok (.iconst 4, 1) := by decide +kernel
theorem dL_holds_451 : decode cL_holds 451 = .ok (.invokevirtual 39, 3) := by decide +kernel
theorem dL_holds_454 : decode cL_holds 454 = .ok (.iload_n 2, 1) := by decide +kernel
theorem dL_holds_455 : decode cL_holds 455 = .ok (.if_icmp .ne 103, 3) := by decide +kernel
theorem dL_holds_458 : decode cL_holds 458 = .ok (.aload_n 0, 1) := by decide +kernel
theorem dL_holds_459 : decode cL_holds 459 = .ok (.iconst 5, 1) := by decide +kernel
theorem dL_holds_460 : decode cL_holds 460 = .ok (.invokevirtual 39, 3) := by decide +kernel
theorem dL_holds_463 : decode cL_holds 463 = .ok (.iload 5, 2) := by decide +kernel
theorem dL_holds_465 : decode cL_holds 465 = .ok (.if_icmp .ne 93, 3) := by decide +kernel
theorem dL_holds_468 : decode cL_holds 468 = .ok (.iload 7, 2) := by decide +kernel
theorem dL_holds_470 : decode cL_holds 470 = .ok (.iload 6, 2) := by decide +kernel
theorem dL_holds_472 : decode cL_holds 472 = .ok (.if_icmp .ne 86, 3) := by decide +kernel
theorem dL_holds_475 : decode cL_holds 475 = .ok (.aload_n 0, 1) := by decide +kernel
theorem dL_holds_476 : decode cL_holds 476 = .ok (.bipush 7, 2) := by decide +kernel
theorem dL_holds_478 : decode cL_holds 478 = .ok (.invokevirtual 39, 3) := by decide +kernel
theorem dL_holds_481 : decode cL_holds 481 = .ok (.iload_n 3, 1) := by decide +kernel
theorem dL_holds_482 : decode cL_holds 482 = .ok (.if_icmp .ne 76, 3) := by decide +kernel
theorem dL_holds_485 : decode cL_holds 485 = .ok (.aload_n 0, 1) := by decide +kernel
theorem dL_holds_486 : decode cL_holds 486 = .ok (.bipush 8, 2) := by decide +kernel
theorem dL_holds_488 : decode cL_holds 488 = .ok (.invokevirtual 39, 3) := by decide +kernel
theorem dL_holds_491 : decode cL_holds 491 = .ok (.iload 4, 2) := by decide +kernel
theorem dL_holds_493 : decode cL_holds 493 = .ok (.if_icmp .ne 65, 3) := by decide +kernel
theorem dL_holds_496 : decode cL_holds 496 = .ok (.iload 8, 2) := by decide +kernel
theorem dL_holds_498 : decode cL_holds 498 = .ok (.iload_n 3, 1) := by decide +kernel
theorem dL_holds_499 : decode cL_holds 499 = .ok (.bipush 12, 2) := by decide +kernel
theorem dL_holds_501 : decode cL_holds 501 = .ok (.if_icmp .ge 7, 3) := by decide +kernel
theorem dL_holds_504 : decode cL_holds 504 = .ok (.iload_n 3, 1) := by decide +kernel
theorem dL_holds_505 : decode cL_holds 505 = .ok (.goto 5, 3) := by decide +kernel
theorem dL_holds_508 : decode cL_holds 508 = .ok (.bipush 12, 2) := by decide +kernel
theorem dL_holds_510 : decode cL_holds 510 = .ok (.if_icmp .ne 48, 3) := by decide +kernel
theorem dL_holds_513 : decode cL_holds 513 = .ok (.aload_n 0, 1) := by decide +kernel
theorem dL_holds_514 : decode cL_holds 514 = .ok (.invokevirtual 46, 3) := by decide +kernel
theorem dL_holds_517 : decode cL_holds 517 = .ok (.dload 9, 2) := by decide +kernel
theorem dL_holds_519 : decode cL_holds 519 = .ok (.dcmp .l, 1) := by decide +kernel
theorem dL_holds_520 : decode cL_holds 520 = .ok (.ifCond .ne 38, 3) := by decide +kernel
theorem dL_holds_523 : decode cL_holds 523 = .ok (.aload_n 0, 1) := by decide +kernel
theorem dL_holds_524 : decode cL_holds 524 = .ok (.iconst 0, 1) := by decide +kernel
theorem dL_holds_525 : decode cL_holds 525 = .ok (.invokevirtual 50, 3) := by decide +kernel
theorem dL_holds_528 : decode cL_holds 528 = .ok (.iconst (-1), 1) := by decide +kernel
theorem dL_holds_529 : decode cL_holds 529 = .ok (.if_icmp .ne 7, 3) := by decide +kernel
theorem dL_holds_532 : decode cL_holds 532 = .ok (.iconst 1, 1) := by decide +kernel
theorem dL_holds_533 : decode cL_holds 533 = .ok (.goto 4, 3) := by decide +kernel
theorem dL_holds_536 : decode cL_holds 536 = .ok (.iconst 0, 1) := by decide +kernel
theorem dL_holds_537 : decode cL_holds 537 = .ok (.aload_n 0, 1) := by decide +kernel
theorem dL_holds_538 : decode cL_holds 538 = .ok (.iconst 1, 1) := by decide +kernel
theorem dL_holds_539 : decode cL_holds 539 = .ok (.invokevirtual 50, 3) := by decide +kernel
theorem dL_holds_542 : decode cL_holds 542 = .ok (.iconst (-1), 1) := by decide +kernel
theorem dL_holds_543 : decode cL_holds 543 = .ok (.if_icmp .ne 7, 3) := by decide +kernel
theorem dL_holds_546 : decode cL_holds 546 = .ok (.iconst 1, 1) := by decide +kernel
theorem dL_holds_547 : decode cL_holds 547 = .ok (.goto 4, 3) := by decide +kernel
theorem dL_holds_550 : decode cL_holds 550 = .ok (.iconst 0, 1) := by decide +kernel
theorem dL_holds_551 : decode cL_holds 551 = .ok (.if_icmp .ne 7, 3) := by decide +kernel
theorem dL_holds_554 : decode cL_holds 554 = .ok (.iconst 1, 1) := by decide +kernel
theorem dL_holds_555 : decode cL_holds 555 = .ok (.goto 4, 3) := by decide +kernel
theorem dL_holds_558 : decode cL_holds 558 = .ok (.iconst 0, 1) := by decide +kernel
theorem dL_holds_559 : decode cL_holds 559 = .ok (.ireturn, 1) := by decide +kernel
theorem dL_ends_0 : decode cL_ends 0 = .ok (.iconst 0, 1) := by decide +kernel
theorem dL_ends_1 : decode cL_ends 1 = .ok (.istore_n 3, 1) := by decide +kernel
theorem dL_ends_2 : decode cL_ends 2 = .ok (.iconst 0, 1) := by decide +kernel
theorem dL_ends_3 : decode cL_ends 3 = .ok (.istore 4, 2) := by decide +kernel
theorem dL_ends_5 : decode cL_ends 5 = .ok (.iload 4, 2) := by decide +kernel
theorem dL_ends_7 : decode cL_ends 7 = .ok (.aload_n 0, 1) := by decide +kernel
theorem dL_ends_8 : decode cL_ends 8 = .ok (.iload_n 1, 1) := by decide +kernel
theorem dL_ends_9 : decode cL_ends 9 = .ok (.iconst 1, 1) := by decide +kernel
theorem dL_ends_10 : decode cL_ends 10 = .ok (.invokevirtual 24, 3) := by decide +kernel
theorem dL_ends_13 : decode cL_ends 13 = .ok (.if_icmp .ge 31, 3) := by decide +kernel
theorem dL_ends_16 : decode cL_ends 16 = .ok (.iload_n 3, 1) := by decide +kernel
theorem dL_ends_17 : decode cL_ends 17 = .ok (.aload_n 0, 1) := by decide +kernel
theorem dL_ends_18 : decode cL_ends 18 = .ok (.iload_n 1, 1) := by decide +kernel
theorem dL_ends_19 : decode cL_ends 19 = .ok (.iload 4, 2) := by decide +kernel
theorem dL_ends_21 : decode cL_ends 21 = .ok (.iconst 0, 1) := by decide +kernel
theorem dL_ends_22 : decode cL_ends 22 = .ok (.invokevirtual 10, 3) := by decide +kernel
theorem dL_ends_25 : decode cL_ends 25 = .ok (.iload 4, 2) := by decide +kernel
theorem dL_ends_27 : decode cL_ends 27 = .ok (.ifCond .le 7, 3) := by decide +kernel
theorem dL_ends_30 : decode cL_ends 30 = .ok (.iconst 1, 1) := by decide +kernel
theorem dL_ends_31 : decode cL_ends 31 = .ok (.goto 4, 3) := by decide +kernel
theorem dL_ends_34 : decode cL_ends 34 = .ok (.iconst 0, 1) := by decide +kernel
theorem dL_ends_35 : decode cL_ends 35 = .ok (.iadd, 1) := by decide +kernel
theorem dL_ends_36 : decode cL_ends 36 = .ok (.iadd, 1) := by decide +kernel
theorem dL_ends_37 : decode cL_ends 37 = .ok (.istore_n 3, 1) := by decide +kernel
theorem dL_ends_38 : decode cL_ends 38 = .ok (.iinc 4 1, 3) := by decide +kernel
theorem dL_ends_41 : decode cL_ends 41 = .ok (.goto (-36), 3) := by decide +kernel
theorem dL_ends_44 : decode cL_ends 44 = .ok (.aload_n 0, 1) := by decide +kernel
theorem dL_ends_45 : decode cL_ends 45 = .ok (.iload_n 1, 1) := by decide +kernel
theorem dL_ends_46 : decode cL_ends 46 = .ok (.iload_n 3, 1) := by decide +kernel
theorem dL_ends_47 : decode cL_ends 47 = .ok (.invokevirtual 53, 3) := by decide +kernel
theorem dL_ends_50 : decode cL_ends 50 = .ok (.iconst (-1), 1) := by decide +kernel
theorem dL_ends_51 : decode cL_ends 51 = .ok (.if_icmp .ne 7, 3) := by decide +kernel
theorem dL_ends_54 : decode cL_ends 54 = .ok (.iconst 1, 1) := by decide +kernel
theorem dL_ends_55 : decode cL_ends 55 = .ok (.goto 4, 3) := by decide +kernel
theorem dL_ends_58 : decode cL_ends 58 = .ok (.iconst 0, 1) := by decide +kernel
theorem dL_ends_59 : decode cL_ends 59 = .ok (.istore 4, 2) := by decide +kernel
theorem dL_ends_61 : decode cL_ends 61 = .ok (.iconst 0, 1) := by decide +kernel
theorem dL_ends_62 : decode cL_ends 62 = .ok (.istore 5, 2) := by decide +kernel
theorem dL_ends_64 : decode cL_ends 64 = .ok (.iload 5, 2) := by decide +kernel
theorem dL_ends_66 : decode cL_ends 66 = .ok (.aload_n 0, 1) := by decide +kernel
theorem dL_ends_67 : decode cL_ends 67 = .ok (.iload_n 1, 1) := by decide +kernel
theorem dL_ends_68 : decode cL_ends 68 = .ok (.iload_n 2, 1) := by decide +kernel
theorem dL_ends_69 : decode cL_ends 69 = .ok (.iconst 0, 1) := by decide +kernel
theorem dL_ends_70 : decode cL_ends 70 = .ok (.invokevirtual 10, 3) := by decide +kernel
theorem dL_ends_73 : decode cL_ends 73 = .ok (.if_icmp .ge 69, 3) := by decide +kernel
theorem dL_ends_76 : decode cL_ends 76 = .ok (.iload 4, 2) := by decide +kernel
theorem dL_ends_78 : decode cL_ends 78 = .ok (.ifCond .eq 64, 3) := by decide +kernel
theorem dL_ends_81 : decode cL_ends 81 = .ok (.aload_n 0, 1) := by decide +kernel
theorem dL_ends_82 : decode cL_ends 82 = .ok (.iload_n 1, 1) := by decide +kernel
theorem dL_ends_83 : decode cL_ends 83 = .ok (.iload_n 2, 1) := by decide +kernel
theorem dL_ends_84 : decode cL_ends 84 = .ok (.iload 5, 2) := by decide +kernel
theorem dL_ends_86 : decode cL_ends 86 = .ok (.iconst 1, 1) := by decide +kernel
theorem dL_ends_87 : decode cL_ends 87 = .ok (.invokevirtual 16, 3) := by decide +kernel
theorem dL_ends_90 : decode cL_ends 90 = .ok (.istore 6, 2) := by decide +kernel
theorem dL_ends_92 : decode cL_ends 92 = .ok (.aload_n 0, 1) := by decide +kernel
theorem dL_ends_93 : decode cL_ends 93 = .ok (.iload_n 1, 1) := by decide +kernel
theorem dL_ends_94 : decode cL_ends 94 = .ok (.iload_n 3, 1) := by decide +kernel
theorem dL_ends_95 : decode cL_ends 95 = .ok (.aload_n 0, 1) := by decide +kernel
theorem dL_ends_96 : decode cL_ends 96 = .ok (.iload_n 1, 1) := by decide +kernel
theorem dL_ends_97 : decode cL_ends 97 = .ok (.iload_n 2, 1) := by decide +kernel
theorem dL_ends_98 : decode cL_ends 98 = .ok (.iconst 0, 1) := by decide +kernel
theorem dL_ends_99 : decode cL_ends 99 = .ok (.invokevirtual 10, 3) := by decide +kernel
theorem dL_ends_102 : decode cL_ends 102 = .ok (.isub, 1) := by decide +kernel
theorem dL_ends_103 : decode cL_ends 103 = .ok (.iload 5, 2) := by decide +kernel
theorem dL_ends_105 : decode cL_ends 105 = .ok (.iadd, 1) := by decide +kernel
theorem dL_ends_106 : decode cL_ends 106 = .ok (.invokevirtual 53, 3) := by decide +kernel
theorem dL_ends_109 : decode cL_ends 109 = .ok (.iload 6, 2) := by decide +kernel
theorem dL_ends_111 : decode cL_ends 111 = .ok (.bipush 16, 2) := by decide +kernel
theorem dL_ends_113 : decode cL_ends 113 = .ok (.if_icmp .ne 8, 3) := by decide +kernel
theorem dL_ends_116 : decode cL_ends 116 = .ok (.bipush 63, 2) := by decide +kernel
theorem dL_ends_118 : decode cL_ends 118 = .ok (.goto 8, 3) := by decide +kernel
theorem dL_ends_121 : decode cL_ends 121 = .ok (.bipush 97, 2) := by decide +kernel
theorem dL_ends_123 : decode cL_ends 123 = .ok (.iload 6, 2) := by decide +kernel
theorem dL_ends_125 : decode cL_ends 125 = .ok (.iadd, 1) := by decide +kernel
theorem dL_ends_126 : decode cL_ends 126 = .ok (.if_icmp .ne 7, 3) := by decide +kernel
theorem dL_ends_129 : decode cL_ends 129 = .ok (.iconst 1, 1) := by decide +kernel
theorem dL_ends_130 : decode cL_ends 130 = .ok (.goto 4, 3) := by decide +kernel
theorem dL_ends_133 : decode cL_ends 133 = .ok (.iconst 0, 1) := by decide +kernel
theorem dL_ends_134 : decode cL_ends 134 = .ok (.istore 4, 2) := by decide +kernel
theorem dL_ends_136 : decode cL_ends 136 = .ok (.iinc 5 1, 3) := by decide +kernel
theorem dL_ends_139 : decode cL_ends 139 = .ok (.goto (-75), 3) := by decide +kernel
theorem dL_ends_142 : decode cL_ends 142 = .ok (.iload 4, 2) := by decide +kernel
theorem dL_ends_144 : decode cL_ends 144 = .ok (.ireturn, 1) := by decide +kernel
theorem dL_tryTie_0 : decode cL_tryTie 0 = .ok (.aload_n 0, 1) := by decide +kernel
theorem dL_tryTie_1 : decode cL_tryTie 1 = .ok (.iload_n 1, 1) := by decide +kernel
theorem dL_tryTie_2 : decode cL_tryTie 2 = .ok (.invokevirtual 56, 3) := by decide +kernel
theorem dL_tryTie_5 : decode cL_tryTie 5 = .ok (.ireturn, 1) := by decide +kernel
theorem dL_tryTie_6 : decode cL_tryTie 6 = .ok (.astore_n 2, 1) := by decide +kernel
theorem dL_tryTie_7 : decode cL_tryTie 7 = .ok (.sipush (-7001), 3) := by decide +kernel
theorem dL_tryTie_10 : decode cL_tryTie 10 = .ok (.ireturn, 1) := by decide +kernel
theorem dL_tryTie_11 : decode cL_tryTie 11 = .ok (.astore_n 2, 1) := by decide +kernel
theorem dL_tryTie_12 : decode cL_tryTie 12 = .ok (.sipush (-7002), 3) := by decide +kernel
theorem dL_tryTie_15 : decode cL_tryTie 15 = .ok (.ireturn, 1) := by decide +kernel
theorem dL_tryTie_16 : decode cL_tryTie 16 = .ok (.astore_n 2, 1) := by decide +kernel
theorem dL_tryTie_17 : decode cL_tryTie 17 = .ok (.sipush (-7003), 3) := by decide +kernel
theorem dL_tryTie_20 : decode cL_tryTie 20 = .ok (.ireturn, 1) := by decide +kernel
theorem dL_tryFast_0 : decode cL_tryFast 0 = .ok (.aload_n 0, 1) := by decide +kernel
theorem dL_tryFast_1 : decode cL_tryFast 1 = .ok (.iload_n 1, 1) := by decide +kernel
theorem dL_tryFast_2 : decode cL_tryFast 2 = .ok (.iload_n 2, 1) := by decide +kernel
theorem dL_tryFast_3 : decode cL_tryFast 3 = .ok (.invokevirtual 65, 3) := by decide +kernel
theorem dL_tryFast_6 : decode cL_tryFast 6 = .ok (.ireturn, 1) := by decide +kernel
theorem dL_tryFast_7 : decode cL_tryFast 7 = .ok (.astore_n 3, 1) := by decide +kernel
theorem dL_tryFast_8 : decode cL_tryFast 8 = .ok (.sipush (-7001), 3) := by decide +kernel
theorem dL_tryFast_11 : decode cL_tryFast 11 = .ok (.ireturn, 1) := by decide +kernel
theorem dL_tryFast_12 : decode cL_tryFast 12 = .ok (.astore_n 3, 1) := by decide +kernel
theorem dL_tryFast_13 : decode cL_tryFast 13 = .ok (.sipush (-7003), 3) := by decide +kernel
theorem dL_tryFast_16 : decode cL_tryFast 16 = .ok (.ireturn, 1) := by decide +kernel
theorem dL_tryGive_0 : decode cL_tryGive 0 = .ok (.aload_n 0, 1) := by decide +kernel
theorem dL_tryGive_1 : decode cL_tryGive 1 = .ok (.iload_n 1, 1) := by decide +kernel
theorem dL_tryGive_2 : decode cL_tryGive 2 = .ok (.iload_n 2, 1) := by decide +kernel
theorem dL_tryGive_3 : decode cL_tryGive 3 = .ok (.iload_n 3, 1) := by decide +kernel
theorem dL_tryGive_4 : decode cL_tryGive 4 = .ok (.invokevirtual 68, 3) := by decide +kernel
theorem dL_tryGive_7 : decode cL_tryGive 7 = .ok (.ireturn, 1) := by decide +kernel
theorem dL_tryGive_8 : decode cL_tryGive 8 = .ok (.astore 4, 2) := by decide +kernel
theorem dL_tryGive_10 : decode cL_tryGive 10 = .ok (.sipush (-7001), 3) := by decide +kernel
theorem dL_tryGive_13 : decode cL_tryGive 13 = .ok (.ireturn, 1) := by decide +kernel
theorem dL_tryGive_14 : decode cL_tryGive 14 = .ok (.astore 4, 2) := by decide +kernel
theorem dL_tryGive_16 : decode cL_tryGive 16 = .ok (.sipush (-7003), 3) := by decide +kernel
theorem dL_tryGive_19 : decode cL_tryGive 19 = .ok (.ireturn, 1) := by decide +kernel
theorem dL_ties_0 : decode cL_ties 0 = .ok (.iconst 1, 1) := by decide +kernel
theorem dL_ties_1 : decode cL_ties 1 = .ok (.iload_n 2, 1) := by decide +kernel
theorem dL_ties_2 : decode cL_ties 2 = .ok (.iload_n 2, 1) := by decide +kernel
theorem dL_ties_3 : decode cL_ties 3 = .ok (.bipush 9, 2) := by decide +kernel
theorem dL_ties_5 : decode cL_ties 5 = .ok (.ishr, 1) := by decide +kernel
theorem dL_ties_6 : decode cL_ties 6 = .ok (.iconst 3, 1) := by decide +kernel
theorem dL_ties_7 : decode cL_ties 7 = .ok (.invokestatic 71, 3) := by decide +kernel
theorem dL_ties_10 : decode cL_ties 10 = .ok (.ifCond .ne 8, 3) := by decide +kernel
theorem dL_ties_13 : decode cL_ties 13 = .ok (.bipush 8, 2) := by decide +kernel
theorem dL_ties_15 : decode cL_ties 15 = .ok (.goto 4, 3) := by decide +kernel
theorem dL_ties_18 : decode cL_ties 18 = .ok (.iconst 3, 1) := by decide +kernel
theorem dL_ties_19 : decode cL_ties 19 = .ok (.invokestatic 71, 3) := by decide +kernel
theorem dL_ties_22 : decode cL_ties 22 = .ok (.iadd, 1) := by decide +kernel
theorem dL_ties_23 : decode cL_ties 23 = .ok (.istore_n 3, 1) := by decide +kernel
theorem dL_ties_24 : decode cL_ties 24 = .ok (.bipush 8, 2) := by decide +kernel
theorem dL_ties_26 : decode cL_ties 26 = .ok (.newarray .int, 2) := by decide +kernel
theorem dL_ties_28 : decode cL_ties 28 = .ok (.astore 4, 2) := by decide +kernel
theorem dL_ties_30 : decode cL_ties 30 = .ok (.aload_n 0, 1) := by decide +kernel
theorem dL_ties_31 : decode cL_ties 31 = .ok (.invokevirtual 74, 3) := by decide +kernel
theorem dL_ties_34 : decode cL_ties 34 = .ok (.istore 5, 2) := by decide +kernel
theorem dL_ties_36 : decode cL_ties 36 = .ok (.iconst 0, 1) := by decide +kernel
theorem dL_ties_37 : decode cL_ties 37 = .ok (.istore 6, 2) := by decide +kernel
theorem dL_ties_39 : decode cL_ties 39 = .ok (.iload 6, 2) := by decide +kernel
theorem dL_ties_41 : decode cL_ties 41 = .ok (.iload_n 3, 1) := by decide +kernel
theorem dL_ties_42 : decode cL_ties 42 = .ok (.if_icmp .ge 80, 3) := by decide +kernel
theorem dL_ties_45 : decode cL_ties 45 = .ok (.iload_n 2, 1) := by decide +kernel
theorem dL_ties_46 : decode cL_ties 46 = .ok (.iconst 3, 1) := by decide +kernel
theorem dL_ties_47 : decode cL_ties 47 = .ok (.iload 6, 2) := by decide +kernel
theorem dL_ties_49 : decode cL_ties 49 = .ok (.imul, 1) := by decide +kernel
theorem dL_ties_50 : decode cL_ties 50 = .ok (.ishr, 1) := by decide +kernel
theorem dL_ties_51 : decode cL_ties 51 = .ok (.bipush 16, 2) := by decide +kernel
theorem dL_ties_53 : decode cL_ties 53 = .ok (.invokestatic 71, 3) := by decide +kernel
theorem dL_ties_56 : decode cL_ties 56 = .ok (.istore 7, 2) := by decide +kernel
theorem dL_ties_58 : decode cL_ties 58 = .ok (.aload 4, 2) := by decide +kernel
theorem dL_ties_60 : decode cL_ties 60 = .ok (.iload 6, 2) := by decide +kernel
theorem dL_ties_62 : decode cL_ties 62 = .ok (.iload_n 2, 1) := by decide +kernel
theorem dL_ties_63 : decode cL_ties 63 = .ok (.iconst 2, 1) := by decide +kernel
theorem dL_ties_64 : decode cL_ties 64 = .ok (.iload 6, 2) := by decide +kernel
theorem dL_ties_66 : decode cL_ties 66 = .ok (.imul, 1) := by decide +kernel
theorem dL_ties_67 : decode cL_ties 67 = .ok (.iconst 1, 1) := by decide +kernel
theorem dL_ties_68 : decode cL_ties 68 = .ok (.iadd, 1) := by decide +kernel
theorem dL_ties_69 : decode cL_ties 69 = .ok (.ishr, 1) := by decide +kernel
theorem dL_ties_70 : decode cL_ties 70 = .ok (.iconst 3, 1) := by decide +kernel
theorem dL_ties_71 : decode cL_ties 71 = .ok (.invokestatic 71, 3) := by decide +kernel
theorem dL_ties_74 : decode cL_ties 74 = .ok (.ifCond .le 25, 3) := by decide +kernel
theorem dL_ties_77 : decode cL_ties 77 = .ok (.iload 7, 2) := by decide +kernel
theorem dL_ties_79 : decode cL_ties 79 = .ok (.iconst 3, 1) := by decide +kernel
theorem dL_ties_80 : decode cL_ties 80 = .ok (.iand, 1) := by decide +kernel
theorem dL_ties_81 : decode cL_ties 81 = .ok (.iconst 3, 1) := by decide +kernel
theorem dL_ties_82 : decode cL_ties 82 = .ok (.if_icmp .ne 8, 3) := by decide +kernel
theorem dL_ties_85 : decode cL_ties 85 = .ok (.bipush 14, 2) := by decide +kernel
theorem dL_ties_87 : decode cL_ties 87 = .ok (.goto 14, 3) := by decide +kernel
theorem dL_ties_90 : decode cL_ties 90 = .ok (.iconst 4, 1) := by decide +kernel
theorem dL_ties_91 : decode cL_ties 91 = .ok (.iload 7, 2) := by decide +kernel
theorem dL_ties_93 : decode cL_ties 93 = .ok (.iconst 3, 1) := by decide +kernel
theorem dL_ties_94 : decode cL_ties 94 = .ok (.iand, 1) := by decide +kernel
theorem dL_ties_95 : decode cL_ties 95 = .ok (.imul, 1) := by decide +kernel
theorem dL_ties_96 : decode cL_ties 96 = .ok (.goto 5, 3) := by decide +kernel
theorem dL_ties_99 : decode cL_ties 99 = .ok (.iload 7, 2) := by decide +kernel
theorem dL_ties_101 : decode cL_ties 101 = .ok (.iastore, 1) := by decide +kernel
theorem dL_ties_102 : decode cL_ties 102 = .ok (.aload_n 0, 1) := by decide +kernel
theorem dL_ties_103 : decode cL_ties 103 = .ok (.bipush 97, 2) := by decide +kernel
theorem dL_ties_105 : decode cL_ties 105 = .ok (.aload 4, 2) := by decide +kernel
theorem dL_ties_107 : decode cL_ties 107 = .ok (.iload 6, 2) := by decide +kernel
theorem dL_ties_109 : decode cL_ties 109 = .ok (.iaload, 1) := by decide +kernel
theorem dL_ties_110 : decode cL_ties 110 = .ok (.iadd, 1) := by decide +kernel
theorem dL_ties_111 : decode cL_ties 111 = .ok (.invokevirtual 78, 3) := by decide +kernel
theorem dL_ties_114 : decode cL_ties 114 = .ok (.istore 5, 2) := by decide +kernel
theorem dL_ties_116 : decode cL_ties 116 = .ok (.iinc 6 1, 3) := by decide +kernel
theorem dL_ties_119 : decode cL_ties 119 = .ok (.goto (-80), 3) := by decide +kernel
theorem dL_ties_122 : decode cL_ties 122 = .ok (.aload_n 0, 1) := by decide +kernel
theorem dL_ties_123 : decode cL_ties 123 = .ok (.iload_n 1, 1) := by decide +kernel
theorem dL_ties_124 : decode cL_ties 124 = .ok (.invokevirtual 81, 3) := by decide +kernel
theorem dL_ties_127 : decode cL_ties 127 = .ok (.istore 6, 2) := by decide +kernel
theorem dL_ties_129 : decode cL_ties 129 = .ok (.aload_n 0, 1) := by decide +kernel
theorem dL_ties_130 : decode cL_ties 130 = .ok (.invokevirtual 84, 3) := by decide +kernel
theorem dL_ties_133 : decode cL_ties 133 = .ok (.istore 7, 2) := by decide +kernel
theorem dL_ties_135 : decode cL_ties 135 = .ok (.aload_n 0, 1) := by decide +kernel
theorem dL_ties_136 : decode cL_ties 136 = .ok (.bipush 9, 2) := by decide +kernel
theorem dL_ties_138 : decode cL_ties 138 = .ok (.invokevirtual 39, 3) := by decide +kernel
theorem dL_ties_141 : decode cL_ties 141 = .ok (.istore 8, 2) := by decide +kernel
theorem dL_ties_143 : decode cL_ties 143 = .ok (.aload_n 0, 1) := by decide +kernel
theorem dL_ties_144 : decode cL_ties 144 = .ok (.iload_n 1, 1) := by decide +kernel
theorem dL_ties_145 : decode cL_ties 145 = .ok (.iconst 1, 1) := by decide +kernel
theorem dL_ties_146 : decode cL_ties 146 = .ok (.invokevirtual 24, 3) := by decide +kernel
theorem dL_ties_149 : decode cL_ties 149 = .ok (.istore 9, 2) := by decide +kernel
theorem dL_ties_151 : decode cL_ties 151 = .ok (.iload 7, 2) := by decide +kernel
theorem dL_ties_153 : decode cL_ties 153 = .ok (.ifCond .lt 14, 3) := by decide +kernel
theorem dL_ties_156 : decode cL_ties 156 = .ok (.aload_n 0, 1) := by decide +kernel
theorem dL_ties_157 : decode cL_ties 157 = .ok (.iload 7, 2) := by decide +kernel
theorem dL_ties_159 : decode cL_ties 159 = .ok (.invokevirtual 81, 3) := by decide +kernel
theorem dL_ties_162 : decode cL_ties 162 = .ok (.ifCond .eq 5, 3) := by decide +kernel
theorem dL_ties_165 : decode cL_ties 165 = .ok (.iconst 0, 1) := by decide +kernel
theorem dL_ties_166 : decode cL_ties 166 = .ok (.ireturn, 1) := by decide +kernel
theorem dL_ties_167 : decode cL_ties 167 = .ok (.iconst 0, 1) := by decide +kernel
theorem dL_ties_168 : decode cL_ties 168 = .ok (.istore 10, 2) := by decide +kernel
theorem dL_ties_170 : decode cL_ties 170 = .ok (.iload 10, 2) := by decide +kernel
theorem dL_ties_172 : decode cL_ties 172 = .ok (.iconst 5, 1) := by decide +kernel
theorem dL_ties_173 : decode cL_ties 173 = .ok (.if_icmp .ge 66, 3) := by decide +kernel
theorem dL_ties_176 : decode cL_ties 176 = .ok (.aload_n 0, 1) := by decide +kernel
theorem dL_ties_177 : decode cL_ties 177 = .ok (.iload 10, 2) := by decide +kernel
theorem dL_ties_179 : decode cL_ties 179 = .ok (.invokevirtual 81, 3) := by decide +kernel
theorem dL_ties_182 : decode cL_ties 182 = .ok (.ifCond .ne 51, 3) := by decide +kernel
theorem dL_ties_185 : decode cL_ties 185 = .ok (.iload 7, 2) := by decide +kernel
theorem dL_ties_187 : decode cL_ties 187 = .ok (.ifCond .lt 44, 3) := by decide +kernel
theorem dL_ties_190 : decode cL_ties 190 = .ok (.aload_n 0, 1) := by decide +kernel
theorem dL_ties_191 : decode cL_ties 191 = .ok (.iload 10, 2) := by decide +kernel
theorem dL_ties_193 : decode cL_ties 193 = .ok (.iconst 2, 1) := by decide +kernel
theorem dL_ties_194 : decode cL_ties 194 = .ok (.invokevirtual 24, 3) := by decide +kernel
theorem dL_ties_197 : decode cL_ties 197 = .ok (.aload_n 0, 1) := by decide +kernel
theorem dL_ties_198 : decode cL_ties 198 = .ok (.iload 7, 2) := by decide +kernel
theorem dL_ties_200 : decode cL_ties 200 = .ok (.iconst 2, 1) := by decide +kernel
theorem dL_ties_201 : decode cL_ties 201 = .ok (.invokevirtual 24, 3) := by decide +kernel
theorem dL_ties_204 : decode cL_ties 204 = .ok (.if_icmp .gt 27, 3) := by decide +kernel
theorem dL_ties_207 : decode cL_ties 207 = .ok (.aload_n 0, 1) := by decide +kernel
theorem dL_ties_208 : decode cL_ties 208 = .ok (.iload 10, 2) := by decide +kernel
theorem dL_ties_210 : decode cL_ties 210 = .ok (.iconst 2, 1) := by decide +kernel
theorem dL_ties_211 : decode cL_ties 211 = .ok (.invokevirtual 24, 3) := by decide +kernel
theorem dL_ties_214 : decode cL_ties 214 = .ok (.aload_n 0, 1) := by decide +kernel
theorem dL_ties_215 : decode cL_ties 215 = .ok (.iload 7, 2) := by decide +kernel
theorem dL_ties_217 : decode cL_ties 217 = .ok (.iconst 2, 1) := by decide +kernel
theorem dL_ties_218 : decode cL_ties 218 = .ok (.invokevirtual 24, 3) := by decide +kernel
theorem dL_ties_221 : decode cL_ties 221 = .ok (.if_icmp .ne 12, 3) := by decide +kernel
theorem dL_ties_224 : decode cL_ties 224 = .ok (.iload 10, 2) := by decide +kernel
theorem dL_ties_226 : decode cL_ties 226 = .ok (.iload 7, 2) := by decide +kernel
theorem dL_ties_228 : decode cL_ties 228 = .ok (.if_icmp .ge 5, 3) := by decide +kernel
theorem dL_ties_231 : decode cL_ties 231 = .ok (.iconst 0, 1) := by decide +kernel
theorem dL_ties_232 : decode cL_ties 232 = .ok (.ireturn, 1) := by decide +kernel
theorem dL_ties_233 : decode cL_ties 233 = .ok (.iinc 10 1, 3) := by decide +kernel
theorem dL_ties_236 : decode cL_ties 236 = .ok (.goto (-66), 3) := by decide +kernel
theorem dL_ties_239 : decode cL_ties 239 = .ok (.aload_n 0, 1) := by decide +kernel
theorem dL_ties_240 : decode cL_ties 240 = .ok (.iload_n 1, 1) := by decide +kernel
theorem dL_ties_241 : decode cL_ties 241 = .ok (.invokestatic 87, 3) := by decide +kernel
theorem dL_ties_244 : decode cL_ties 244 = .ok (.istore 10, 2) := by decide +kernel
theorem dL_ties_246 : decode cL_ties 246 = .ok (.iload 6, 2) := by decide +kernel
theorem dL_ties_248 : decode cL_ties 248 = .ok (.ifCond .le 42, 3) := by decide +kernel
theorem dL_ties_251 : decode cL_ties 251 = .ok (.iload 10, 2) := by decide +kernel
theorem dL_ties_253 : decode cL_ties 253 = .ok (.sipush (-7003), 3) := by decide +kernel
theorem dL_ties_256 : decode cL_ties 256 = .ok (.if_icmp .ne 32, 3) := by decide +kernel
theorem dL_ties_259 : decode cL_ties 259 = .ok (.iload 6, 2) := by decide +kernel
theorem dL_ties_261 : decode cL_ties 261 = .ok (.iconst 3, 1) := by decide +kernel
theorem dL_ties_262 : decode cL_ties 262 = .ok (.if_icmp .gt 26, 3) := by decide +kernel
theorem dL_ties_265 : decode cL_ties 265 = .ok (.aload_n 0, 1) := by decide +kernel
theorem dL_ties_266 : decode cL_ties 266 = .ok (.iload_n 1, 1) := by decide +kernel
theorem dL_ties_267 : decode cL_ties 267 = .ok (.iconst 1, 1) := by decide +kernel
theorem dL_ties_268 : decode cL_ties 268 = .ok (.invokevirtual 24, 3) := by decide +kernel
theorem dL_ties_271 : decode cL_ties 271 = .ok (.iload 9, 2) := by decide +kernel
theorem dL_ties_273 : decode cL_ties 273 = .ok (.if_icmp .ne 15, 3) := by decide +kernel
theorem dL_ties_276 : decode cL_ties 276 = .ok (.aload_n 0, 1) := by decide +kernel
theorem dL_ties_277 : decode cL_ties 277 = .ok (.invokevirtual 74, 3) := by decide +kernel
theorem dL_ties_280 : decode cL_ties 280 = .ok (.iload_n 3, 1) := by decide +kernel
theorem dL_ties_281 : decode cL_ties 281 = .ok (.if_icmp .ne 7, 3) := by decide +kernel
theorem dL_ties_284 : decode cL_ties 284 = .ok (.iconst 1, 1) := by decide +kernel
theorem dL_ties_285 : decode cL_ties 285 = .ok (.goto 4, 3) := by decide +kernel
theorem dL_ties_288 : decode cL_ties 288 = .ok (.iconst 0, 1) := by decide +kernel
theorem dL_ties_289 : decode cL_ties 289 = .ok (.ireturn, 1) := by decide +kernel
theorem dL_ties_290 : decode cL_ties 290 = .ok (.iconst 0, 1) := by decide +kernel
theorem dL_ties_291 : decode cL_ties 291 = .ok (.istore 11, 2) := by decide +kernel
theorem dL_ties_293 : decode cL_ties 293 = .ok (.iload 11, 2) := by decide +kernel
theorem dL_ties_295 : decode cL_ties 295 = .ok (.iload_n 3, 1) := by decide +kernel
theorem dL_ties_296 : decode cL_ties 296 = .ok (.if_icmp .ge 49, 3) := by decide +kernel
theorem dL_ties_299 : decode cL_ties 299 = .ok (.iload 10, 2) := by decide +kernel
theorem dL_ties_301 : decode cL_ties 301 = .ok (.iload 9, 2) := by decide +kernel
theorem dL_ties_303 : decode cL_ties 303 = .ok (.if_icmp .ne 42, 3) := by decide +kernel
theorem dL_ties_306 : decode cL_ties 306 = .ok (.aload_n 0, 1) := by decide +kernel
theorem dL_ties_307 : decode cL_ties 307 = .ok (.iload_n 1, 1) := by decide +kernel
theorem dL_ties_308 : decode cL_ties 308 = .ok (.iload 9, 2) := by decide +kernel
theorem dL_ties_310 : decode cL_ties 310 = .ok (.iload 11, 2) := by decide +kernel
theorem dL_ties_312 : decode cL_ties 312 = .ok (.iconst 1, 1) := by decide +kernel
theorem dL_ties_313 : decode cL_ties 313 = .ok (.invokevirtual 16, 3) := by decide +kernel
theorem dL_ties_316 : decode cL_ties 316 = .ok (.aload 4, 2) := by decide +kernel
theorem dL_ties_318 : decode cL_ties 318 = .ok (.iload 11, 2) := by decide +kernel
theorem dL_ties_320 : decode cL_ties 320 = .ok (.iaload, 1) := by decide +kernel
theorem dL_ties_321 : decode cL_ties 321 = .ok (.if_icmp .ne 16, 3) := by decide +kernel
theorem dL_ties_324 : decode cL_ties 324 = .ok (.aload_n 0, 1) := by decide +kernel
theorem dL_ties_325 : decode cL_ties 325 = .ok (.iload_n 1, 1) := by decide +kernel
theorem dL_ties_326 : decode cL_ties 326 = .ok (.iload 9, 2) := by decide +kernel
theorem dL_ties_328 : decode cL_ties 328 = .ok (.iload 11, 2) := by decide +kernel
theorem dL_ties_330 : decode cL_ties 330 = .ok (.iconst 2, 1) := by decide +kernel
theorem dL_ties_331 : decode cL_ties 331 = .ok (.invokevirtual 16, 3) := by decide +kernel
theorem dL_ties_334 : decode cL_ties 334 = .ok (.ifCond .eq 5, 3) := by decide +kernel
theorem dL_ties_337 : decode cL_ties 337 = .ok (.iconst 0, 1) := by decide +kernel
theorem dL_ties_338 : decode cL_ties 338 = .ok (.ireturn, 1) := by decide +kernel
theorem dL_ties_339 : decode cL_ties 339 = .ok (.iinc 11 1, 3) := by decide +kernel
theorem dL_ties_342 : decode cL_ties 342 = .ok (.goto (-49), 3) := by decide +kernel
theorem dL_ties_345 : decode cL_ties 345 = .ok (.iload 10, 2) := by decide +kernel
theorem dL_ties_347 : decode cL_ties 347 = .ok (.iload 9, 2) := by decide +kernel
theorem dL_ties_349 : decode cL_ties 349 = .ok (.if_icmp .ne 48, 3) := by decide +kernel
theorem dL_ties_352 : decode cL_ties 352 = .ok (.aload_n 0, 1) := by decide +kernel
theorem dL_ties_353 : decode cL_ties 353 = .ok (.iload_n 1, 1) := by decide +kernel
theorem dL_ties_354 : decode cL_ties 354 = .ok (.iload 9, 2) := by decide +kernel
theorem dL_ties_356 : decode cL_ties 356 = .ok (.iconst 0, 1) := by decide +kernel
theorem dL_ties_357 : decode cL_ties 357 = .ok (.invokevirtual 10, 3) := by decide +kernel
theorem dL_ties_360 : decode cL_ties 360 = .ok (.iload_n 3, 1) := by decide +kernel
theorem dL_ties_361 : decode cL_ties 361 = .ok (.if_icmp .ne 36, 3) := by decide +kernel
theorem dL_ties_364 : decode cL_ties 364 = .ok (.aload_n 0, 1) := by decide +kernel
theorem dL_ties_365 : decode cL_ties 365 = .ok (.bipush 9, 2) := by decide +kernel
theorem dL_ties_367 : decode cL_ties 367 = .ok (.invokevirtual 39, 3) := by decide +kernel
theorem dL_ties_370 : decode cL_ties 370 = .ok (.iload 8, 2) := by decide +kernel
theorem dL_ties_372 : decode cL_ties 372 = .ok (.iload_n 3, 1) := by decide +kernel
theorem dL_ties_373 : decode cL_ties 373 = .ok (.iadd, 1) := by decide +kernel
theorem dL_ties_374 : decode cL_ties 374 = .ok (.if_icmp .ne 23, 3) := by decide +kernel
theorem dL_ties_377 : decode cL_ties 377 = .ok (.aload_n 0, 1) := by decide +kernel
theorem dL_ties_378 : decode cL_ties 378 = .ok (.iload_n 1, 1) := by decide +kernel
theorem dL_ties_379 : decode cL_ties 379 = .ok (.iload 9, 2) := by decide +kernel
theorem dL_ties_381 : decode cL_ties 381 = .ok (.invokestatic 91, 3) := by decide +kernel
theorem dL_ties_384 : decode cL_ties 384 = .ok (.ifCond .eq 13, 3) := by decide +kernel
theorem dL_ties_387 : decode cL_ties 387 = .ok (.iload 5, 2) := by decide +kernel
theorem dL_ties_389 : decode cL_ties 389 = .ok (.iload_n 3, 1) := by decide +kernel
theorem dL_ties_390 : decode cL_ties 390 = .ok (.if_icmp .ne 7, 3) := by decide +kernel
theorem dL_ties_393 : decode cL_ties 393 = .ok (.iconst 1, 1) := by decide +kernel
theorem dL_ties_394 : decode cL_ties 394 = .ok (.goto 4, 3) := by decide +kernel
theorem dL_ties_397 : decode cL_ties 397 = .ok (.iconst 0, 1) := by decide +kernel
theorem dL_ties_398 : decode cL_ties 398 = .ok (.ireturn, 1) := by decide +kernel
theorem dL_storms_0 : decode cL_storms 0 = .ok (.aload_n 0, 1) := by decide +kernel
theorem dL_storms_1 : decode cL_storms 1 = .ok (.iload_n 1, 1) := by decide +kernel
theorem dL_storms_2 : decode cL_storms 2 = .ok (.iconst 0, 1) := by decide +kernel
theorem dL_storms_3 : decode cL_storms 3 = .ok (.invokevirtual 36, 3) := by decide +kernel
theorem dL_storms_6 : decode cL_storms 6 = .ok (.istore_n 2, 1) := by decide +kernel
theorem dL_storms_7 : decode cL_storms 7 = .ok (.aload_n 0, 1) := by decide +kernel
theorem dL_storms_8 : decode cL_storms 8 = .ok (.iconst 0, 1) := by decide +kernel
theorem dL_storms_9 : decode cL_storms 9 = .ok (.invokevirtual 39, 3) := by decide +kernel
theorem dL_storms_12 : decode cL_storms 12 = .ok (.istore_n 3, 1) := by decide +kernel
theorem dL_storms_13 : decode cL_storms 13 = .ok (.aload_n 0, 1) := by decide +kernel
theorem dL_storms_14 : decode cL_storms 14 = .ok (.iconst 1, 1) := by decide +kernel
theorem dL_storms_15 : decode cL_storms 15 = .ok (.invokevirtual 39, 3) := by decide +kernel
theorem dL_storms_18 : decode cL_storms 18 = .ok (.istore 4, 2) := by decide +kernel
theorem dL_storms_20 : decode cL_storms 20 = .ok (.aload_n 0, 1) := by decide +kernel
theorem dL_storms_21 : decode cL_storms 21 = .ok (.bipush 7, 2) := by decide +kernel
theorem dL_storms_23 : decode cL_storms 23 = .ok (.invokevirtual 39, 3) := by decide +kernel
theorem dL_storms_26 : decode cL_storms 26 = .ok (.istore 5, 2) := by decide +kernel
theorem dL_storms_28 : decode cL_storms 28 = .ok (.iconst 0, 1) := by decide +kernel
theorem dL_storms_29 : decode cL_storms 29 = .ok (.istore 6, 2) := by decide +kernel
theorem dL_storms_31 : decode cL_storms 31 = .ok (.iconst 0, 1) := by decide +kernel
theorem dL_storms_32 : decode cL_storms 32 = .ok (.istore 7, 2) := by decide +kernel
theorem dL_storms_34 : decode cL_storms 34 = .ok (.iconst 0, 1) := by decide +kernel
theorem dL_storms_35 : decode cL_storms 35 = .ok (.istore 8, 2) := by decide +kernel
theorem dL_storms_37 : decode cL_storms 37 = .ok (.iload 8, 2) := by decide +kernel
theorem dL_storms_39 : decode cL_storms 39 = .ok (.aload_n 0, 1) := by decide +kernel
theorem dL_storms_40 : decode cL_storms 40 = .ok (.iload_n 1, 1) := by decide +kernel
theorem dL_storms_41 : decode cL_storms 41 = .ok (.iconst 1, 1) := by decide +kernel
theorem dL_storms_42 : decode cL_storms 42 = .ok (.invokevirtual 24, 3) := by decide +kernel
theorem dL_storms_45 : decode cL_storms 45 = .ok (.if_icmp .ge 55, 3) := by decide +kernel
theorem dL_storms_48 : decode cL_storms 48 = .ok (.iload 7, 2) := by decide +kernel
theorem dL_storms_50 : decode cL_storms 50 = .ok (.ifCond .ne 15, 3) := by decide +kernel
theorem dL_storms_53 : decode cL_storms 53 = .ok (.aload_n 0, 1) := by decide +kernel
theorem dL_storms_54 : decode cL_storms 54 = .ok (.iload_n 1, 1) := by decide +kernel
theorem dL_storms_55 : decode cL_storms 55 = .ok (.iload 8, 2) := by decide +kernel
theorem dL_storms_57 : decode cL_storms 57 = .ok (.iconst 4, 1) := by decide +kernel
theorem dL_storms_58 : decode cL_storms 58 = .ok (.invokevirtual 10, 3) := by decide +kernel
theorem dL_storms_61 : decode cL_storms 61 = .ok (.iconst 1, 1) := by decide +kernel
theorem dL_storms_62 : decode cL_storms 62 = .ok (.if_icmp .ne 7, 3) := by decide +kernel
theorem dL_storms_65 : decode cL_storms 65 = .ok (.iconst 1, 1) := by decide +kernel
theorem dL_storms_66 : decode cL_storms 66 = .ok (.goto 4, 3) := by decide +kernel
theorem dL_storms_69 : decode cL_storms 69 = .ok (.iconst 0, 1) := by decide +kernel
theorem dL_storms_70 : decode cL_storms 70 = .ok (.istore 7, 2) := by decide +kernel
theorem dL_storms_72 : decode cL_storms 72 = .ok (.iload 6, 2) := by decide +kernel
theorem dL_storms_74 : decode cL_storms 74 = .ok (.aload_n 0, 1) := by decide +kernel
theorem dL_storms_75 : decode cL_storms 75 = .ok (.iload_n 1, 1) := by decide +kernel
theorem dL_storms_76 : decode cL_storms 76 = .ok (.iload 8, 2) := by decide +kernel
theorem dL_storms_78 : decode cL_storms 78 = .ok (.iconst 4, 1) := by decide +kernel
theorem dL_storms_79 : decode cL_storms 79 = .ok (.invokevirtual 10, 3) := by decide +kernel
theorem dL_storms_82 : decode cL_storms 82 = .ok (.iconst 1, 1) := by decide +kernel
theorem dL_storms_83 : decode cL_storms 83 = .ok (.if_icmp .ne 7, 3) := by decide +kernel
theorem dL_storms_86 : decode cL_storms 86 = .ok (.iconst 1, 1) := by decide +kernel
theorem dL_storms_87 : decode cL_storms 87 = .ok (.goto 4, 3) := by decide +kernel
theorem dL_storms_90 : decode cL_storms 90 = .ok (.iconst 0, 1) := by decide +kernel
theorem dL_storms_91 : decode cL_storms 91 = .ok (.iadd, 1) := by decide +kernel
theorem dL_storms_92 : decode cL_storms 92 = .ok (.istore 6, 2) := by decide +kernel
theorem dL_storms_94 : decode cL_storms 94 = .ok (.iinc 8 1, 3) := by decide +kernel
theorem dL_storms_97 : decode cL_storms 97 = .ok (.goto (-60), 3) := by decide +kernel
theorem dL_storms_100 : decode cL_storms 100 = .ok (.aload_n 0, 1) := by decide +kernel
theorem dL_storms_101 : decode cL_storms 101 = .ok (.iload_n 1, 1) := by decide +kernel
theorem dL_storms_102 : decode cL_storms 102 = .ok (.invokevirtual 94, 3) := by decide +kernel
theorem dL_storms_105 : decode cL_storms 105 = .ok (.iload_n 2, 1) := by decide +kernel
theorem dL_storms_106 : decode cL_storms 106 = .ok (.if_icmp .ne 104, 3) := by decide +kernel
theorem dL_storms_109 : decode cL_storms 109 = .ok (.iload 6, 2) := by decide +kernel
theorem dL_storms_111 : decode cL_storms 111 = .ok (.iload_n 2, 1) := by decide +kernel
theorem dL_storms_112 : decode cL_storms 112 = .ok (.if_icmp .ne 98, 3) := by decide +kernel
theorem dL_storms_115 : decode cL_storms 115 = .ok (.iload 7, 2) := by decide +kernel
theorem dL_storms_117 : decode cL_storms 117 = .ok (.iload_n 2, 1) := by decide +kernel
theorem dL_storms_118 : decode cL_storms 118 = .ok (.ifCond .le 7, 3) := by decide +kernel
theorem dL_storms_121 : decode cL_storms 121 = .ok (.iconst 1, 1) := by decide +kernel
theorem dL_storms_122 : decode cL_storms 122 = .ok (.goto 4, 3) := by decide +kernel
theorem dL_storms_125 : decode cL_storms 125 = .ok (.iconst 0, 1) := by decide +kernel
theorem dL_storms_126 : decode cL_storms 126 = .ok (.if_icmp .ne 84, 3) := by decide +kernel
theorem dL_storms_129 : decode cL_storms 129 = .ok (.aload_n 0, 1) := by decide +kernel
theorem dL_storms_130 : decode cL_storms 130 = .ok (.iconst 1, 1) := by decide +kernel
theorem dL_storms_131 : decode cL_storms 131 = .ok (.invokevirtual 39, 3) := by decide +kernel
theorem dL_storms_134 : decode cL_storms 134 = .ok (.iload 4, 2) := by decide +kernel
theorem dL_storms_136 : decode cL_storms 136 = .ok (.iconst 1, 1) := by decide +kernel
theorem dL_storms_137 : decode cL_storms 137 = .ok (.iadd, 1) := by decide +kernel
theorem dL_storms_138 : decode cL_storms 138 = .ok (.if_icmp .ne 72, 3) := by decide +kernel
theorem dL_storms_141 : decode cL_storms 141 = .ok (.aload_n 0, 1) := by decide +kernel
theorem dL_storms_142 : decode cL_storms 142 = .ok (.bipush 7, 2) := by decide +kernel
theorem dL_storms_144 : decode cL_storms 144 = .ok (.invokevirtual 39, 3) := by decide +kernel
theorem dL_storms_147 : decode cL_storms 147 = .ok (.iload 5, 2) := by decide +kernel
theorem dL_storms_149 : decode cL_storms 149 = .ok (.iload_n 2, 1) := by decide +kernel
theorem dL_storms_150 : decode cL_storms 150 = .ok (.iadd, 1) := by decide +kernel
theorem dL_storms_151 : decode cL_storms 151 = .ok (.if_icmp .ne 59, 3) := by decide +kernel
theorem dL_storms_154 : decode cL_storms 154 = .ok (.aload_n 0, 1) := by decide +kernel
theorem dL_storms_155 : decode cL_storms 155 = .ok (.iconst 0, 1) := by decide +kernel
theorem dL_storms_156 : decode cL_storms 156 = .ok (.invokevirtual 39, 3) := by decide +kernel
theorem dL_storms_159 : decode cL_storms 159 = .ok (.iload_n 3, 1) := by decide +kernel
theorem dL_storms_160 : decode cL_storms 160 = .ok (.iload_n 2, 1) := by decide +kernel
theorem dL_storms_161 : decode cL_storms 161 = .ok (.isub, 1) := by decide +kernel
theorem dL_storms_162 : decode cL_storms 162 = .ok (.if_icmp .ne 48, 3) := by decide +kernel
theorem dL_storms_165 : decode cL_storms 165 = .ok (.iload_n 2, 1) := by decide +kernel
theorem dL_storms_166 : decode cL_storms 166 = .ok (.ifCond .eq 40, 3) := by decide +kernel
theorem dL_storms_169 : decode cL_storms 169 = .ok (.aload_n 0, 1) := by decide +kernel
theorem dL_storms_170 : decode cL_storms 170 = .ok (.aload_n 0, 1) := by decide +kernel
theorem dL_storms_171 : decode cL_storms 171 = .ok (.bipush 6, 2) := by decide +kernel
theorem dL_storms_173 : decode cL_storms 173 = .ok (.invokevirtual 39, 3) := by decide +kernel
theorem dL_storms_176 : decode cL_storms 176 = .ok (.iconst 1, 1) := by decide +kernel
theorem dL_storms_177 : decode cL_storms 177 = .ok (.isub, 1) := by decide +kernel
theorem dL_storms_178 : decode cL_storms 178 = .ok (.iconst 1, 1) := by decide +kernel
theorem dL_storms_179 : decode cL_storms 179 = .ok (.invokevirtual 43, 3) := by decide +kernel
theorem dL_storms_182 : decode cL_storms 182 = .ok (.iload_n 1, 1) := by decide +kernel
theorem dL_storms_183 : decode cL_storms 183 = .ok (.if_icmp .ne 27, 3) := by decide +kernel
theorem dL_storms_186 : decode cL_storms 186 = .ok (.aload_n 0, 1) := by decide +kernel
theorem dL_storms_187 : decode cL_storms 187 = .ok (.aload_n 0, 1) := by decide +kernel
theorem dL_storms_188 : decode cL_storms 188 = .ok (.bipush 6, 2) := by decide +kernel
theorem dL_storms_190 : decode cL_storms 190 = .ok (.invokevirtual 39, 3) := by decide +kernel
theorem dL_storms_193 : decode cL_storms 193 = .ok (.iconst 1, 1) := by decide +kernel
theorem dL_storms_194 : decode cL_storms 194 = .ok (.isub, 1) := by decide +kernel
theorem dL_storms_195 : decode cL_storms 195 = .ok (.iconst 2, 1) := by decide +kernel
theorem dL_storms_196 : decode cL_storms 196 = .ok (.invokevirtual 43, 3) := by decide +kernel
theorem dL_storms_199 : decode cL_storms 199 = .ok (.iload 4, 2) := by decide +kernel
theorem dL_storms_201 : decode cL_storms 201 = .ok (.iconst 1, 1) := by decide +kernel
theorem dL_storms_202 : decode cL_storms 202 = .ok (.iadd, 1) := by decide +kernel
theorem dL_storms_203 : decode cL_storms 203 = .ok (.if_icmp .ne 7, 3) := by decide +kernel
theorem dL_storms_206 : decode cL_storms 206 = .ok (.iconst 1, 1) := by decide +kernel
theorem dL_storms_207 : decode cL_storms 207 = .ok (.goto 4, 3) := by decide +kernel
theorem dL_storms_210 : decode cL_storms 210 = .ok (.iconst 0, 1) := by decide +kernel
theorem dL_storms_211 : decode cL_storms 211 = .ok (.ireturn, 1) := by decide +kernel
theorem dL_bears_0 : decode cL_bears 0 = .ok (.aload_n 0, 1) := by decide +kernel
theorem dL_bears_1 : decode cL_bears 1 = .ok (.iload_n 1, 1) := by decide +kernel
theorem dL_bears_2 : decode cL_bears 2 = .ok (.iload_n 2, 1) := by decide +kernel
theorem dL_bears_3 : decode cL_bears 3 = .ok (.iconst 4, 1) := by decide +kernel
theorem dL_bears_4 : decode cL_bears 4 = .ok (.invokevirtual 10, 3) := by decide +kernel
theorem dL_bears_7 : decode cL_bears 7 = .ok (.istore_n 3, 1) := by decide +kernel
theorem dL_bears_8 : decode cL_bears 8 = .ok (.aload_n 0, 1) := by decide +kernel
theorem dL_bears_9 : decode cL_bears 9 = .ok (.invokevirtual 97, 3) := by decide +kernel
theorem dL_bears_12 : decode cL_bears 12 = .ok (.istore 4, 2) := by decide +kernel
theorem dL_bears_14 : decode cL_bears 14 = .ok (.iload_n 2, 1) := by decide +kernel
theorem dL_bears_15 : decode cL_bears 15 = .ok (.istore 5, 2) := by decide +kernel
theorem dL_bears_17 : decode cL_bears 17 = .ok (.iconst 1, 1) := by decide +kernel
theorem dL_bears_18 : decode cL_bears 18 = .ok (.istore 6, 2) := by decide +kernel
theorem dL_bears_20 : decode cL_bears 20 = .ok (.iconst 1, 1) := by decide +kernel
theorem dL_bears_21 : decode cL_bears 21 = .ok (.istore 7, 2) := by decide +kernel
theorem dL_bears_23 : decode cL_bears 23 = .ok (.iload 7, 2) := by decide +kernel
theorem dL_bears_25 : decode cL_bears 25 = .ok (.iload_n 3, 1) := by decide +kernel
theorem dL_bears_26 : decode cL_bears 26 = .ok (.ifCond .ge 8, 3) := by decide +kernel
theorem dL_bears_29 : decode cL_bears 29 = .ok (.bipush 60, 2) := by decide +kernel
theorem dL_bears_31 : decode cL_bears 31 = .ok (.goto 4, 3) := by decide +kernel
theorem dL_bears_34 : decode cL_bears 34 = .ok (.iload_n 3, 1) := by decide +kernel
theorem dL_bears_35 : decode cL_bears 35 = .ok (.if_icmp .gt 112, 3) := by decide +kernel
theorem dL_bears_38 : decode cL_bears 38 = .ok (.iload 6, 2) := by decide +kernel
theorem dL_bears_40 : decode cL_bears 40 = .ok (.ifCond .eq 107, 3) := by decide +kernel
theorem dL_bears_43 : decode cL_bears 43 = .ok (.iconst 0, 1) := by decide +kernel
theorem dL_bears_44 : decode cL_bears 44 = .ok (.istore 8, 2) := by decide +kernel
theorem dL_bears_46 : decode cL_bears 46 = .ok (.aload_n 0, 1) := by decide +kernel
theorem dL_bears_47 : decode cL_bears 47 = .ok (.iload_n 1, 1) := by decide +kernel
theorem dL_bears_48 : decode cL_bears 48 = .ok (.iload 5, 2) := by decide +kernel
theorem dL_bears_50 : decode cL_bears 50 = .ok (.iconst 4, 1) := by decide +kernel
theorem dL_bears_51 : decode cL_bears 51 = .ok (.invokevirtual 10, 3) := by decide +kernel
theorem dL_bears_54 : decode cL_bears 54 = .ok (.iconst 1, 1) := by decide +kernel
theorem dL_bears_55 : decode cL_bears 55 = .ok (.if_icmp .ne 7, 3) := by decide +kernel
theorem dL_bears_58 : decode cL_bears 58 = .ok (.iconst 1, 1) := by decide +kernel
theorem dL_bears_59 : decode cL_bears 59 = .ok (.goto 4, 3) := by decide +kernel
theorem dL_bears_62 : decode cL_bears 62 = .ok (.iconst 0, 1) := by decide +kernel
theorem dL_bears_63 : decode cL_bears 63 = .ok (.istore 9, 2) := by decide +kernel
theorem dL_bears_65 : decode cL_bears 65 = .ok (.iconst 0, 1) := by decide +kernel
theorem dL_bears_66 : decode cL_bears 66 = .ok (.istore 10, 2) := by decide +kernel
theorem dL_bears_68 : decode cL_bears 68 = .ok (.iload 10, 2) := by decide +kernel
theorem dL_bears_70 : decode cL_bears 70 = .ok (.iload 5, 2) := by decide +kernel
theorem dL_bears_72 : decode cL_bears 72 = .ok (.if_icmp .ge 31, 3) := by decide +kernel
theorem dL_bears_75 : decode cL_bears 75 = .ok (.iload 8, 2) := by decide +kernel
theorem dL_bears_77 : decode cL_bears 77 = .ok (.aload_n 0, 1) := by decide +kernel
theorem dL_bears_78 : decode cL_bears 78 = .ok (.iload_n 1, 1) := by decide +kernel
theorem dL_bears_79 : decode cL_bears 79 = .ok (.iload 10, 2) := by decide +kernel
theorem dL_bears_81 : decode cL_bears 81 = .ok (.iconst 4, 1) := by decide +kernel
theorem dL_bears_82 : decode cL_bears 82 = .ok (.invokevirtual 10, 3) := by decide +kernel
theorem dL_bears_85 : decode cL_bears 85 = .ok (.iconst 1, 1) := by decide +kernel
theorem dL_bears_86 : decode cL_bears 86 = .ok (.if_icmp .ne 7, 3) := by decide +kernel
theorem dL_bears_89 : decode cL_bears 89 = .ok (.iconst 1, 1) := by decide +kernel
theorem dL_bears_90 : decode cL_bears 90 = .ok (.goto 4, 3) := by decide +kernel
theorem dL_bears_93 : decode cL_bears 93 = .ok (.iconst 0, 1) := by decide +kernel
theorem dL_bears_94 : decode cL_bears 94 = .ok (.iadd, 1) := by decide +kernel
theorem dL_bears_95 : decode cL_bears 95 = .ok (.istore 8, 2) := by decide +kernel
theorem dL_bears_97 : decode cL_bears 97 = .ok (.iinc 10 1, 3) := by decide +kernel
theorem dL_bears_100 : decode cL_bears 100 = .ok (.goto (-32), 3) := by decide +kernel
theorem dL_bears_103 : decode cL_bears 103 = .ok (.aload_n 0, 1) := by decide +kernel
theorem dL_bears_104 : decode cL_bears 104 = .ok (.iload_n 1, 1) := by decide +kernel
theorem dL_bears_105 : decode cL_bears 105 = .ok (.invokevirtual 94, 3) := by decide +kernel
theorem dL_bears_108 : decode cL_bears 108 = .ok (.ifCond .lt 23, 3) := by decide +kernel
theorem dL_bears_111 : decode cL_bears 111 = .ok (.iload 9, 2) := by decide +kernel
theorem dL_bears_113 : decode cL_bears 113 = .ok (.iload 7, 2) := by decide +kernel
theorem dL_bears_115 : decode cL_bears 115 = .ok (.iload_n 3, 1) := by decide +kernel
theorem dL_bears_116 : decode cL_bears 116 = .ok (.if_icmp .ne 7, 3) := by decide +kernel
theorem dL_bears_119 : decode cL_bears 119 = .ok (.iconst 1, 1) := by decide +kernel
theorem dL_bears_120 : decode cL_bears 120 = .ok (.goto 4, 3) := by decide +kernel
theorem dL_bears_123 : decode cL_bears 123 = .ok (.iconst 0, 1) := by decide +kernel
theorem dL_bears_124 : decode cL_bears 124 = .ok (.if_icmp .ne 7, 3) := by decide +kernel
theorem dL_bears_127 : decode cL_bears 127 = .ok (.iconst 1, 1) := by decide +kernel
theorem dL_bears_128 : decode cL_bears 128 = .ok (.goto 4, 3) := by decide +kernel
theorem dL_bears_131 : decode cL_bears 131 = .ok (.iconst 0, 1) := by decide +kernel
theorem dL_bears_132 : decode cL_bears 132 = .ok (.istore 6, 2) := by decide +kernel
theorem dL_bears_134 : decode cL_bears 134 = .ok (.iload 5, 2) := by decide +kernel
theorem dL_bears_136 : decode cL_bears 136 = .ok (.iload 8, 2) := by decide +kernel
theorem dL_bears_138 : decode cL_bears 138 = .ok (.isub, 1) := by decide +kernel
theorem dL_bears_139 : decode cL_bears 139 = .ok (.istore 5, 2) := by decide +kernel
theorem dL_bears_141 : decode cL_bears 141 = .ok (.iinc 7 1, 3) := by decide +kernel
theorem dL_bears_144 : decode cL_bears 144 = .ok (.goto (-121), 3) := by decide +kernel
theorem dL_bears_147 : decode cL_bears 147 = .ok (.iload 6, 2) := by decide +kernel
theorem dL_bears_149 : decode cL_bears 149 = .ok (.ifCond .eq 16, 3) := by decide +kernel
theorem dL_bears_152 : decode cL_bears 152 = .ok (.aload_n 0, 1) := by decide +kernel
theorem dL_bears_153 : decode cL_bears 153 = .ok (.invokevirtual 100, 3) := by decide +kernel
theorem dL_bears_156 : decode cL_bears 156 = .ok (.iload 4, 2) := by decide +kernel
theorem dL_bears_158 : decode cL_bears 158 = .ok (.if_icmp .ne 7, 3) := by decide +kernel
theorem dL_bears_161 : decode cL_bears 161 = .ok (.iconst 1, 1) := by decide +kernel
theorem dL_bears_162 : decode cL_bears 162 = .ok (.goto 4, 3) := by decide +kernel
theorem dL_bears_165 : decode cL_bears 165 = .ok (.iconst 0, 1) := by decide +kernel
theorem dL_bears_166 : decode cL_bears 166 = .ok (.ireturn, 1) := by decide +kernel
theorem dL_fastens_0 : decode cL_fastens 0 = .ok (.aload_n 0, 1) := by decide +kernel
theorem dL_fastens_1 : decode cL_fastens 1 = .ok (.iload_n 1, 1) := by decide +kernel
theorem dL_fastens_2 : decode cL_fastens 2 = .ok (.iload_n 2, 1) := by decide +kernel
theorem dL_fastens_3 : decode cL_fastens 3 = .ok (.iconst 2, 1) := by decide +kernel
theorem dL_fastens_4 : decode cL_fastens 4 = .ok (.invokevirtual 10, 3) := by decide +kernel
theorem dL_fastens_7 : decode cL_fastens 7 = .ok (.istore_n 3, 1) := by decide +kernel
theorem dL_fastens_8 : decode cL_fastens 8 = .ok (.aload_n 0, 1) := by decide +kernel
theorem dL_fastens_9 : decode cL_fastens 9 = .ok (.iload_n 1, 1) := by decide +kernel
theorem dL_fastens_10 : decode cL_fastens 10 = .ok (.iload_n 2, 1) := by decide +kernel
theorem dL_fastens_11 : decode cL_fastens 11 = .ok (.iconst 3, 1) := by decide +kernel
theorem dL_fastens_12 : decode cL_fastens 12 = .ok (.invokevirtual 10, 3) := by decide +kernel
theorem dL_fastens_15 : decode cL_fastens 15 = .ok (.istore 4, 2) := by decide +kernel
theorem dL_fastens_17 : decode cL_fastens 17 = .ok (.bipush 8, 2) := by decide +kernel
theorem dL_fastens_19 : decode cL_fastens 19 = .ok (.newarray .int, 2) := by decide +kernel
theorem dL_fastens_21 : decode cL_fastens 21 = .ok (.astore 5, 2) := by decide +kernel
theorem dL_fastens_23 : decode cL_fastens 23 = .ok (.aload_n 0, 1) := by decide +kernel
theorem dL_fastens_24 : decode cL_fastens 24 = .ok (.iconst 2, 1) := by decide +kernel
theorem dL_fastens_25 : decode cL_fastens 25 = .ok (.invokevirtual 39, 3) := by decide +kernel
theorem dL_fastens_28 : decode cL_fastens 28 = .ok (.istore 6, 2) := by decide +kernel
theorem dL_fastens_30 : decode cL_fastens 30 = .ok (.iconst 0, 1) := by decide +kernel
theorem dL_fastens_31 : decode cL_fastens 31 = .ok (.istore 7, 2) := by decide +kernel
theorem dL_fastens_33 : decode cL_fastens 33 = .ok (.iload 7, 2) := by decide +kernel
theorem dL_fastens_35 : decode cL_fastens 35 = .ok (.bipush 8, 2) := by decide +kernel
theorem dL_fastens_37 : decode cL_fastens 37 = .ok (.if_icmp .ge 23, 3) := by decide +kernel
theorem dL_fastens_40 : decode cL_fastens 40 = .ok (.aload 5, 2) := by decide +kernel
theorem dL_fastens_42 : decode cL_fastens 42 = .ok (.iload 7, 2) := by decide +kernel
theorem dL_fastens_44 : decode cL_fastens 44 = .ok (.aload_n 0, 1) := by decide +kernel
theorem dL_fastens_45 : decode cL_fastens 45 = .ok (.iload_n 1, 1) := by decide +kernel
theorem dL_fastens_46 : decode cL_fastens 46 = .ok (.iload_n 2, 1) := by decide +kernel
theorem dL_fastens_47 : decode cL_fastens 47 = .ok (.iload 7, 2) := by decide +kernel
theorem dL_fastens_49 : decode cL_fastens 49 = .ok (.iconst 1, 1) := by decide +kernel
theorem dL_fastens_50 : decode cL_fastens 50 = .ok (.invokevirtual 16, 3) := by decide +kernel
theorem dL_fastens_53 : decode cL_fastens 53 = .ok (.iastore, 1) := by decide +kernel
theorem dL_fastens_54 : decode cL_fastens 54 = .ok (.iinc 7 1, 3) := by decide +kernel
theorem dL_fastens_57 : decode cL_fastens 57 = .ok (.goto (-24), 3) := by decide +kernel
theorem dL_fastens_60 : decode cL_fastens 60 = .ok (.aload_n 0, 1) := by decide +kernel
theorem dL_fastens_61 : decode cL_fastens 61 = .ok (.iload_n 1, 1) := by decide +kernel
theorem dL_fastens_62 : decode cL_fastens 62 = .ok (.iload_n 2, 1) := by decide +kernel
theorem dL_fastens_63 : decode cL_fastens 63 = .ok (.invokestatic 103, 3) := by decide +kernel
theorem dL_fastens_66 : decode cL_fastens 66 = .ok (.istore 7, 2) := by decide +kernel
theorem dL_fastens_68 : decode cL_fastens 68 = .ok (.iload 7, 2) := by decide +kernel
theorem dL_fastens_70 : decode cL_fastens 70 = .ok (.sipush (-7003), 3) := by decide +kernel
theorem dL_fastens_73 : decode cL_fastens 73 = .ok (.if_icmp .ne 43, 3) := by decide +kernel
theorem dL_fastens_76 : decode cL_fastens 76 = .ok (.aload_n 0, 1) := by decide +kernel
theorem dL_fastens_77 : decode cL_fastens 77 = .ok (.iload_n 1, 1) := by decide +kernel
theorem dL_fastens_78 : decode cL_fastens 78 = .ok (.iload_n 2, 1) := by decide +kernel
theorem dL_fastens_79 : decode cL_fastens 79 = .ok (.iconst 2, 1) := by decide +kernel
theorem dL_fastens_80 : decode cL_fastens 80 = .ok (.invokevirtual 10, 3) := by decide +kernel
theorem dL_fastens_83 : decode cL_fastens 83 = .ok (.iload_n 3, 1) := by decide +kernel
theorem dL_fastens_84 : decode cL_fastens 84 = .ok (.if_icmp .ne 30, 3) := by decide +kernel
theorem dL_fastens_87 : decode cL_fastens 87 = .ok (.aload_n 0, 1) := by decide +kernel
theorem dL_fastens_88 : decode cL_fastens 88 = .ok (.iconst 2, 1) := by decide +kernel
theorem dL_fastens_89 : decode cL_fastens 89 = .ok (.invokevirtual 39, 3) := by decide +kernel
theorem dL_fastens_92 : decode cL_fastens 92 = .ok (.iload 6, 2) := by decide +kernel
theorem dL_fastens_94 : decode cL_fastens 94 = .ok (.if_icmp .ne 20, 3) := by decide +kernel
theorem dL_fastens_97 : decode cL_fastens 97 = .ok (.aload_n 0, 1) := by decide +kernel
theorem dL_fastens_98 : decode cL_fastens 98 = .ok (.iload_n 1, 1) := by decide +kernel
theorem dL_fastens_99 : decode cL_fastens 99 = .ok (.iconst 2, 1) := by decide +kernel
theorem dL_fastens_100 : decode cL_fastens 100 = .ok (.invokevirtual 24, 3) := by decide +kernel
theorem dL_fastens_103 : decode cL_fastens 103 = .ok (.iload_n 3, 1) := by decide +kernel
theorem dL_fastens_104 : decode cL_fastens 104 = .ok (.iload 4, 2) := by decide +kernel
theorem dL_fastens_106 : decode cL_fastens 106 = .ok (.isub, 1) := by decide +kernel
theorem dL_fastens_107 : decode cL_fastens 107 = .ok (.if_icmp .ge 7, 3) := by decide +kernel
theorem dL_fastens_110 : decode cL_fastens 110 = .ok (.iconst 1, 1) := by decide +kernel
theorem dL_fastens_111 : decode cL_fastens 111 = .ok (.goto 4, 3) := by decide +kernel
theorem dL_fastens_114 : decode cL_fastens 114 = .ok (.iconst 0, 1) := by decide +kernel
theorem dL_fastens_115 : decode cL_fastens 115 = .ok (.ireturn, 1) := by decide +kernel
theorem dL_fastens_116 : decode cL_fastens 116 = .ok (.iconst 0, 1) := by decide +kernel
theorem dL_fastens_117 : decode cL_fastens 117 = .ok (.istore 8, 2) := by decide +kernel
theorem dL_fastens_119 : decode cL_fastens 119 = .ok (.iload 8, 2) := by decide +kernel
theorem dL_fastens_121 : decode cL_fastens 121 = .ok (.bipush 8, 2) := by decide +kernel
theorem dL_fastens_123 : decode cL_fastens 123 = .ok (.if_icmp .ge 28, 3) := by decide +kernel
theorem dL_fastens_126 : decode cL_fastens 126 = .ok (.aload_n 0, 1) := by decide +kernel
theorem dL_fastens_127 : decode cL_fastens 127 = .ok (.iload_n 1, 1) := by decide +kernel
theorem dL_fastens_128 : decode cL_fastens 128 = .ok (.iload_n 2, 1) := by decide +kernel
theorem dL_fastens_129 : decode cL_fastens 129 = .ok (.iload 8, 2) := by decide +kernel
theorem dL_fastens_131 : decode cL_fastens 131 = .ok (.iconst 1, 1) := by decide +kernel
theorem dL_fastens_132 : decode cL_fastens 132 = .ok (.invokevirtual 16, 3) := by decide +kernel
theorem dL_fastens_135 : decode cL_fastens 135 = .ok (.aload 5, 2) := by decide +kernel
theorem dL_fastens_137 : decode cL_fastens 137 = .ok (.iload 8, 2) := by decide +kernel
theorem dL_fastens_139 : decode cL_fastens 139 = .ok (.iaload, 1) := by decide +kernel
theorem dL_fastens_140 : decode cL_fastens 140 = .ok (.if_icmp .eq 5, 3) := by decide +kernel
theorem dL_fastens_143 : decode cL_fastens 143 = .ok (.iconst 0, 1) := by decide +kernel
theorem dL_fastens_144 : decode cL_fastens 144 = .ok (.ireturn, 1) := by decide +kernel
theorem dL_fastens_145 : decode cL_fastens 145 = .ok (.iinc 8 1, 3) := by decide +kernel
theorem dL_fastens_148 : decode cL_fastens 148 = .ok (.goto (-29), 3) := by decide +kernel
theorem dL_fastens_151 : decode cL_fastens 151 = .ok (.iload 7, 2) := by decide +kernel
theorem dL_fastens_153 : decode cL_fastens 153 = .ok (.iload_n 3, 1) := by decide +kernel
theorem dL_fastens_154 : decode cL_fastens 154 = .ok (.iload 4, 2) := by decide +kernel
theorem dL_fastens_156 : decode cL_fastens 156 = .ok (.isub, 1) := by decide +kernel
theorem dL_fastens_157 : decode cL_fastens 157 = .ok (.if_icmp .ne 44, 3) := by decide +kernel
theorem dL_fastens_160 : decode cL_fastens 160 = .ok (.aload_n 0, 1) := by decide +kernel
theorem dL_fastens_161 : decode cL_fastens 161 = .ok (.iload_n 1, 1) := by decide +kernel
theorem dL_fastens_162 : decode cL_fastens 162 = .ok (.iload_n 2, 1) := by decide +kernel
theorem dL_fastens_163 : decode cL_fastens 163 = .ok (.iconst 2, 1) := by decide +kernel
theorem dL_fastens_164 : decode cL_fastens 164 = .ok (.invokevirtual 10, 3) := by decide +kernel
theorem dL_fastens_167 : decode cL_fastens 167 = .ok (.iload 4, 2) := by decide +kernel
theorem dL_fastens_169 : decode cL_fastens 169 = .ok (.if_icmp .ne 32, 3) := by decide +kernel
theorem dL_fastens_172 : decode cL_fastens 172 = .ok (.aload_n 0, 1) := by decide +kernel
theorem dL_fastens_173 : decode cL_fastens 173 = .ok (.iload_n 1, 1) := by decide +kernel
theorem dL_fastens_174 : decode cL_fastens 174 = .ok (.iload_n 2, 1) := by decide +kernel
theorem dL_fastens_175 : decode cL_fastens 175 = .ok (.iconst 3, 1) := by decide +kernel
theorem dL_fastens_176 : decode cL_fastens 176 = .ok (.invokevirtual 10, 3) := by decide +kernel
theorem dL_fastens_179 : decode cL_fastens 179 = .ok (.iload 4, 2) := by decide +kernel
theorem dL_fastens_181 : decode cL_fastens 181 = .ok (.if_icmp .ne 20, 3) := by decide +kernel
theorem dL_fastens_184 : decode cL_fastens 184 = .ok (.aload_n 0, 1) := by decide +kernel
theorem dL_fastens_185 : decode cL_fastens 185 = .ok (.iconst 2, 1) := by decide +kernel
theorem dL_fastens_186 : decode cL_fastens 186 = .ok (.invokevirtual 39, 3) := by decide +kernel
theorem dL_fastens_189 : decode cL_fastens 189 = .ok (.iload 6, 2) := by decide +kernel
theorem dL_fastens_191 : decode cL_fastens 191 = .ok (.iload 7, 2) := by decide +kernel
theorem dL_fastens_193 : decode cL_fastens 193 = .ok (.iadd, 1) := by decide +kernel
theorem dL_fastens_194 : decode cL_fastens 194 = .ok (.if_icmp .ne 7, 3) := by decide +kernel
theorem dL_fastens_197 : decode cL_fastens 197 = .ok (.iconst 1, 1) := by decide +kernel
theorem dL_fastens_198 : decode cL_fastens 198 = .ok (.goto 4, 3) := by decide +kernel
theorem dL_fastens_201 : decode cL_fastens 201 = .ok (.iconst 0, 1) := by decide +kernel
theorem dL_fastens_202 : decode cL_fastens 202 = .ok (.ireturn, 1) := by decide +kernel
theorem dL_loose_0 : decode cL_loose 0 = .ok (.iconst 0, 1) := by decide +kernel
theorem dL_loose_1 : decode cL_loose 1 = .ok (.istore_n 2, 1) := by decide +kernel
theorem dL_loose_2 : decode cL_loose 2 = .ok (.iconst 0, 1) := by decide +kernel
theorem dL_loose_3 : decode cL_loose 3 = .ok (.istore_n 3, 1) := by decide +kernel
theorem dL_loose_4 : decode cL_loose 4 = .ok (.iload_n 3, 1) := by decide +kernel
theorem dL_loose_5 : decode cL_loose 5 = .ok (.aload_n 0, 1) := by decide +kernel
theorem dL_loose_6 : decode cL_loose 6 = .ok (.iload_n 1, 1) := by decide +kernel
theorem dL_loose_7 : decode cL_loose 7 = .ok (.iconst 1, 1) := by decide +kernel
theorem dL_loose_8 : decode cL_loose 8 = .ok (.invokevirtual 24, 3) := by decide +kernel
theorem dL_loose_11 : decode cL_loose 11 = .ok (.if_icmp .ge 19, 3) := by decide +kernel
theorem dL_loose_14 : decode cL_loose 14 = .ok (.iload_n 2, 1) := by decide +kernel
theorem dL_loose_15 : decode cL_loose 15 = .ok (.aload_n 0, 1) := by decide +kernel
theorem dL_loose_16 : decode cL_loose 16 = .ok (.iload_n 1, 1) := by decide +kernel
theorem dL_loose_17 : decode cL_loose 17 = .ok (.iload_n 3, 1) := by decide +kernel
theorem dL_loose_18 : decode cL_loose 18 = .ok (.iconst 2, 1) := by decide +kernel
theorem dL_loose_19 : decode cL_loose 19 = .ok (.invokevirtual 10, 3) := by decide +kernel
theorem dL_loose_22 : decode cL_loose 22 = .ok (.iadd, 1) := by decide +kernel
theorem dL_loose_23 : decode cL_loose 23 = .ok (.istore_n 2, 1) := by decide +kernel
theorem dL_loose_24 : decode cL_loose 24 = .ok (.iinc 3 1, 3) := by decide +kernel
theorem dL_loose_27 : decode cL_loose 27 = .ok (.goto (-23), 3) := by decide +kernel
theorem dL_loose_30 : decode cL_loose 30 = .ok (.iload_n 2, 1) := by decide +kernel
theorem dL_loose_31 : decode cL_loose 31 = .ok (.ireturn, 1) := by decide +kernel
theorem dL_gives_0 : decode cL_gives 0 = .ok (.aload_n 0, 1) := by decide +kernel
theorem dL_gives_1 : decode cL_gives 1 = .ok (.iload_n 1, 1) := by decide +kernel
theorem dL_gives_2 : decode cL_gives 2 = .ok (.iload_n 2, 1) := by decide +kernel
theorem dL_gives_3 : decode cL_gives 3 = .ok (.iload_n 3, 1) := by decide +kernel
theorem dL_gives_4 : decode cL_gives 4 = .ok (.invokevirtual 33, 3) := by decide +kernel
theorem dL_gives_7 : decode cL_gives 7 = .ok (.istore 4, 2) := by decide +kernel
theorem dL_gives_9 : decode cL_gives 9 = .ok (.aload_n 0, 1) := by decide +kernel
theorem dL_gives_10 : decode cL_gives 10 = .ok (.iload_n 1, 1) := by decide +kernel
theorem dL_gives_11 : decode cL_gives 11 = .ok (.iload_n 2, 1) := by decide +kernel
theorem dL_gives_12 : decode cL_gives 12 = .ok (.iconst 3, 1) := by decide +kernel
theorem dL_gives_13 : decode cL_gives 13 = .ok (.invokevirtual 10, 3) := by decide +kernel
theorem dL_gives_16 : decode cL_gives 16 = .ok (.istore 5, 2) := by decide +kernel
theorem dL_gives_18 : decode cL_gives 18 = .ok (.aload_n 0, 1) := by decide +kernel
theorem dL_gives_19 : decode cL_gives 19 = .ok (.iload_n 1, 1) := by decide +kernel
theorem dL_gives_20 : decode cL_gives 20 = .ok (.iload_n 2, 1) := by decide +kernel
theorem dL_gives_21 : decode cL_gives 21 = .ok (.iconst 0, 1) := by decide +kernel
theorem dL_gives_22 : decode cL_gives 22 = .ok (.invokevirtual 10, 3) := by decide +kernel
theorem dL_gives_25 : decode cL_gives 25 = .ok (.istore 6, 2) := by decide +kernel
theorem dL_gives_27 : decode cL_gives 27 = .ok (.aload_n 0, 1) := by decide +kernel
theorem dL_gives_28 : decode cL_gives 28 = .ok (.iconst 0, 1) := by decide +kernel
theorem dL_gives_29 : decode cL_gives 29 = .ok (.invokevirtual 39, 3) := by decide +kernel
theorem dL_gives_32 : decode cL_gives 32 = .ok (.istore 7, 2) := by decide +kernel
theorem dL_gives_34 : decode cL_gives 34 = .ok (.aload_n 0, 1) := by decide +kernel
theorem dL_gives_35 : decode cL_gives 35 = .ok (.bipush 8, 2) := by decide +kernel
theorem dL_gives_37 : decode cL_gives 37 = .ok (.invokevirtual 39, 3) := by decide +kernel
theorem dL_gives_40 : decode cL_gives 40 = .ok (.istore 8, 2) := by decide +kernel
theorem dL_gives_42 : decode cL_gives 42 = .ok (.aload_n 0, 1) := by decide +kernel
theorem dL_gives_43 : decode cL_gives 43 = .ok (.iload_n 3, 1) := by decide +kernel
theorem dL_gives_44 : decode cL_gives 44 = .ok (.invokestatic 107, 3) := by decide +kernel
theorem dL_gives_47 : decode cL_gives 47 = .ok (.istore 9, 2) := by decide +kernel
theorem dL_gives_49 : decode cL_gives 49 = .ok (.aload_n 0, 1) := by decide +kernel
theorem dL_gives_50 : decode cL_gives 50 = .ok (.iload_n 3, 1) := by decide +kernel
theorem dL_gives_51 : decode cL_gives 51 = .ok (.iconst 1, 1) := by decide +kernel
theorem dL_gives_52 : decode cL_gives 52 = .ok (.invokevirtual 24, 3) := by decide +kernel
theorem dL_gives_55 : decode cL_gives 55 = .ok (.istore 10, 2) := by decide +kernel
theorem dL_gives_57 : decode cL_gives 57 = .ok (.bipush 8, 2) := by decide +kernel
theorem dL_gives_59 : decode cL_gives 59 = .ok (.newarray .int, 2) := by decide +kernel
theorem dL_gives_61 : decode cL_gives 61 = .ok (.astore 11, 2) := by decide +kernel
theorem dL_gives_63 : decode cL_gives 63 = .ok (.iconst 0, 1) := by decide +kernel
theorem dL_gives_64 : decode cL_gives 64 = .ok (.istore 12, 2) := by decide +kernel
theorem dL_gives_66 : decode cL_gives 66 = .ok (.iload 12, 2) := by decide +kernel
theorem dL_gives_68 : decode cL_gives 68 = .ok (.bipush 8, 2) := by decide +kernel
theorem dL_gives_70 : decode cL_gives 70 = .ok (.if_icmp .ge 23, 3) := by decide +kernel
theorem dL_gives_73 : decode cL_gives 73 = .ok (.aload 11, 2) := by decide +kernel
theorem dL_gives_75 : decode cL_gives 75 = .ok (.iload 12, 2) := by decide +kernel
theorem dL_gives_77 : decode cL_gives 77 = .ok (.aload_n 0, 1) := by decide +kernel
theorem dL_gives_78 : decode cL_gives 78 = .ok (.iload_n 1, 1) := by decide +kernel
theorem dL_gives_79 : decode cL_gives 79 = .ok (.iload_n 2, 1) := by decide +kernel
theorem dL_gives_80 : decode cL_gives 80 = .ok (.iload 12, 2) := by decide +kernel
theorem dL_gives_82 : decode cL_gives 82 = .ok (.iconst 1, 1) := by decide +kernel
theorem dL_gives_83 : decode cL_gives 83 = .ok (.invokevirtual 16, 3) := by decide +kernel
theorem dL_gives_86 : decode cL_gives 86 = .ok (.iastore, 1) := by decide +kernel
theorem dL_gives_87 : decode cL_gives 87 = .ok (.iinc 12 1, 3) := by decide +kernel
theorem dL_gives_90 : decode cL_gives 90 = .ok (.goto (-24), 3) := by decide +kernel
theorem dL_gives_93 : decode cL_gives 93 = .ok (.aload_n 0, 1) := by decide +kernel
theorem dL_gives_94 : decode cL_gives 94 = .ok (.iload_n 1, 1) := by decide +kernel
theorem dL_gives_95 : decode cL_gives 95 = .ok (.iload_n 2, 1) := by decide +kernel
theorem dL_gives_96 : decode cL_gives 96 = .ok (.iload_n 3, 1) := by decide +kernel
theorem dL_gives_97 : decode cL_gives 97 = .ok (.invokestatic 110, 3) := by decide +kernel
theorem dL_gives_100 : decode cL_gives 100 = .ok (.istore 12, 2) := by decide +kernel
theorem dL_gives_102 : decode cL_gives 102 = .ok (.iload 4, 2) := by decide +kernel
theorem dL_gives_104 : decode cL_gives 104 = .ok (.iconst 5, 1) := by decide +kernel
theorem dL_gives_105 : decode cL_gives 105 = .ok (.if_icmp .ne 7, 3) := by decide +kernel
theorem dL_gives_108 : decode cL_gives 108 = .ok (.iconst 1, 1) := by decide +kernel
theorem dL_gives_109 : decode cL_gives 109 = .ok (.goto 4, 3) := by decide +kernel
theorem dL_gives_112 : decode cL_gives 112 = .ok (.iconst 0, 1) := by decide +kernel
theorem dL_gives_113 : decode cL_gives 113 = .ok (.iload_n 1, 1) := by decide +kernel
theorem dL_gives_114 : decode cL_gives 114 = .ok (.iload_n 3, 1) := by decide +kernel
theorem dL_gives_115 : decode cL_gives 115 = .ok (.if_icmp .ne 7, 3) := by decide +kernel
theorem dL_gives_118 : decode cL_gives 118 = .ok (.iconst 1, 1) := by decide +kernel
theorem dL_gives_119 : decode cL_gives 119 = .ok (.goto 4, 3) := by decide +kernel
theorem dL_gives_122 : decode cL_gives 122 = .ok (.iconst 0, 1) := by decide +kernel
theorem dL_gives_123 : decode cL_gives 123 = .ok (.if_icmp .ne 32, 3) := by decide +kernel
theorem dL_gives_126 : decode cL_gives 126 = .ok (.iload 4, 2) := by decide +kernel
theorem dL_gives_128 : decode cL_gives 128 = .ok (.iconst 4, 1) := by decide +kernel
theorem dL_gives_129 : decode cL_gives 129 = .ok (.if_icmp .ne 7, 3) := by decide +kernel
theorem dL_gives_132 : decode cL_gives 132 = .ok (.iconst 1, 1) := by decide +kernel
theorem dL_gives_133 : decode cL_gives 133 = .ok (.goto 4, 3) := by decide +kernel
theorem dL_gives_136 : decode cL_gives 136 = .ok (.iconst 0, 1) := by decide +kernel
theorem dL_gives_137 : decode cL_gives 137 = .ok (.iload_n 1, 1) := by decide +kernel
theorem dL_gives_138 : decode cL_gives 138 = .ok (.iload_n 3, 1) := by decide +kernel
theorem dL_gives_139 : decode cL_gives 139 = .ok (.if_icmp .eq 12, 3) := by decide +kernel
theorem dL_gives_142 : decode cL_gives 142 = .ok (.iload 5, 2) := by decide +kernel
theorem dL_gives_144 : decode cL_gives 144 = .ok (.ifCond .le 7, 3) := by decide +kernel
theorem dL_gives_147 : decode cL_gives 147 = .ok (.iconst 1, 1) := by decide +kernel
theorem dL_gives_148 : decode cL_gives 148 = .ok (.goto 4, 3) := by decide +kernel
theorem dL_gives_151 : decode cL_gives 151 = .ok (.iconst 0, 1) := by decide +kernel
theorem dL_gives_152 : decode cL_gives 152 = .ok (.if_icmp .eq 5, 3) := by decide +kernel
theorem dL_gives_155 : decode cL_gives 155 = .ok (.iconst 0, 1) := by decide +kernel
theorem dL_gives_156 : decode cL_gives 156 = .ok (.ireturn, 1) := by decide +kernel
theorem dL_gives_157 : decode cL_gives 157 = .ok (.iload 4, 2) := by decide +kernel
theorem dL_gives_159 : decode cL_gives 159 = .ok (.ifCond .le 28, 3) := by decide +kernel
theorem dL_gives_162 : decode cL_gives 162 = .ok (.iload 12, 2) := by decide +kernel
theorem dL_gives_164 : decode cL_gives 164 = .ok (.sipush (-7003), 3) := by decide +kernel
theorem dL_gives_167 : decode cL_gives 167 = .ok (.if_icmp .ne 18, 3) := by decide +kernel
theorem dL_gives_170 : decode cL_gives 170 = .ok (.aload_n 0, 1) := by decide +kernel
theorem dL_gives_171 : decode cL_gives 171 = .ok (.bipush 8, 2) := by decide +kernel
theorem dL_gives_173 : decode cL_gives 173 = .ok (.invokevirtual 39, 3) := by decide +kernel
theorem dL_gives_176 : decode cL_gives 176 = .ok (.iload 8, 2) := by decide +kernel
theorem dL_gives_178 : decode cL_gives 178 = .ok (.if_icmp .ne 7, 3) := by decide +kernel
theorem dL_gives_181 : decode cL_gives 181 = .ok (.iconst 1, 1) := by decide +kernel
theorem dL_gives_182 : decode cL_gives 182 = .ok (.goto 4, 3) := by decide +kernel
theorem dL_gives_185 : decode cL_gives 185 = .ok (.iconst 0, 1) := by decide +kernel
theorem dL_gives_186 : decode cL_gives 186 = .ok (.ireturn, 1) := by decide +kernel
theorem dL_gives_187 : decode cL_gives 187 = .ok (.iconst 0, 1) := by decide +kernel
theorem dL_gives_188 : decode cL_gives 188 = .ok (.istore 13, 2) := by decide +kernel
theorem dL_gives_190 : decode cL_gives 190 = .ok (.iload 13, 2) := by decide +kernel
theorem dL_gives_192 : decode cL_gives 192 = .ok (.bipush 8, 2) := by decide +kernel
theorem dL_gives_194 : decode cL_gives 194 = .ok (.if_icmp .ge 47, 3) := by decide +kernel
theorem dL_gives_197 : decode cL_gives 197 = .ok (.aload_n 0, 1) := by decide +kernel
theorem dL_gives_198 : decode cL_gives 198 = .ok (.iload_n 3, 1) := by decide +kernel
theorem dL_gives_199 : decode cL_gives 199 = .ok (.iload 10, 2) := by decide +kernel
theorem dL_gives_201 : decode cL_gives 201 = .ok (.iload 13, 2) := by decide +kernel
theorem dL_gives_203 : decode cL_gives 203 = .ok (.iconst 0, 1) := by decide +kernel
theorem dL_gives_204 : decode cL_gives 204 = .ok (.invokevirtual 16, 3) := by decide +kernel
theorem dL_gives_207 : decode cL_gives 207 = .ok (.aload 11, 2) := by decide +kernel
theorem dL_gives_209 : decode cL_gives 209 = .ok (.iload 13, 2) := by decide +kernel
theorem dL_gives_211 : decode cL_gives 211 = .ok (.iaload, 1) := by decide +kernel
theorem dL_gives_212 : decode cL_gives 212 = .ok (.if_icmp .ne 21, 3) := by decide +kernel
theorem dL_gives_215 : decode cL_gives 215 = .ok (.aload_n 0, 1) := by decide +kernel
theorem dL_gives_216 : decode cL_gives 216 = .ok (.iload_n 3, 1) := by decide +kernel
theorem dL_gives_217 : decode cL_gives 217 = .ok (.iload 10, 2) := by decide +kernel
theorem dL_gives_219 : decode cL_gives 219 = .ok (.iload 13, 2) := by decide +kernel
theorem dL_gives_221 : decode cL_gives 221 = .ok (.iconst 1, 1) := by decide +kernel
theorem dL_gives_222 : decode cL_gives 222 = .ok (.invokevirtual 16, 3) := by decide +kernel
theorem dL_gives_225 : decode cL_gives 225 = .ok (.aload 11, 2) := by decide +kernel
theorem dL_gives_227 : decode cL_gives 227 = .ok (.iload 13, 2) := by decide +kernel
theorem dL_gives_229 : decode cL_gives 229 = .ok (.iaload, 1) := by decide +kernel
theorem dL_gives_230 : decode cL_gives 230 = .ok (.if_icmp .eq 5, 3) := by decide +kernel
theorem dL_gives_233 : decode cL_gives 233 = .ok (.iconst 0, 1) := by decide +kernel
theorem dL_gives_234 : decode cL_gives 234 = .ok (.ireturn, 1) := by decide +kernel
theorem dL_gives_235 : decode cL_gives 235 = .ok (.iinc 13 1, 3) := by decide +kernel
theorem dL_gives_238 : decode cL_gives 238 = .ok (.goto (-48), 3) := by decide +kernel
theorem dL_gives_241 : decode cL_gives 241 = .ok (.iload 12, 2) := by decide +kernel
theorem dL_gives_243 : decode cL_gives 243 = .ok (.iload 10, 2) := by decide +kernel
theorem dL_gives_245 : decode cL_gives 245 = .ok (.if_icmp .ne 53, 3) := by decide +kernel
theorem dL_gives_248 : decode cL_gives 248 = .ok (.aload_n 0, 1) := by decide +kernel
theorem dL_gives_249 : decode cL_gives 249 = .ok (.iload_n 3, 1) := by decide +kernel
theorem dL_gives_250 : decode cL_gives 250 = .ok (.iload 10, 2) := by decide +kernel
theorem dL_gives_252 : decode cL_gives 252 = .ok (.iconst 0, 1) := by decide +kernel
theorem dL_gives_253 : decode cL_gives 253 = .ok (.invokevirtual 10, 3) := by decide +kernel
theorem dL_gives_256 : decode cL_gives 256 = .ok (.iload 6, 2) := by decide +kernel
theorem dL_gives_258 : decode cL_gives 258 = .ok (.if_icmp .ne 40, 3) := by decide +kernel
theorem dL_gives_261 : decode cL_gives 261 = .ok (.aload_n 0, 1) := by decide +kernel
theorem dL_gives_262 : decode cL_gives 262 = .ok (.iconst 0, 1) := by decide +kernel
theorem dL_gives_263 : decode cL_gives 263 = .ok (.invokevirtual 39, 3) := by decide +kernel
theorem dL_gives_266 : decode cL_gives 266 = .ok (.iload 7, 2) := by decide +kernel
theorem dL_gives_268 : decode cL_gives 268 = .ok (.if_icmp .ne 30, 3) := by decide +kernel
theorem dL_gives_271 : decode cL_gives 271 = .ok (.aload_n 0, 1) := by decide +kernel
theorem dL_gives_272 : decode cL_gives 272 = .ok (.bipush 8, 2) := by decide +kernel
theorem dL_gives_274 : decode cL_gives 274 = .ok (.invokevirtual 39, 3) := by decide +kernel
theorem dL_gives_277 : decode cL_gives 277 = .ok (.iload 8, 2) := by decide +kernel
theorem dL_gives_279 : decode cL_gives 279 = .ok (.iconst 1, 1) := by decide +kernel
theorem dL_gives_280 : decode cL_gives 280 = .ok (.iadd, 1) := by decide +kernel
theorem dL_gives_281 : decode cL_gives 281 = .ok (.if_icmp .ne 17, 3) := by decide +kernel
theorem dL_gives_284 : decode cL_gives 284 = .ok (.aload_n 0, 1) := by decide +kernel
theorem dL_gives_285 : decode cL_gives 285 = .ok (.iload_n 3, 1) := by decide +kernel
theorem dL_gives_286 : decode cL_gives 286 = .ok (.invokestatic 107, 3) := by decide +kernel
theorem dL_gives_289 : decode cL_gives 289 = .ok (.iload 9, 2) := by decide +kernel
theorem dL_gives_291 : decode cL_gives 291 = .ok (.if_icmp .ne 7, 3) := by decide +kernel
theorem dL_gives_294 : decode cL_gives 294 = .ok (.iconst 1, 1) := by decide +kernel
theorem dL_gives_295 : decode cL_gives 295 = .ok (.goto 4, 3) := by decide +kernel
theorem dL_gives_298 : decode cL_gives 298 = .ok (.iconst 0, 1) := by decide +kernel
theorem dL_gives_299 : decode cL_gives 299 = .ok (.ireturn, 1) := by decide +kernel
theorem dL_act_0 : decode cL_act 0 = .ok (.iload_n 1, 1) := by decide +kernel
theorem dL_act_1 : decode cL_act 1 = .ok (.bipush 20, 2) := by decide +kernel
theorem dL_act_3 : decode cL_act 3 = .ok (.invokestatic 71, 3) := by decide +kernel
theorem dL_act_6 : decode cL_act 6 = .ok (.istore_n 3, 1) := by decide +kernel
theorem dL_act_7 : decode cL_act 7 = .ok (.iload_n 2, 1) := by decide +kernel
theorem dL_act_8 : decode cL_act 8 = .ok (.iload_n 2, 1) := by decide +kernel
theorem dL_act_9 : decode cL_act 9 = .ok (.bipush 20, 2) := by decide +kernel
theorem dL_act_11 : decode cL_act 11 = .ok (.ishr, 1) := by decide +kernel
theorem dL_act_12 : decode cL_act 12 = .ok (.iconst 2, 1) := by decide +kernel
theorem dL_act_13 : decode cL_act 13 = .ok (.invokestatic 71, 3) := by decide +kernel
theorem dL_act_16 : decode cL_act 16 = .ok (.ifCond .ne 7, 3) := by decide +kernel
theorem dL_act_19 : decode cL_act 19 = .ok (.iconst 5, 1) := by decide +kernel
theorem dL_act_20 : decode cL_act 20 = .ok (.goto 4, 3) := by decide +kernel
theorem dL_act_23 : decode cL_act 23 = .ok (.iconst 2, 1) := by decide +kernel
theorem dL_act_24 : decode cL_act 24 = .ok (.invokestatic 71, 3) := by decide +kernel
theorem dL_act_27 : decode cL_act 27 = .ok (.istore 4, 2) := by decide +kernel
theorem dL_act_29 : decode cL_act 29 = .ok (.aload_n 0, 1) := by decide +kernel
theorem dL_act_30 : decode cL_act 30 = .ok (.iload 4, 2) := by decide +kernel
theorem dL_act_32 : decode cL_act 32 = .ok (.iconst 1, 1) := by decide +kernel
theorem dL_act_33 : decode cL_act 33 = .ok (.invokevirtual 24, 3) := by decide +kernel
theorem dL_act_36 : decode cL_act 36 = .ok (.istore 5, 2) := by decide +kernel
theorem dL_act_38 : decode cL_act 38 = .ok (.iload_n 3, 1) := by decide +kernel
theorem dL_act_39 : decode cL_act 39 = .ok (.bipush 6, 2) := by decide +kernel
theorem dL_act_41 : decode cL_act 41 = .ok (.if_icmp .lt 8, 3) := by decide +kernel
theorem dL_act_44 : decode cL_act 44 = .ok (.iload 5, 2) := by decide +kernel
theorem dL_act_46 : decode cL_act 46 = .ok (.ifCond .ne 13, 3) := by decide +kernel
theorem dL_act_49 : decode cL_act 49 = .ok (.aload_n 0, 1) := by decide +kernel
theorem dL_act_50 : decode cL_act 50 = .ok (.iload 4, 2) := by decide +kernel
theorem dL_act_52 : decode cL_act 52 = .ok (.iload_n 2, 1) := by decide +kernel
theorem dL_act_53 : decode cL_act 53 = .ok (.iconst 2, 1) := by decide +kernel
theorem dL_act_54 : decode cL_act 54 = .ok (.ishr, 1) := by decide +kernel
theorem dL_act_55 : decode cL_act 55 = .ok (.invokestatic 114, 3) := by decide +kernel
theorem dL_act_58 : decode cL_act 58 = .ok (.ireturn, 1) := by decide +kernel
theorem dL_act_59 : decode cL_act 59 = .ok (.iload_n 2, 1) := by decide +kernel
theorem dL_act_60 : decode cL_act 60 = .ok (.iconst 3, 1) := by decide +kernel
theorem dL_act_61 : decode cL_act 61 = .ok (.ishr, 1) := by decide +kernel
theorem dL_act_62 : decode cL_act 62 = .ok (.iload 5, 2) := by decide +kernel
theorem dL_act_64 : decode cL_act 64 = .ok (.invokestatic 71, 3) := by decide +kernel
theorem dL_act_67 : decode cL_act 67 = .ok (.istore 6, 2) := by decide +kernel
theorem dL_act_69 : decode cL_act 69 = .ok (.iload_n 3, 1) := by decide +kernel
theorem dL_act_70 : decode cL_act 70 = .ok (.bipush 11, 2) := by decide +kernel
theorem dL_act_72 : decode cL_act 72 = .ok (.if_icmp .ge 10, 3) := by decide +kernel
theorem dL_act_75 : decode cL_act 75 = .ok (.aload_n 0, 1) := by decide +kernel
theorem dL_act_76 : decode cL_act 76 = .ok (.iload 4, 2) := by decide +kernel
theorem dL_act_78 : decode cL_act 78 = .ok (.invokestatic 117, 3) := by decide +kernel
theorem dL_act_81 : decode cL_act 81 = .ok (.ireturn, 1) := by decide +kernel
theorem dL_act_82 : decode cL_act 82 = .ok (.iload_n 3, 1) := by decide +kernel
theorem dL_act_83 : decode cL_act 83 = .ok (.bipush 11, 2) := by decide +kernel
theorem dL_act_85 : decode cL_act 85 = .ok (.if_icmp .ne 12, 3) := by decide +kernel
theorem dL_act_88 : decode cL_act 88 = .ok (.aload_n 0, 1) := by decide +kernel
theorem dL_act_89 : decode cL_act 89 = .ok (.iload 4, 2) := by decide +kernel
theorem dL_act_91 : decode cL_act 91 = .ok (.iload 6, 2) := by decide +kernel
theorem dL_act_93 : decode cL_act 93 = .ok (.invokestatic 121, 3) := by decide +kernel
theorem dL_act_96 : decode cL_act 96 = .ok (.ireturn, 1) := by decide +kernel
theorem dL_act_97 : decode cL_act 97 = .ok (.iload_n 3, 1) := by decide +kernel
theorem dL_act_98 : decode cL_act 98 = .ok (.bipush 12, 2) := by decide +kernel
theorem dL_act_100 : decode cL_act 100 = .ok (.if_icmp .ne 67, 3) := by decide +kernel
theorem dL_act_103 : decode cL_act 103 = .ok (.aload_n 0, 1) := by decide +kernel
theorem dL_act_104 : decode cL_act 104 = .ok (.iload 4, 2) := by decide +kernel
theorem dL_act_106 : decode cL_act 106 = .ok (.iload 6, 2) := by decide +kernel
theorem dL_act_108 : decode cL_act 108 = .ok (.iconst 1, 1) := by decide +kernel
theorem dL_act_109 : decode cL_act 109 = .ok (.invokevirtual 10, 3) := by decide +kernel
theorem dL_act_112 : decode cL_act 112 = .ok (.istore 7, 2) := by decide +kernel
theorem dL_act_114 : decode cL_act 114 = .ok (.aload_n 0, 1) := by decide +kernel
theorem dL_act_115 : decode cL_act 115 = .ok (.iconst 4, 1) := by decide +kernel
theorem dL_act_116 : decode cL_act 116 = .ok (.invokevirtual 39, 3) := by decide +kernel
theorem dL_act_119 : decode cL_act 119 = .ok (.istore 8, 2) := by decide +kernel
theorem dL_act_121 : decode cL_act 121 = .ok (.aload_n 0, 1) := by decide +kernel
theorem dL_act_122 : decode cL_act 122 = .ok (.iload 4, 2) := by decide +kernel
theorem dL_act_124 : decode cL_act 124 = .ok (.iload 6, 2) := by decide +kernel
theorem dL_act_126 : decode cL_act 126 = .ok (.invokevirtual 124, 3) := by decide +kernel
theorem dL_act_129 : decode cL_act 129 = .ok (.iload 7, 2) := by decide +kernel
theorem dL_act_131 : decode cL_act 131 = .ok (.if_icmp .ne 34, 3) := by decide +kernel
theorem dL_act_134 : decode cL_act 134 = .ok (.aload_n 0, 1) := by decide +kernel
theorem dL_act_135 : decode cL_act 135 = .ok (.iconst 4, 1) := by decide +kernel
theorem dL_act_136 : decode cL_act 136 = .ok (.invokevirtual 39, 3) := by decide +kernel
theorem dL_act_139 : decode cL_act 139 = .ok (.iload 8, 2) := by decide +kernel
theorem dL_act_141 : decode cL_act 141 = .ok (.iload 7, 2) := by decide +kernel
theorem dL_act_143 : decode cL_act 143 = .ok (.isub, 1) := by decide +kernel
theorem dL_act_144 : decode cL_act 144 = .ok (.if_icmp .ne 21, 3) := by decide +kernel
theorem dL_act_147 : decode cL_act 147 = .ok (.aload_n 0, 1) := by decide +kernel
theorem dL_act_148 : decode cL_act 148 = .ok (.iload 4, 2) := by decide +kernel
theorem dL_act_150 : decode cL_act 150 = .ok (.iconst 1, 1) := by decide +kernel
theorem dL_act_151 : decode cL_act 151 = .ok (.invokevirtual 24, 3) := by decide +kernel
theorem dL_act_154 : decode cL_act 154 = .ok (.iload 5, 2) := by decide +kernel
theorem dL_act_156 : decode cL_act 156 = .ok (.iconst 1, 1) := by decide +kernel
theorem dL_act_157 : decode cL_act 157 = .ok (.isub, 1) := by decide +kernel
theorem dL_act_158 : decode cL_act 158 = .ok (.if_icmp .ne 7, 3) := by decide +kernel
theorem dL_act_161 : decode cL_act 161 = .ok (.iconst 1, 1) := by decide +kernel
theorem dL_act_162 : decode cL_act 162 = .ok (.goto 4, 3) := by decide +kernel
theorem dL_act_165 : decode cL_act 165 = .ok (.iconst 0, 1) := by decide +kernel
theorem dL_act_166 : decode cL_act 166 = .ok (.ireturn, 1) := by decide +kernel
theorem dL_act_167 : decode cL_act 167 = .ok (.iload_n 3, 1) := by decide +kernel
theorem dL_act_168 : decode cL_act 168 = .ok (.bipush 15, 2) := by decide +kernel
theorem dL_act_170 : decode cL_act 170 = .ok (.if_icmp .ge 12, 3) := by decide +kernel
theorem dL_act_173 : decode cL_act 173 = .ok (.aload_n 0, 1) := by decide +kernel
theorem dL_act_174 : decode cL_act 174 = .ok (.iload 4, 2) := by decide +kernel
theorem dL_act_176 : decode cL_act 176 = .ok (.iload 6, 2) := by decide +kernel
theorem dL_act_178 : decode cL_act 178 = .ok (.invokestatic 127, 3) := by decide +kernel
theorem dL_act_181 : decode cL_act 181 = .ok (.ireturn, 1) := by decide +kernel
theorem dL_act_182 : decode cL_act 182 = .ok (.iload_n 3, 1) := by decide +kernel
theorem dL_act_183 : decode cL_act 183 = .ok (.bipush 18, 2) := by decide +kernel
theorem dL_act_185 : decode cL_act 185 = .ok (.if_icmp .ge 20, 3) := by decide +kernel
theorem dL_act_188 : decode cL_act 188 = .ok (.aload_n 0, 1) := by decide +kernel
theorem dL_act_189 : decode cL_act 189 = .ok (.iload 4, 2) := by decide +kernel
theorem dL_act_191 : decode cL_act 191 = .ok (.iload 6, 2) := by decide +kernel
theorem dL_act_193 : decode cL_act 193 = .ok (.iload_n 2, 1) := by decide +kernel
theorem dL_act_194 : decode cL_act 194 = .ok (.bipush 6, 2) := by decide +kernel
theorem dL_act_196 : decode cL_act 196 = .ok (.ishr, 1) := by decide +kernel
theorem dL_act_197 : decode cL_act 197 = .ok (.iconst 5, 1) := by decide +kernel
theorem dL_act_198 : decode cL_act 198 = .ok (.invokestatic 71, 3) := by decide +kernel
theorem dL_act_201 : decode cL_act 201 = .ok (.invokestatic 130, 3) := by decide +kernel
theorem dL_act_204 : decode cL_act 204 = .ok (.ireturn, 1) := by decide +kernel
theorem dL_act_205 : decode cL_act 205 = .ok (.iload_n 3, 1) := by decide +kernel
theorem dL_act_206 : decode cL_act 206 = .ok (.bipush 18, 2) := by decide +kernel
theorem dL_act_208 : decode cL_act 208 = .ok (.if_icmp .ne 79, 3) := by decide +kernel
theorem dL_act_211 : decode cL_act 211 = .ok (.aload_n 0, 1) := by decide +kernel
theorem dL_act_212 : decode cL_act 212 = .ok (.iload 4, 2) := by decide +kernel
theorem dL_act_214 : decode cL_act 214 = .ok (.iconst 0, 1) := by decide +kernel
theorem dL_act_215 : decode cL_act 215 = .ok (.invokevirtual 24, 3) := by decide +kernel
theorem dL_act_218 : decode cL_act 218 = .ok (.istore 7, 2) := by decide +kernel
theorem dL_act_220 : decode cL_act 220 = .ok (.iload 7, 2) := by decide +kernel
theorem dL_act_222 : decode cL_act 222 = .ok (.aload_n 0, 1) := by decide +kernel
theorem dL_act_223 : decode cL_act 223 = .ok (.iload 4, 2) := by decide +kernel
theorem dL_act_225 : decode cL_act 225 = .ok (.iconst 2, 1) := by decide +kernel
theorem dL_act_226 : decode cL_act 226 = .ok (.invokevirtual 24, 3) := by decide +kernel
theorem dL_act_229 : decode cL_act 229 = .ok (.isub, 1) := by decide +kernel
theorem dL_act_230 : decode cL_act 230 = .ok (.iload_n 2, 1) := by decide +kernel
theorem dL_act_231 : decode cL_act 231 = .ok (.bipush 6, 2) := by decide +kernel
theorem dL_act_233 : decode cL_act 233 = .ok (.ishr, 1) := by decide +kernel
theorem dL_act_234 : decode cL_act 234 = .ok (.bipush 30, 2) := by decide +kernel
theorem dL_act_236 : decode cL_act 236 = .ok (.invokestatic 71, 3) := by decide +kernel
theorem dL_act_239 : decode cL_act 239 = .ok (.iadd, 1) := by decide +kernel
theorem dL_act_240 : decode cL_act 240 = .ok (.istore 8, 2) := by decide +kernel
theorem dL_act_242 : decode cL_act 242 = .ok (.iload 8, 2) := by decide +kernel
theorem dL_act_244 : decode cL_act 244 = .ok (.bipush 20, 2) := by decide +kernel
theorem dL_act_246 : decode cL_act 246 = .ok (.if_icmp .lt 35, 3) := by decide +kernel
theorem dL_act_249 : decode cL_act 249 = .ok (.iload 8, 2) := by decide +kernel
theorem dL_act_251 : decode cL_act 251 = .ok (.bipush 120, 2) := by decide +kernel
theorem dL_act_253 : decode cL_act 253 = .ok (.if_icmp .gt 28, 3) := by decide +kernel
theorem dL_act_256 : decode cL_act 256 = .ok (.aload_n 0, 1) := by decide +kernel
theorem dL_act_257 : decode cL_act 257 = .ok (.iload 4, 2) := by decide +kernel
theorem dL_act_259 : decode cL_act 259 = .ok (.iload 8, 2) := by decide +kernel
theorem dL_act_261 : decode cL_act 261 = .ok (.invokevirtual 134, 3) := by decide +kernel
theorem dL_act_264 : decode cL_act 264 = .ok (.iload 7, 2) := by decide +kernel
theorem dL_act_266 : decode cL_act 266 = .ok (.if_icmp .ne 19, 3) := by decide +kernel
theorem dL_act_269 : decode cL_act 269 = .ok (.aload_n 0, 1) := by decide +kernel
theorem dL_act_270 : decode cL_act 270 = .ok (.iload 4, 2) := by decide +kernel
theorem dL_act_272 : decode cL_act 272 = .ok (.iconst 0, 1) := by decide +kernel
theorem dL_act_273 : decode cL_act 273 = .ok (.invokevirtual 24, 3) := by decide +kernel
theorem dL_act_276 : decode cL_act 276 = .ok (.iload 8, 2) := by decide +kernel
theorem dL_act_278 : decode cL_act 278 = .ok (.if_icmp .ne 7, 3) := by decide +kernel
theorem dL_act_281 : decode cL_act 281 = .ok (.iconst 1, 1) := by decide +kernel
theorem dL_act_282 : decode cL_act 282 = .ok (.goto 4, 3) := by decide +kernel
theorem dL_act_285 : decode cL_act 285 = .ok (.iconst 0, 1) := by decide +kernel
theorem dL_act_286 : decode cL_act 286 = .ok (.ireturn, 1) := by decide +kernel
theorem dL_act_287 : decode cL_act 287 = .ok (.iload_n 2, 1) := by decide +kernel
theorem dL_act_288 : decode cL_act 288 = .ok (.iconst 2, 1) := by decide +kernel
theorem dL_act_289 : decode cL_act 289 = .ok (.invokestatic 71, 3) := by decide +kernel
theorem dL_act_292 : decode cL_act 292 = .ok (.istore 7, 2) := by decide +kernel
theorem dL_act_294 : decode cL_act 294 = .ok (.aload_n 0, 1) := by decide +kernel
theorem dL_act_295 : decode cL_act 295 = .ok (.bipush 11, 2) := by decide +kernel
theorem dL_act_297 : decode cL_act 297 = .ok (.iload 7, 2) := by decide +kernel
theorem dL_act_299 : decode cL_act 299 = .ok (.iadd, 1) := by decide +kernel
theorem dL_act_300 : decode cL_act 300 = .ok (.invokevirtual 39, 3) := by decide +kernel
theorem dL_act_303 : decode cL_act 303 = .ok (.istore 8, 2) := by decide +kernel
theorem dL_act_305 : decode cL_act 305 = .ok (.iload 7, 2) := by decide +kernel
theorem dL_act_307 : decode cL_act 307 = .ok (.ifCond .ne 31, 3) := by decide +kernel
theorem dL_act_310 : decode cL_act 310 = .ok (.iconst 1, 1) := by decide +kernel
theorem dL_act_311 : decode cL_act 311 = .ok (.iload_n 2, 1) := by decide +kernel
theorem dL_act_312 : decode cL_act 312 = .ok (.iconst 1, 1) := by decide +kernel
theorem dL_act_313 : decode cL_act 313 = .ok (.ishr, 1) := by decide +kernel
theorem dL_act_314 : decode cL_act 314 = .ok (.iload_n 2, 1) := by decide +kernel
theorem dL_act_315 : decode cL_act 315 = .ok (.bipush 7, 2) := by decide +kernel
theorem dL_act_317 : decode cL_act 317 = .ok (.ishr, 1) := by decide +kernel
theorem dL_act_318 : decode cL_act 318 = .ok (.iconst 2, 1) := by decide +kernel
theorem dL_act_319 : decode cL_act 319 = .ok (.invokestatic 71, 3) := by decide +kernel
theorem dL_act_322 : decode cL_act 322 = .ok (.ifCond .ne 8, 3) := by decide +kernel
theorem dL_act_325 : decode cL_act 325 = .ok (.bipush 9, 2) := by decide +kernel
theorem dL_act_327 : decode cL_act 327 = .ok (.goto 4, 3) := by decide +kernel
theorem dL_act_330 : decode cL_act 330 = .ok (.iconst 2, 1) := by decide +kernel
theorem dL_act_331 : decode cL_act 331 = .ok (.invokestatic 71, 3) := by decide +kernel
theorem dL_act_334 : decode cL_act 334 = .ok (.iadd, 1) := by decide +kernel
theorem dL_act_335 : decode cL_act 335 = .ok (.goto 26, 3) := by decide +kernel
theorem dL_act_338 : decode cL_act 338 = .ok (.iload_n 2, 1) := by decide +kernel
theorem dL_act_339 : decode cL_act 339 = .ok (.iconst 1, 1) := by decide +kernel
theorem dL_act_340 : decode cL_act 340 = .ok (.ishr, 1) := by decide +kernel
theorem dL_act_341 : decode cL_act 341 = .ok (.iload_n 2, 1) := by decide +kernel
theorem dL_act_342 : decode cL_act 342 = .ok (.bipush 7, 2) := by decide +kernel
theorem dL_act_344 : decode cL_act 344 = .ok (.ishr, 1) := by decide +kernel
theorem dL_act_345 : decode cL_act 345 = .ok (.iconst 2, 1) := by decide +kernel
theorem dL_act_346 : decode cL_act 346 = .ok (.invokestatic 71, 3) := by decide +kernel
theorem dL_act_349 : decode cL_act 349 = .ok (.ifCond .ne 8, 3) := by decide +kernel
theorem dL_act_352 : decode cL_act 352 = .ok (.bipush 9, 2) := by decide +kernel
theorem dL_act_354 : decode cL_act 354 = .ok (.goto 4, 3) := by decide +kernel
theorem dL_act_357 : decode cL_act 357 = .ok (.iconst 3, 1) := by decide +kernel
theorem dL_act_358 : decode cL_act 358 = .ok (.invokestatic 71, 3) := by decide +kernel
theorem dL_act_361 : decode cL_act 361 = .ok (.istore 9, 2) := by decide +kernel
theorem dL_act_363 : decode cL_act 363 = .ok (.aload_n 0, 1) := by decide +kernel
theorem dL_act_364 : decode cL_act 364 = .ok (.iload 7, 2) := by decide +kernel
theorem dL_act_366 : decode cL_act 366 = .ok (.iload 9, 2) := by decide +kernel
theorem dL_act_368 : decode cL_act 368 = .ok (.invokevirtual 137, 3) := by decide +kernel
theorem dL_act_371 : decode cL_act 371 = .ok (.iload 8, 2) := by decide +kernel
theorem dL_act_373 : decode cL_act 373 = .ok (.if_icmp .ne 21, 3) := by decide +kernel
theorem dL_act_376 : decode cL_act 376 = .ok (.aload_n 0, 1) := by decide +kernel
theorem dL_act_377 : decode cL_act 377 = .ok (.bipush 11, 2) := by decide +kernel
theorem dL_act_379 : decode cL_act 379 = .ok (.iload 7, 2) := by decide +kernel
theorem dL_act_381 : decode cL_act 381 = .ok (.iadd, 1) := by decide +kernel
theorem dL_act_382 : decode cL_act 382 = .ok (.invokevirtual 39, 3) := by decide +kernel
theorem dL_act_385 : decode cL_act 385 = .ok (.iload 9, 2) := by decide +kernel
theorem dL_act_387 : decode cL_act 387 = .ok (.if_icmp .ne 7, 3) := by decide +kernel
theorem dL_act_390 : decode cL_act 390 = .ok (.iconst 1, 1) := by decide +kernel
theorem dL_act_391 : decode cL_act 391 = .ok (.goto 4, 3) := by decide +kernel
theorem dL_act_394 : decode cL_act 394 = .ok (.iconst 0, 1) := by decide +kernel
theorem dL_act_395 : decode cL_act 395 = .ok (.ireturn, 1) := by decide +kernel
theorem dL_law_0 : decode cL_law 0 = .ok (.new 11, 3) := by decide +kernel
theorem dL_law_3 : decode cL_law 3 = .ok (.dup, 1) := by decide +kernel
theorem dL_law_4 : decode cL_law 4 = .ok (.invokespecial 140, 3) := by decide +kernel
theorem dL_law_7 : decode cL_law 7 = .ok (.astore_n 1, 1) := by decide +kernel
theorem dL_law_8 : decode cL_law 8 = .ok (.aload_n 1, 1) := by decide +kernel
theorem dL_law_9 : decode cL_law 9 = .ok (.invokestatic 141, 3) := by decide +kernel
theorem dL_law_12 : decode cL_law 12 = .ok (.ifCond .eq 12, 3) := by decide +kernel
theorem dL_law_15 : decode cL_law 15 = .ok (.aload_n 1, 1) := by decide +kernel
theorem dL_law_16 : decode cL_law 16 = .ok (.invokevirtual 46, 3) := by decide +kernel
theorem dL_law_19 : decode cL_law 19 = .ok (.dconst 1, 1) := by decide +kernel
theorem dL_law_20 : decode cL_law 20 = .ok (.dcmp .l, 1) := by decide +kernel
theorem dL_law_21 : decode cL_law 21 = .ok (.ifCond .eq 5, 3) := by decide +kernel
theorem dL_law_24 : decode cL_law 24 = .ok (.iconst 0, 1) := by decide +kernel
theorem dL_law_25 : decode cL_law 25 = .ok (.ireturn, 1) := by decide +kernel
theorem dL_law_26 : decode cL_law 26 = .ok (.iconst 0, 1) := by decide +kernel
theorem dL_law_27 : decode cL_law 27 = .ok (.istore_n 2, 1) := by decide +kernel
theorem dL_law_28 : decode cL_law 28 = .ok (.iload_n 2, 1) := by decide +kernel
theorem dL_law_29 : decode cL_law 29 = .ok (.bipush 52, 2) := by decide +kernel
theorem dL_law_31 : decode cL_law 31 = .ok (.if_icmp .ge 41, 3) := by decide +kernel
theorem dL_law_34 : decode cL_law 34 = .ok (.aload_n 1, 1) := by decide +kernel
theorem dL_law_35 : decode cL_law 35 = .ok (.aload_n 0, 1) := by decide +kernel
theorem dL_law_36 : decode cL_law 36 = .ok (.iconst 2, 1) := by decide +kernel
theorem dL_law_37 : decode cL_law 37 = .ok (.iload_n 2, 1) := by decide +kernel
theorem dL_law_38 : decode cL_law 38 = .ok (.imul, 1) := by decide +kernel
theorem dL_law_39 : decode cL_law 39 = .ok (.invokestatic 145, 3) := by decide +kernel
theorem dL_law_42 : decode cL_law 42 = .ok (.aload_n 0, 1) := by decide +kernel
theorem dL_law_43 : decode cL_law 43 = .ok (.iconst 2, 1) := by decide +kernel
theorem dL_law_44 : decode cL_law 44 = .ok (.iload_n 2, 1) := by decide +kernel
theorem dL_law_45 : decode cL_law 45 = .ok (.imul, 1) := by decide +kernel
theorem dL_law_46 : decode cL_law 46 = .ok (.iconst 1, 1) := by decide +kernel
theorem dL_law_47 : decode cL_law 47 = .ok (.iadd, 1) := by decide +kernel
theorem dL_law_48 : decode cL_law 48 = .ok (.invokestatic 145, 3) := by decide +kernel
theorem dL_law_51 : decode cL_law 51 = .ok (.invokestatic 149, 3) := by decide +kernel
theorem dL_law_54 : decode cL_law 54 = .ok (.ifCond .eq 10, 3) := by decide +kernel
theorem dL_law_57 : decode cL_law 57 = .ok (.aload_n 1, 1) := by decide +kernel
theorem dL_law_58 : decode cL_law 58 = .ok (.invokestatic 141, 3) := by decide +kernel
theorem dL_law_61 : decode cL_law 61 = .ok (.ifCond .ne 5, 3) := by decide +kernel
theorem dL_law_64 : decode cL_law 64 = .ok (.iconst 0, 1) := by decide +kernel
theorem dL_law_65 : decode cL_law 65 = .ok (.ireturn, 1) := by decide +kernel
theorem dL_law_66 : decode cL_law 66 = .ok (.iinc 2 1, 3) := by decide +kernel
theorem dL_law_69 : decode cL_law 69 = .ok (.goto (-41), 3) := by decide +kernel
theorem dL_law_72 : decode cL_law 72 = .ok (.iconst 1, 1) := by decide +kernel
theorem dL_law_73 : decode cL_law 73 = .ok (.ireturn, 1) := by decide +kernel
abbrev vwCl : List vw_C := [(RX1, TX1, 2), (RX3, TX3, 5), (RX5, TX5, 2), (RX7, TX7, 1), (RX9, TX9, 2), (RX10, TX10, 5)]
