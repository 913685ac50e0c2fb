def RX0 : String := "PairShuffles$Measure"
def TX0 : u_T := fun k => match k with
  | 0 => ("PairShuffles$Measure", "which", "I", false)
  | 1 => ("PairShuffles$Measure", "x", "I", false)
  | 2 => ("PairShuffles$Measure", "y", "I", false)
  | 3 => ("PairShuffles$Measure", "row", "I", false)
  | _ => ("PairShuffles$Measure", "table", "I", false)
def tyX0 : Nat → FieldType := fun k => match k with
  | 0 => .int
  | 1 => .int
  | 2 => .int
  | 3 => .int
  | _ => .int
abbrev wsX00 : List Cond := u_ws RX0 TX0 5
theorem nmX0 : ∀ a, a < 5 → ∀ b, b < 5 → a ≠ b → (TX0 a).2.1 ≠ (TX0 b).2.1 := by decide +kernel
theorem tyX0_ok : ∀ k, k < 5 → parseFieldDescriptor (TX0 k).2.2.1 = some (tyX0 k) := by decide +kernel
abbrev cX0_init : ByteArray := prog_2_method_1_code
def yX0_init : MethodName := ⟨RX0, "<init>", "()V"⟩
abbrev cX0_set : ByteArray := prog_2_method_2_code
def yX0_set : MethodName := ⟨RX0, "set", "(IIILPairShuffles$State;)V"⟩
abbrev cX0_gain : ByteArray := prog_2_method_3_code
def yX0_gain : MethodName := ⟨RX0, "gain", "(III)I"⟩
abbrev cX0_ofRow : ByteArray := prog_2_method_4_code
def yX0_ofRow : MethodName := ⟨RX0, "ofRow", "()I"⟩
def RX1 : String := "PairShuffles$State"
def TX1 : u_T := fun k => match k with
  | 0 => ("PairShuffles$State", "row", "I", false)
  | 1 => ("PairShuffles$State", "table", "I", false)
  | 2 => ("PairShuffles$State", "kept", "I", false)
  | _ => ("PairShuffles$State", "book", "[I", true)
def tyX1 : Nat → FieldType := fun k => match k with
  | 0 => .int
  | 1 => .int
  | 2 => .int
  | _ => .array .int
abbrev wsX10 : List Cond := u_ws RX1 TX1 4
theorem nmX1 : ∀ a, a < 4 → ∀ b, b < 4 → a ≠ b → (TX1 a).2.1 ≠ (TX1 b).2.1 := by decide +kernel
theorem tyX1_ok : ∀ k, k < 4 → parseFieldDescriptor (TX1 k).2.2.1 = some (tyX1 k) := by decide +kernel
abbrev cX1_init : ByteArray := prog_3_method_1_code
def yX1_init : MethodName := ⟨RX1, "<init>", "()V"⟩
abbrev cX1_become : ByteArray := prog_3_method_2_code
def yX1_become : MethodName := ⟨RX1, "become", "(LPairShuffles$State;)V"⟩
abbrev cX1_keepRow : ByteArray := prog_3_method_3_code
def yX1_keepRow : MethodName := ⟨RX1, "keepRow", "()V"⟩
abbrev cX1_keptRow : ByteArray := prog_3_method_4_code
def yX1_keptRow : MethodName := ⟨RX1, "keptRow", "(I)I"⟩
def RX2 : String := "PairShuffles$Text"
def TX2 : u_T := fun k => match k with
  | 0 => ("PairShuffles$Text", "signs", "[I", true)
  | 1 => ("PairShuffles$Text", "length", "I", false)
  | 2 => ("PairShuffles$Text", "word", "I", false)
  | 3 => ("PairShuffles$Text", "kind", "I", false)
  | 4 => ("PairShuffles$Text", "number", "I", false)
  | 5 => ("PairShuffles$Text", "row", "I", false)
  | 6 => ("PairShuffles$Text", "reached", "I", false)
  | _ => ("PairShuffles$Text", "broken", "Z", false)
def tyX2 : Nat → FieldType := fun k => match k with
  | 0 => .array .int
  | 1 => .int
  | 2 => .int
  | 3 => .int
  | 4 => .int
  | 5 => .int
  | 6 => .int
  | _ => .boolean
abbrev wsX20 : List Cond := u_ws RX2 TX2 8
theorem nmX2 : ∀ a, a < 8 → ∀ b, b < 8 → a ≠ b → (TX2 a).2.1 ≠ (TX2 b).2.1 := by decide +kernel
theorem tyX2_ok : ∀ k, k < 8 → parseFieldDescriptor (TX2 k).2.2.1 = some (tyX2 k) := by decide +kernel
abbrev cX2_init : ByteArray := prog_4_method_1_code
def yX2_init : MethodName := ⟨RX2, "<init>", "()V"⟩
abbrev cX2_put : ByteArray := prog_4_method_2_code
def yX2_put : MethodName := ⟨RX2, "put", "(I)V"⟩
abbrev cX2_read : ByteArray := prog_4_method_3_code
def yX2_read : MethodName := ⟨RX2, "read", "(I)V"⟩
abbrev cX2_signAt : ByteArray := prog_4_method_4_code
def yX2_signAt : MethodName := ⟨RX2, "signAt", "(I)I"⟩
abbrev cX2_isBetween : ByteArray := prog_4_method_5_code
def yX2_isBetween : MethodName := ⟨RX2, "isBetween", "(II)Z"⟩
abbrev cX2_wordBetween : ByteArray := prog_4_method_6_code
def yX2_wordBetween : MethodName := ⟨RX2, "wordBetween", "(II)I"⟩
abbrev cX2_spells : ByteArray := prog_4_method_7_code
def yX2_spells : MethodName := ⟨RX2, "spells", "(Ljava/lang/String;II)Z"⟩
abbrev cX2_readSign : ByteArray := prog_4_method_8_code
def yX2_readSign : MethodName := ⟨RX2, "readSign", "(I)V"⟩
abbrev cX2_readDigit : ByteArray := prog_4_method_9_code
def yX2_readDigit : MethodName := ⟨RX2, "readDigit", "()I"⟩
abbrev cX2_readNumber : ByteArray := prog_4_method_10_code
def yX2_readNumber : MethodName := ⟨RX2, "readNumber", "()V"⟩
abbrev cX2_readRow : ByteArray := prog_4_method_11_code
def yX2_readRow : MethodName := ⟨RX2, "readRow", "()V"⟩
def RX3 : String := "PairShuffles$Trial"
def TX3 : u_T := fun k => match k with
  | 0 => ("PairShuffles$Trial", "state", "LPairShuffles$State;", true)
  | 1 => ("PairShuffles$Trial", "orders", "I", false)
  | 2 => ("PairShuffles$Trial", "position", "I", false)
  | 3 => ("PairShuffles$Trial", "reason", "I", false)
  | _ => ("PairShuffles$Trial", "cause", "I", false)
def tyX3 : Nat → FieldType := fun k => match k with
  | 0 => .object "PairShuffles$State"
  | 1 => .int
  | 2 => .int
  | 3 => .int
  | _ => .int
abbrev wsX30 : List Cond := u_ws RX3 TX3 5
theorem nmX3 : ∀ a, a < 5 → ∀ b, b < 5 → a ≠ b → (TX3 a).2.1 ≠ (TX3 b).2.1 := by decide +kernel
theorem tyX3_ok : ∀ k, k < 5 → parseFieldDescriptor (TX3 k).2.2.1 = some (tyX3 k) := by decide +kernel
abbrev cX3_init : ByteArray := prog_5_method_1_code
def yX3_init : MethodName := ⟨RX3, "<init>", "()V"⟩
abbrev cX3_run : ByteArray := prog_5_method_2_code
def yX3_run : MethodName := ⟨RX3, "run", "(LPairShuffles$State;LPairShuffles$Text;LPairShuffles$Ways;)V"⟩
abbrev cX3_carryOut : ByteArray := prog_5_method_3_code
def yX3_carryOut : MethodName := ⟨RX3, "carryOut", "(LPairShuffles$Text;LPairShuffles$Ways;)I"⟩
abbrev cX3_putIntoBook : ByteArray := prog_5_method_4_code
def yX3_putIntoBook : MethodName := ⟨RX3, "putIntoBook", "()I"⟩
def RX4 : String := "PairShuffles$Ways"
def TX4 : u_T := fun k => match k with
  | 0 => ("PairShuffles$Ways", "stock", "[I", true)
  | 1 => ("PairShuffles$Ways", "weight", "[I", true)
  | 2 => ("PairShuffles$Ways", "known", "[I", true)
  | 3 => ("PairShuffles$Ways", "found", "[I", true)
  | 4 => ("PairShuffles$Ways", "measure", "LPairShuffles$Measure;", false)
  | 5 => ("PairShuffles$Ways", "values", "I", false)
  | 6 => ("PairShuffles$Ways", "row", "I", false)
  | 7 => ("PairShuffles$Ways", "rowCodes", "I", false)
  | 8 => ("PairShuffles$Ways", "table", "I", false)
  | 9 => ("PairShuffles$Ways", "length", "I", false)
  | 10 => ("PairShuffles$Ways", "full", "I", false)
  | 11 => ("PairShuffles$Ways", "pairs", "Z", false)
  | _ => ("PairShuffles$Ways", "codes", "Z", false)
def tyX4 : Nat → FieldType := fun k => match k with
  | 0 => .array .int
  | 1 => .array .int
  | 2 => .array .int
  | 3 => .array .int
  | 4 => .object "PairShuffles$Measure"
  | 5 => .int
  | 6 => .int
  | 7 => .int
  | 8 => .int
  | 9 => .int
  | 10 => .int
  | 11 => .boolean
  | _ => .boolean
abbrev wsX40 : List Cond := u_ws RX4 TX4 13
theorem nmX4 : ∀ a, a < 13 → ∀ b, b < 13 → a ≠ b → (TX4 a).2.1 ≠ (TX4 b).2.1 := by decide +kernel
theorem tyX4_ok : ∀ k, k < 13 → parseFieldDescriptor (TX4 k).2.2.1 = some (tyX4 k) := by decide +kernel
abbrev cX4_init : ByteArray := prog_6_method_1_code
def yX4_init : MethodName := ⟨RX4, "<init>", "()V"⟩
abbrev cX4_open : ByteArray := prog_6_method_2_code
def yX4_open : MethodName := ⟨RX4, "open", "(LPairShuffles$State;I)V"⟩
abbrev cX4_openBoth : ByteArray := prog_6_method_3_code
def yX4_openBoth : MethodName := ⟨RX4, "openBoth", "(LPairShuffles$State;II)V"⟩
abbrev cX4_openMeasured : ByteArray := prog_6_method_4_code
def yX4_openMeasured : MethodName := ⟨RX4, "openMeasured", "(LPairShuffles$State;ILPairShuffles$Measure;)V"⟩
abbrev cX4_prepare : ByteArray := prog_6_method_5_code
def yX4_prepare : MethodName := ⟨RX4, "prepare", "(LPairShuffles$State;)V"⟩
abbrev cX4_countStock : ByteArray := prog_6_method_6_code
def yX4_countStock : MethodName := ⟨RX4, "countStock", "()V"⟩
abbrev cX4_weighStock : ByteArray := prog_6_method_7_code
def yX4_weighStock : MethodName := ⟨RX4, "weighStock", "()V"⟩
abbrev cX4_solve : ByteArray := prog_6_method_8_code
def yX4_solve : MethodName := ⟨RX4, "solve", "(LPairShuffles$Ways;III)V"⟩
abbrev cX4_entryOf : ByteArray := prog_6_method_9_code
def yX4_entryOf : MethodName := ⟨RX4, "entryOf", "(III)I"⟩
abbrev cX4_leftAfter : ByteArray := prog_6_method_10_code
def yX4_leftAfter : MethodName := ⟨RX4, "leftAfter", "(IIII)I"⟩
abbrev cX4_leftWithout : ByteArray := prog_6_method_11_code
def yX4_leftWithout : MethodName := ⟨RX4, "leftWithout", "(II)I"⟩
abbrev cX4_gain : ByteArray := prog_6_method_12_code
def yX4_gain : MethodName := ⟨RX4, "gain", "(III)I"⟩
abbrev cX4_isKnown : ByteArray := prog_6_method_13_code
def yX4_isKnown : MethodName := ⟨RX4, "isKnown", "(I)Z"⟩
abbrev cX4_begin : ByteArray := prog_6_method_14_code
def yX4_begin : MethodName := ⟨RX4, "begin", "(I)V"⟩
abbrev cX4_add : ByteArray := prog_6_method_15_code
def yX4_add : MethodName := ⟨RX4, "add", "(III)V"⟩
abbrev cX4_number : ByteArray := prog_6_method_16_code
def yX4_number : MethodName := ⟨RX4, "number", "(II)I"⟩
abbrev cX4_join : ByteArray := prog_6_method_17_code
def yX4_join : MethodName := ⟨RX4, "join", "(III)V"⟩
abbrev cX4_total : ByteArray := prog_6_method_18_code
def yX4_total : MethodName := ⟨RX4, "total", "()I"⟩
abbrev cX4_allOf : ByteArray := prog_6_method_19_code
def yX4_allOf : MethodName := ⟨RX4, "allOf", "(I)I"⟩
abbrev cX4_atLeast : ByteArray := prog_6_method_20_code
def yX4_atLeast : MethodName := ⟨RX4, "atLeast", "(I)I"⟩
abbrev cX4_least : ByteArray := prog_6_method_21_code
def yX4_least : MethodName := ⟨RX4, "least", "()I"⟩
abbrev cX4_greatest : ByteArray := prog_6_method_22_code
def yX4_greatest : MethodName := ⟨RX4, "greatest", "()I"⟩
abbrev cX4_sum : ByteArray := prog_6_method_23_code
def yX4_sum : MethodName := ⟨RX4, "sum", "()I"⟩
abbrev cX4_placeOfRow : ByteArray := prog_6_method_24_code
def yX4_placeOfRow : MethodName := ⟨RX4, "placeOfRow", "()I"⟩
abbrev cX4_continued : ByteArray := prog_6_method_25_code
def yX4_continued : MethodName := ⟨RX4, "continued", "(IIII)I"⟩
abbrev cX4_rowAt : ByteArray := prog_6_method_26_code
def yX4_rowAt : MethodName := ⟨RX4, "rowAt", "(I)I"⟩
abbrev cX4_firstPlaceWith : ByteArray := prog_6_method_27_code
def yX4_firstPlaceWith : MethodName := ⟨RX4, "firstPlaceWith", "(I)I"⟩
abbrev cX4_canGain : ByteArray := prog_6_method_28_code
def yX4_canGain : MethodName := ⟨RX4, "canGain", "(IIIII)Z"⟩
def RX5 : String := "PairShuffles"
def TX5 : u_T := fun k => match k with
  | 0 => ("PairShuffles", "now", "LPairShuffles$State;", true)
  | 1 => ("PairShuffles", "past", "[LPairShuffles$State;", true)
  | 2 => ("PairShuffles", "pastStates", "I", false)
  | 3 => ("PairShuffles", "text", "LPairShuffles$Text;", true)
  | 4 => ("PairShuffles", "trial", "LPairShuffles$Trial;", true)
  | 5 => ("PairShuffles", "ways", "LPairShuffles$Ways;", true)
  | 6 => ("PairShuffles", "measured", "LPairShuffles$Measure;", true)
  | _ => ("PairShuffles", "pairCounts", "[I", true)
def tyX5 : Nat → FieldType := fun k => match k with
  | 0 => .object "PairShuffles$State"
  | 1 => .array (.object "PairShuffles$State")
  | 2 => .int
  | 3 => .object "PairShuffles$Text"
  | 4 => .object "PairShuffles$Trial"
  | 5 => .object "PairShuffles$Ways"
  | 6 => .object "PairShuffles$Measure"
  | _ => .array .int
abbrev wsX50 : List Cond := u_ws RX5 TX5 8
theorem nmX5 : ∀ a, a < 8 → ∀ b, b < 8 → a ≠ b → (TX5 a).2.1 ≠ (TX5 b).2.1 := by decide +kernel
theorem tyX5_ok : ∀ k, k < 8 → parseFieldDescriptor (TX5 k).2.2.1 = some (tyX5 k) := by decide +kernel
abbrev cX5_init : ByteArray := prog_1_method_1_code
def yX5_init : MethodName := ⟨RX5, "<init>", "()V"⟩
abbrev cX5_append : ByteArray := prog_1_method_2_code
def yX5_append : MethodName := ⟨RX5, "append", "(I)I"⟩
abbrev cX5_clear : ByteArray := prog_1_method_3_code
def yX5_clear : MethodName := ⟨RX5, "clear", "()I"⟩
abbrev cX5_code : ByteArray := prog_1_method_4_code
def yX5_code : MethodName := ⟨RX5, "code", "(III)I"⟩
abbrev cX5_turn : ByteArray := prog_1_method_5_code
def yX5_turn : MethodName := ⟨RX5, "turn", "()I"⟩
abbrev cX5_letterAt : ByteArray := prog_1_method_6_code
def yX5_letterAt : MethodName := ⟨RX5, "letterAt", "(I)I"⟩
abbrev cX5_codeOf : ByteArray := prog_1_method_7_code
def yX5_codeOf : MethodName := ⟨RX5, "codeOf", "(II)I"⟩
abbrev cX5_pairAt : ByteArray := prog_1_method_8_code
def yX5_pairAt : MethodName := ⟨RX5, "pairAt", "(II)I"⟩
abbrev cX5_bias : ByteArray := prog_1_method_9_code
def yX5_bias : MethodName := ⟨RX5, "bias", "(III)I"⟩
abbrev cX5_shuffles : ByteArray := prog_1_method_10_code
def yX5_shuffles : MethodName := ⟨RX5, "shuffles", "(I)I"⟩
abbrev cX5_placeOf : ByteArray := prog_1_method_11_code
def yX5_placeOf : MethodName := ⟨RX5, "placeOf", "(I)I"⟩
abbrev cX5_shuffleAt : ByteArray := prog_1_method_12_code
def yX5_shuffleAt : MethodName := ⟨RX5, "shuffleAt", "(III)I"⟩
abbrev cX5_next : ByteArray := prog_1_method_13_code
def yX5_next : MethodName := ⟨RX5, "next", "(I)I"⟩
abbrev cX5_back : ByteArray := prog_1_method_14_code
def yX5_back : MethodName := ⟨RX5, "back", "(I)I"⟩
abbrev cX5_at : ByteArray := prog_1_method_15_code
def yX5_at : MethodName := ⟨RX5, "at", "(II)I"⟩
abbrev cX5_measure : ByteArray := prog_1_method_16_code
def yX5_measure : MethodName := ⟨RX5, "measure", "(III)I"⟩
abbrev cX5_surprise : ByteArray := prog_1_method_17_code
def yX5_surprise : MethodName := ⟨RX5, "surprise", "(IIIII)I"⟩
abbrev cX5_common : ByteArray := prog_1_method_18_code
def yX5_common : MethodName := ⟨RX5, "common", "(II)I"⟩
abbrev cX5_keep : ByteArray := prog_1_method_19_code
def yX5_keep : MethodName := ⟨RX5, "keep", "()I"⟩
abbrev cX5_recall : ByteArray := prog_1_method_20_code
def yX5_recall : MethodName := ⟨RX5, "recall", "(I)I"⟩
abbrev cX5_kinship : ByteArray := prog_1_method_21_code
def yX5_kinship : MethodName := ⟨RX5, "kinship", "(I)I"⟩
abbrev cX5_count : ByteArray := prog_1_method_22_code
def yX5_count : MethodName := ⟨RX5, "count", "(I)I"⟩
abbrev cX5_undo : ByteArray := prog_1_method_23_code
def yX5_undo : MethodName := ⟨RX5, "undo", "()I"⟩
abbrev cX5_type : ByteArray := prog_1_method_24_code
def yX5_type : MethodName := ⟨RX5, "type", "(I)I"⟩
abbrev cX5_clearText : ByteArray := prog_1_method_25_code
def yX5_clearText : MethodName := ⟨RX5, "clearText", "()I"⟩
abbrev cX5_fault : ByteArray := prog_1_method_26_code
def yX5_fault : MethodName := ⟨RX5, "fault", "(I)I"⟩
abbrev cX5_play : ByteArray := prog_1_method_27_code
def yX5_play : MethodName := ⟨RX5, "play", "()I"⟩
abbrev cX5_within : ByteArray := prog_1_method_28_code
def yX5_within : MethodName := ⟨RX5, "within", "(II)Z"⟩
abbrev cX5_record : ByteArray := prog_1_method_29_code
def yX5_record : MethodName := ⟨RX5, "record", "()V"⟩
abbrev cX5_dropOldest : ByteArray := prog_1_method_30_code
def yX5_dropOldest : MethodName := ⟨RX5, "dropOldest", "()V"⟩
abbrev cX5_moveBy : ByteArray := prog_1_method_31_code
def yX5_moveBy : MethodName := ⟨RX5, "moveBy", "(II)I"⟩
abbrev cX5_pairsAheadOf : ByteArray := prog_1_method_32_code
def yX5_pairsAheadOf : MethodName := ⟨RX5, "pairsAheadOf", "(II)I"⟩
abbrev cX5_unlikeLetters : ByteArray := prog_1_method_33_code
def yX5_unlikeLetters : MethodName := ⟨RX5, "unlikeLetters", "()I"⟩
abbrev cX5_unlikePairs : ByteArray := prog_1_method_34_code
def yX5_unlikePairs : MethodName := ⟨RX5, "unlikePairs", "()I"⟩
abbrev cX5_isShuffle : ByteArray := prog_1_method_35_code
def yX5_isShuffle : MethodName := ⟨RX5, "isShuffle", "(II)Z"⟩
abbrev cX5_keepsPairs : ByteArray := prog_1_method_36_code
def yX5_keepsPairs : MethodName := ⟨RX5, "keepsPairs", "(I)Z"⟩
abbrev cX5_keepsCodes : ByteArray := prog_1_method_37_code
def yX5_keepsCodes : MethodName := ⟨RX5, "keepsCodes", "(I)Z"⟩
abbrev cX5_commonDivisor : ByteArray := prog_1_method_38_code
def yX5_commonDivisor : MethodName := ⟨RX5, "commonDivisor", "(II)I"⟩
abbrev cX5_lengthOf : ByteArray := prog_1_method_39_code
def yX5_lengthOf : MethodName := ⟨RX5, "lengthOf", "(I)I"⟩
abbrev cX5_letterOf : ByteArray := prog_1_method_40_code
def yX5_letterOf : MethodName := ⟨RX5, "letterOf", "(II)I"⟩
abbrev cX5_longer : ByteArray := prog_1_method_41_code
def yX5_longer : MethodName := ⟨RX5, "longer", "(II)I"⟩
abbrev cX5_turned : ByteArray := prog_1_method_42_code
def yX5_turned : MethodName := ⟨RX5, "turned", "(I)I"⟩
abbrev cX5_lettersIn : ByteArray := prog_1_method_43_code
def yX5_lettersIn : MethodName := ⟨RX5, "lettersIn", "(II)I"⟩
abbrev cX5_pairsIn : ByteArray := prog_1_method_44_code
def yX5_pairsIn : MethodName := ⟨RX5, "pairsIn", "(III)I"⟩
abbrev cX5_unlikePlaces : ByteArray := prog_1_method_45_code
def yX5_unlikePlaces : MethodName := ⟨RX5, "unlikePlaces", "(II)I"⟩
abbrev cX5_sameLetters : ByteArray := prog_1_method_46_code
def yX5_sameLetters : MethodName := ⟨RX5, "sameLetters", "(II)Z"⟩
abbrev cX5_samePairs : ByteArray := prog_1_method_47_code
def yX5_samePairs : MethodName := ⟨RX5, "samePairs", "(II)Z"⟩
abbrev cX5_sameCodes : ByteArray := prog_1_method_48_code
def yX5_sameCodes : MethodName := ⟨RX5, "sameCodes", "(III)Z"⟩
abbrev cX5_wordCode : ByteArray := prog_1_method_49_code
def yX5_wordCode : MethodName := ⟨RX5, "wordCode", "(III)I"⟩
abbrev cX5_codeIn : ByteArray := prog_1_method_50_code
def yX5_codeIn : MethodName := ⟨RX5, "codeIn", "(III)I"⟩
abbrev cX5_withCode : ByteArray := prog_1_method_51_code
def yX5_withCode : MethodName := ⟨RX5, "withCode", "(IIII)I"⟩
def RX6 : String := "PairShufflesModel"
def TX6 : u_T := fun k => match k with
  | 0 => ("PairShufflesModel", "s", "[I", true)
  | 1 => ("PairShufflesModel", "past", "[I", true)
  | 2 => ("PairShufflesModel", "held", "[I", true)
  | 3 => ("PairShufflesModel", "pasts", "I", false)
  | 4 => ("PairShufflesModel", "runs0", "Z", false)
  | 5 => ("PairShufflesModel", "text", "[I", true)
  | 6 => ("PairShufflesModel", "typed", "I", false)
  | 7 => ("PairShufflesModel", "now", "[I", true)
  | 8 => ("PairShufflesModel", "kept", "[I", true)
  | 9 => ("PairShufflesModel", "spot", "I", false)
  | 10 => ("PairShufflesModel", "reason", "I", false)
  | 11 => ("PairShufflesModel", "cause", "I", false)
  | 12 => ("PairShufflesModel", "orders", "I", false)
  | 13 => ("PairShufflesModel", "kindNow", "I", false)
  | _ => ("PairShufflesModel", "placeNow", "I", false)
def tyX6 : Nat → FieldType := fun k => match k with
  | 0 => .array .int
  | 1 => .array .int
  | 2 => .array .int
  | 3 => .int
  | 4 => .boolean
  | 5 => .array .int
  | 6 => .int
  | 7 => .array .int
  | 8 => .array .int
  | 9 => .int
  | 10 => .int
  | 11 => .int
  | 12 => .int
  | 13 => .int
  | _ => .int
abbrev wsX60 : List Cond := u_ws RX6 TX6 15
theorem nmX6 : ∀ a, a < 15 → ∀ b, b < 15 → a ≠ b → (TX6 a).2.1 ≠ (TX6 b).2.1 := by decide +kernel
theorem tyX6_ok : ∀ k, k < 15 → parseFieldDescriptor (TX6 k).2.2.1 = some (tyX6 k) := by decide +kernel
abbrev cX6_init : ByteArray := prog_8_method_1_code
def yX6_init : MethodName := ⟨RX6, "<init>", "()V"⟩
abbrev cX6_in : ByteArray := prog_8_method_3_code
def yX6_in : MethodName := ⟨RX6, "in", "(III)Z"⟩
abbrev cX6_is4 : ByteArray := prog_8_method_4_code
def yX6_is4 : MethodName := ⟨RX6, "is4", "(I)Z"⟩
abbrev cX6_changes : ByteArray := prog_8_method_5_code
def yX6_changes : MethodName := ⟨RX6, "changes", "()V"⟩
abbrev cX6_copies : ByteArray := prog_8_method_6_code
def yX6_copies : MethodName := ⟨RX6, "copies", "([I[I)V"⟩
abbrev cX6_append : ByteArray := prog_8_method_7_code
def yX6_append : MethodName := ⟨RX6, "append", "(I)I"⟩
abbrev cX6_clear : ByteArray := prog_8_method_8_code
def yX6_clear : MethodName := ⟨RX6, "clear", "()I"⟩
abbrev cX6_code : ByteArray := prog_8_method_9_code
def yX6_code : MethodName := ⟨RX6, "code", "(III)I"⟩
abbrev cX6_turn : ByteArray := prog_8_method_10_code
def yX6_turn : MethodName := ⟨RX6, "turn", "()I"⟩
abbrev cX6_letterAt : ByteArray := prog_8_method_11_code
def yX6_letterAt : MethodName := ⟨RX6, "letterAt", "(I)I"⟩
abbrev cX6_codeOf : ByteArray := prog_8_method_12_code
def yX6_codeOf : MethodName := ⟨RX6, "codeOf", "(II)I"⟩
abbrev cX6_often : ByteArray := prog_8_method_13_code
def yX6_often : MethodName := ⟨RX6, "often", "([IIII)I"⟩
abbrev cX6_letters : ByteArray := prog_8_method_14_code
def yX6_letters : MethodName := ⟨RX6, "letters", "(I)I"⟩
abbrev cX6_pairs : ByteArray := prog_8_method_15_code
def yX6_pairs : MethodName := ⟨RX6, "pairs", "(I)I"⟩
abbrev cX6_pairAt : ByteArray := prog_8_method_16_code
def yX6_pairAt : MethodName := ⟨RX6, "pairAt", "(II)I"⟩
abbrev cX6_common0 : ByteArray := prog_8_method_17_code
def yX6_common0 : MethodName := ⟨RX6, "common0", "(II)I"⟩
abbrev cX6_bias : ByteArray := prog_8_method_18_code
def yX6_bias : MethodName := ⟨RX6, "bias", "(III)I"⟩
abbrev cX6_begin : ByteArray := prog_8_method_19_code
def yX6_begin : MethodName := ⟨RX6, "begin", "()V"⟩
abbrev cX6_goes : ByteArray := prog_8_method_20_code
def yX6_goes : MethodName := ⟨RX6, "goes", "()Z"⟩
abbrev cX6_swaps : ByteArray := prog_8_method_21_code
def yX6_swaps : MethodName := ⟨RX6, "swaps", "(II)V"⟩
abbrev cX6_keepsPairs : ByteArray := prog_8_method_22_code
def yX6_keepsPairs : MethodName := ⟨RX6, "keepsPairs", "()Z"⟩
abbrev cX6_codeAt : ByteArray := prog_8_method_23_code
def yX6_codeAt : MethodName := ⟨RX6, "codeAt", "([III)I"⟩
abbrev cX6_keepsCodes : ByteArray := prog_8_method_24_code
def yX6_keepsCodes : MethodName := ⟨RX6, "keepsCodes", "()Z"⟩
abbrev cX6_isOne : ByteArray := prog_8_method_25_code
def yX6_isOne : MethodName := ⟨RX6, "isOne", "(I)Z"⟩
abbrev cX6_same : ByteArray := prog_8_method_26_code
def yX6_same : MethodName := ⟨RX6, "same", "()I"⟩
abbrev cX6_shuffles : ByteArray := prog_8_method_27_code
def yX6_shuffles : MethodName := ⟨RX6, "shuffles", "(I)I"⟩
abbrev cX6_place : ByteArray := prog_8_method_28_code
def yX6_place : MethodName := ⟨RX6, "place", "(I)I"⟩
abbrev cX6_placeOf : ByteArray := prog_8_method_29_code
def yX6_placeOf : MethodName := ⟨RX6, "placeOf", "(I)I"⟩
abbrev cX6_finds : ByteArray := prog_8_method_30_code
def yX6_finds : MethodName := ⟨RX6, "finds", "(II)Z"⟩
abbrev cX6_shuffleAt : ByteArray := prog_8_method_31_code
def yX6_shuffleAt : MethodName := ⟨RX6, "shuffleAt", "(III)I"⟩
abbrev cX6_takes : ByteArray := prog_8_method_32_code
def yX6_takes : MethodName := ⟨RX6, "takes", "()V"⟩
abbrev cX6_moves : ByteArray := prog_8_method_33_code
def yX6_moves : MethodName := ⟨RX6, "moves", "(II)I"⟩
abbrev cX6_next : ByteArray := prog_8_method_34_code
def yX6_next : MethodName := ⟨RX6, "next", "(I)I"⟩
abbrev cX6_back : ByteArray := prog_8_method_35_code
def yX6_back : MethodName := ⟨RX6, "back", "(I)I"⟩
abbrev cX6_at : ByteArray := prog_8_method_36_code
def yX6_at : MethodName := ⟨RX6, "at", "(II)I"⟩
abbrev cX6_runsOf : ByteArray := prog_8_method_37_code
def yX6_runsOf : MethodName := ⟨RX6, "runsOf", "([II)I"⟩
abbrev cX6_told : ByteArray := prog_8_method_38_code
def yX6_told : MethodName := ⟨RX6, "told", "([IIIII)I"⟩
abbrev cX6_measure : ByteArray := prog_8_method_39_code
def yX6_measure : MethodName := ⟨RX6, "measure", "(III)I"⟩
abbrev cX6_surprise : ByteArray := prog_8_method_40_code
def yX6_surprise : MethodName := ⟨RX6, "surprise", "(IIIII)I"⟩
abbrev cX6_common : ByteArray := prog_8_method_41_code
def yX6_common : MethodName := ⟨RX6, "common", "(II)I"⟩
abbrev cX6_keep : ByteArray := prog_8_method_42_code
def yX6_keep : MethodName := ⟨RX6, "keep", "()I"⟩
abbrev cX6_recall : ByteArray := prog_8_method_43_code
def yX6_recall : MethodName := ⟨RX6, "recall", "(I)I"⟩
abbrev cX6_kinship : ByteArray := prog_8_method_44_code
def yX6_kinship : MethodName := ⟨RX6, "kinship", "(I)I"⟩
abbrev cX6_unlike : ByteArray := prog_8_method_45_code
def yX6_unlike : MethodName := ⟨RX6, "unlike", "(Z)I"⟩
abbrev cX6_count : ByteArray := prog_8_method_46_code
def yX6_count : MethodName := ⟨RX6, "count", "(I)I"⟩
abbrev cX6_undo : ByteArray := prog_8_method_47_code
def yX6_undo : MethodName := ⟨RX6, "undo", "()I"⟩
abbrev cX6_type : ByteArray := prog_8_method_48_code
def yX6_type : MethodName := ⟨RX6, "type", "(I)I"⟩
abbrev cX6_clearText : ByteArray := prog_8_method_49_code
def yX6_clearText : MethodName := ⟨RX6, "clearText", "()I"⟩
abbrev cX6_isAt : ByteArray := prog_8_method_50_code
def yX6_isAt : MethodName := ⟨RX6, "isAt", "(II)Z"⟩
abbrev cX6_isWord : ByteArray := prog_8_method_51_code
def yX6_isWord : MethodName := ⟨RX6, "isWord", "(IIIIII)Z"⟩
abbrev cX6_wordAt : ByteArray := prog_8_method_52_code
def yX6_wordAt : MethodName := ⟨RX6, "wordAt", "(I)I"⟩
abbrev cX6_passes : ByteArray := prog_8_method_53_code
def yX6_passes : MethodName := ⟨RX6, "passes", "(I)Z"⟩
abbrev cX6_lettersRead : ByteArray := prog_8_method_54_code
def yX6_lettersRead : MethodName := ⟨RX6, "lettersRead", "()Z"⟩
abbrev cX6_kindRead : ByteArray := prog_8_method_55_code
def yX6_kindRead : MethodName := ⟨RX6, "kindRead", "()Z"⟩
abbrev cX6_numberRead : ByteArray := prog_8_method_56_code
def yX6_numberRead : MethodName := ⟨RX6, "numberRead", "()Z"⟩
abbrev cX6_isForm : ByteArray := prog_8_method_57_code
def yX6_isForm : MethodName := ⟨RX6, "isForm", "(I)Z"⟩
abbrev cX6_lays : ByteArray := prog_8_method_58_code
def yX6_lays : MethodName := ⟨RX6, "lays", "(II)V"⟩
abbrev cX6_does : ByteArray := prog_8_method_59_code
def yX6_does : MethodName := ⟨RX6, "does", "(II)I"⟩
abbrev cX6_plays : ByteArray := prog_8_method_60_code
def yX6_plays : MethodName := ⟨RX6, "plays", "()I"⟩
abbrev cX6_fault : ByteArray := prog_8_method_61_code
def yX6_fault : MethodName := ⟨RX6, "fault", "(I)I"⟩
abbrev cX6_play : ByteArray := prog_8_method_62_code
def yX6_play : MethodName := ⟨RX6, "play", "()I"⟩
def RJ9 : String := "java/lang/Math"
abbrev cJ9_min_7cf53 : ByteArray := prog_9_method_69_code
def yJ9_min_7cf53 : MethodName := ⟨RJ9, "min", "(II)I"⟩
def RJ0 : String := "java/lang/String"
abbrev cJ0_length_8abf5 : ByteArray := prog_10_method_54_code
def yJ0_length_8abf5 : MethodName := ⟨RJ0, "length", "()I"⟩
abbrev cJ0_charAt_5068e : ByteArray := prog_10_method_56_code
def yJ0_charAt_5068e : MethodName := ⟨RJ0, "charAt", "(I)C"⟩
abbrev cJ0_coder_7d493 : ByteArray := prog_10_method_152_code
def yJ0_coder_7d493 : MethodName := ⟨RJ0, "coder", "()B"⟩
abbrev cJ0_isLatin1_aae02 : ByteArray := prog_10_method_154_code
def yJ0_isLatin1_aae02 : MethodName := ⟨RJ0, "isLatin1", "()Z"⟩
abbrev cJ0_checkIndex_df160 : ByteArray := prog_10_method_155_code
def yJ0_checkIndex_df160 : MethodName := ⟨RJ0, "checkIndex", "(II)V"⟩
def RJ1 : String := "java/lang/StringLatin1"
abbrev cJ1_charAt_3b067 : ByteArray := prog_11_method_2_code
def yJ1_charAt_3b067 : MethodName := ⟨RJ1, "charAt", "([BI)C"⟩
def RJ2 : String := "java/lang/StringUTF16"
abbrev cJ2_getChar_3b067 : ByteArray := prog_12_method_5_code
def yJ2_getChar_3b067 : MethodName := ⟨RJ2, "getChar", "([BI)C"⟩
abbrev cJ2_length_9d52b : ByteArray := prog_12_method_6_code
def yJ2_length_9d52b : MethodName := ⟨RJ2, "length", "([B)I"⟩
abbrev cJ2_charAt_3b067 : ByteArray := prog_12_method_83_code
def yJ2_charAt_3b067 : MethodName := ⟨RJ2, "charAt", "([BI)C"⟩
abbrev cJ2_checkIndex_2214a : ByteArray := prog_12_method_91_code
def yJ2_checkIndex_2214a : MethodName := ⟨RJ2, "checkIndex", "(I[B)V"⟩
def RJ7 : String := "java/util/Arrays"
abbrev cJ7_fill_53178 : ByteArray := prog_14_method_103_code
def yJ7_fill_53178 : MethodName := ⟨RJ7, "fill", "([II)V"⟩
def RJ3 : String := "jdk/internal/util/Preconditions"
abbrev cJ3_checkIndex_8e157 : ByteArray := prog_15_method_11_code
def yJ3_checkIndex_8e157 : MethodName := ⟨RJ3, "checkIndex", "(IILjava/util/function/BiFunction;)I"⟩
def RL : String := "PairShufflesLaw"
abbrev cL_law : ByteArray := code
theorem dX0_init_0 : decode cX0_init 0 = .ok (.aload_n 0, 1) := by decide +kernel
theorem dX0_init_1 : decode cX0_init 1 = .ok (.invokespecial 3, 3) := by decide +kernel
theorem dX0_init_4 : decode cX0_init 4 = .ok (.return_, 1) := by decide +kernel
theorem dX0_set_0 : decode cX0_set 0 = .ok (.aload_n 0, 1) := by decide +kernel
theorem dX0_set_1 : decode cX0_set 1 = .ok (.iload_n 1, 1) := by decide +kernel
theorem dX0_set_2 : decode cX0_set 2 = .ok (.putfield 9, 3) := by decide +kernel
theorem dX0_set_5 : decode cX0_set 5 = .ok (.aload_n 0, 1) := by decide +kernel
theorem dX0_set_6 : decode cX0_set 6 = .ok (.iload_n 2, 1) := by decide +kernel
theorem dX0_set_7 : decode cX0_set 7 = .ok (.putfield 15, 3) := by decide +kernel
theorem dX0_set_10 : decode cX0_set 10 = .ok (.aload_n 0, 1) := by decide +kernel
theorem dX0_set_11 : decode cX0_set 11 = .ok (.iload_n 3, 1) := by decide +kernel
theorem dX0_set_12 : decode cX0_set 12 = .ok (.putfield 18, 3) := by decide +kernel
theorem dX0_set_15 : decode cX0_set 15 = .ok (.aload_n 0, 1) := by decide +kernel
theorem dX0_set_16 : decode cX0_set 16 = .ok (.aload 4, 2) := by decide +kernel
theorem dX0_set_18 : decode cX0_set 18 = .ok (.getfield 21, 3) := by decide +kernel
theorem dX0_set_21 : decode cX0_set 21 = .ok (.putfield 26, 3) := by decide +kernel
theorem dX0_set_24 : decode cX0_set 24 = .ok (.aload_n 0, 1) := by decide +kernel
theorem dX0_set_25 : decode cX0_set 25 = .ok (.aload 4, 2) := by decide +kernel
theorem dX0_set_27 : decode cX0_set 27 = .ok (.getfield 27, 3) := by decide +kernel
theorem dX0_set_30 : decode cX0_set 30 = .ok (.putfield 30, 3) := by decide +kernel
theorem dX0_set_33 : decode cX0_set 33 = .ok (.return_, 1) := by decide +kernel
theorem dX0_gain_0 : decode cX0_gain 0 = .ok (.aload_n 0, 1) := by decide +kernel
theorem dX0_gain_1 : decode cX0_gain 1 = .ok (.getfield 9, 3) := by decide +kernel
theorem dX0_gain_4 : decode cX0_gain 4 = .ok (.tableswitch 99 0 2 #[28, 58, 77], 28) := by decide +kernel
theorem dX0_gain_32 : decode cX0_gain 32 = .ok (.iload_n 1, 1) := by decide +kernel
theorem dX0_gain_33 : decode cX0_gain 33 = .ok (.ifCond .le 23, 3) := by decide +kernel
theorem dX0_gain_36 : decode cX0_gain 36 = .ok (.iload_n 2, 1) := by decide +kernel
theorem dX0_gain_37 : decode cX0_gain 37 = .ok (.aload_n 0, 1) := by decide +kernel
theorem dX0_gain_38 : decode cX0_gain 38 = .ok (.getfield 15, 3) := by decide +kernel
theorem dX0_gain_41 : decode cX0_gain 41 = .ok (.if_icmp .ne 15, 3) := by decide +kernel
theorem dX0_gain_44 : decode cX0_gain 44 = .ok (.iload_n 3, 1) := by decide +kernel
theorem dX0_gain_45 : decode cX0_gain 45 = .ok (.aload_n 0, 1) := by decide +kernel
theorem dX0_gain_46 : decode cX0_gain 46 = .ok (.getfield 18, 3) := by decide +kernel
theorem dX0_gain_49 : decode cX0_gain 49 = .ok (.if_icmp .ne 7, 3) := by decide +kernel
theorem dX0_gain_52 : decode cX0_gain 52 = .ok (.iconst 1, 1) := by decide +kernel
theorem dX0_gain_53 : decode cX0_gain 53 = .ok (.goto 4, 3) := by decide +kernel
theorem dX0_gain_56 : decode cX0_gain 56 = .ok (.iconst 0, 1) := by decide +kernel
theorem dX0_gain_57 : decode cX0_gain 57 = .ok (.istore 4, 2) := by decide +kernel
theorem dX0_gain_59 : decode cX0_gain 59 = .ok (.goto 74, 3) := by decide +kernel
theorem dX0_gain_62 : decode cX0_gain 62 = .ok (.iload_n 1, 1) := by decide +kernel
theorem dX0_gain_63 : decode cX0_gain 63 = .ok (.ifCond .eq 8, 3) := by decide +kernel
theorem dX0_gain_66 : decode cX0_gain 66 = .ok (.iload_n 2, 1) := by decide +kernel
theorem dX0_gain_67 : decode cX0_gain 67 = .ok (.iload_n 3, 1) := by decide +kernel
theorem dX0_gain_68 : decode cX0_gain 68 = .ok (.if_icmp .eq 7, 3) := by decide +kernel
theorem dX0_gain_71 : decode cX0_gain 71 = .ok (.iconst 1, 1) := by decide +kernel
theorem dX0_gain_72 : decode cX0_gain 72 = .ok (.goto 4, 3) := by decide +kernel
theorem dX0_gain_75 : decode cX0_gain 75 = .ok (.iconst 0, 1) := by decide +kernel
theorem dX0_gain_76 : decode cX0_gain 76 = .ok (.istore 4, 2) := by decide +kernel
theorem dX0_gain_78 : decode cX0_gain 78 = .ok (.goto 55, 3) := by decide +kernel
theorem dX0_gain_81 : decode cX0_gain 81 = .ok (.aload_n 0, 1) := by decide +kernel
theorem dX0_gain_82 : decode cX0_gain 82 = .ok (.getfield 26, 3) := by decide +kernel
theorem dX0_gain_85 : decode cX0_gain 85 = .ok (.iload_n 1, 1) := by decide +kernel
theorem dX0_gain_86 : decode cX0_gain 86 = .ok (.invokestatic 31, 3) := by decide +kernel
theorem dX0_gain_89 : decode cX0_gain 89 = .ok (.iload_n 3, 1) := by decide +kernel
theorem dX0_gain_90 : decode cX0_gain 90 = .ok (.if_icmp .ne 7, 3) := by decide +kernel
theorem dX0_gain_93 : decode cX0_gain 93 = .ok (.iconst 1, 1) := by decide +kernel
theorem dX0_gain_94 : decode cX0_gain 94 = .ok (.goto 4, 3) := by decide +kernel
theorem dX0_gain_97 : decode cX0_gain 97 = .ok (.iconst 0, 1) := by decide +kernel
theorem dX0_gain_98 : decode cX0_gain 98 = .ok (.istore 4, 2) := by decide +kernel
theorem dX0_gain_100 : decode cX0_gain 100 = .ok (.goto 33, 3) := by decide +kernel
theorem dX0_gain_103 : decode cX0_gain 103 = .ok (.iload_n 1, 1) := by decide +kernel
theorem dX0_gain_104 : decode cX0_gain 104 = .ok (.iconst 2, 1) := by decide +kernel
theorem dX0_gain_105 : decode cX0_gain 105 = .ok (.irem, 1) := by decide +kernel
theorem dX0_gain_106 : decode cX0_gain 106 = .ok (.iconst 1, 1) := by decide +kernel
theorem dX0_gain_107 : decode cX0_gain 107 = .ok (.if_icmp .ne 23, 3) := by decide +kernel
theorem dX0_gain_110 : decode cX0_gain 110 = .ok (.aload_n 0, 1) := by decide +kernel
theorem dX0_gain_111 : decode cX0_gain 111 = .ok (.getfield 30, 3) := by decide +kernel
theorem dX0_gain_114 : decode cX0_gain 114 = .ok (.iload_n 2, 1) := by decide +kernel
theorem dX0_gain_115 : decode cX0_gain 115 = .ok (.iload_n 3, 1) := by decide +kernel
theorem dX0_gain_116 : decode cX0_gain 116 = .ok (.invokestatic 35, 3) := by decide +kernel
theorem dX0_gain_119 : decode cX0_gain 119 = .ok (.aload_n 0, 1) := by decide +kernel
theorem dX0_gain_120 : decode cX0_gain 120 = .ok (.getfield 15, 3) := by decide +kernel
theorem dX0_gain_123 : decode cX0_gain 123 = .ok (.if_icmp .ne 7, 3) := by decide +kernel
theorem dX0_gain_126 : decode cX0_gain 126 = .ok (.iconst 1, 1) := by decide +kernel
theorem dX0_gain_127 : decode cX0_gain 127 = .ok (.goto 4, 3) := by decide +kernel
theorem dX0_gain_130 : decode cX0_gain 130 = .ok (.iconst 0, 1) := by decide +kernel
theorem dX0_gain_131 : decode cX0_gain 131 = .ok (.istore 4, 2) := by decide +kernel
theorem dX0_gain_133 : decode cX0_gain 133 = .ok (.iload 4, 2) := by decide +kernel
theorem dX0_gain_135 : decode cX0_gain 135 = .ok (.ifCond .eq 7, 3) := by decide +kernel
theorem dX0_gain_138 : decode cX0_gain 138 = .ok (.iconst 1, 1) := by decide +kernel
theorem dX0_gain_139 : decode cX0_gain 139 = .ok (.goto 4, 3) := by decide +kernel
theorem dX0_gain_142 : decode cX0_gain 142 = .ok (.iconst 0, 1) := by decide +kernel
theorem dX0_gain_143 : decode cX0_gain 143 = .ok (.ireturn, 1) := by decide +kernel
theorem dX0_ofRow_0 : decode cX0_ofRow 0 = .ok (.iconst 0, 1) := by decide +kernel
theorem dX0_ofRow_1 : decode cX0_ofRow 1 = .ok (.istore_n 1, 1) := by decide +kernel
theorem dX0_ofRow_2 : decode cX0_ofRow 2 = .ok (.iconst 0, 1) := by decide +kernel
theorem dX0_ofRow_3 : decode cX0_ofRow 3 = .ok (.istore_n 2, 1) := by decide +kernel
theorem dX0_ofRow_4 : decode cX0_ofRow 4 = .ok (.iconst 0, 1) := by decide +kernel
theorem dX0_ofRow_5 : decode cX0_ofRow 5 = .ok (.istore_n 3, 1) := by decide +kernel
theorem dX0_ofRow_6 : decode cX0_ofRow 6 = .ok (.iload_n 3, 1) := by decide +kernel
theorem dX0_ofRow_7 : decode cX0_ofRow 7 = .ok (.aload_n 0, 1) := by decide +kernel
theorem dX0_ofRow_8 : decode cX0_ofRow 8 = .ok (.getfield 26, 3) := by decide +kernel
theorem dX0_ofRow_11 : decode cX0_ofRow 11 = .ok (.invokestatic 39, 3) := by decide +kernel
theorem dX0_ofRow_14 : decode cX0_ofRow 14 = .ok (.if_icmp .ge 33, 3) := by decide +kernel
theorem dX0_ofRow_17 : decode cX0_ofRow 17 = .ok (.aload_n 0, 1) := by decide +kernel
theorem dX0_ofRow_18 : decode cX0_ofRow 18 = .ok (.getfield 26, 3) := by decide +kernel
theorem dX0_ofRow_21 : decode cX0_ofRow 21 = .ok (.iload_n 3, 1) := by decide +kernel
theorem dX0_ofRow_22 : decode cX0_ofRow 22 = .ok (.invokestatic 31, 3) := by decide +kernel
theorem dX0_ofRow_25 : decode cX0_ofRow 25 = .ok (.istore 4, 2) := by decide +kernel
theorem dX0_ofRow_27 : decode cX0_ofRow 27 = .ok (.iload_n 1, 1) := by decide +kernel
theorem dX0_ofRow_28 : decode cX0_ofRow 28 = .ok (.aload_n 0, 1) := by decide +kernel
theorem dX0_ofRow_29 : decode cX0_ofRow 29 = .ok (.iload_n 3, 1) := by decide +kernel
theorem dX0_ofRow_30 : decode cX0_ofRow 30 = .ok (.iload_n 2, 1) := by decide +kernel
theorem dX0_ofRow_31 : decode cX0_ofRow 31 = .ok (.iload 4, 2) := by decide +kernel
theorem dX0_ofRow_33 : decode cX0_ofRow 33 = .ok (.invokevirtual 43, 3) := by decide +kernel
theorem dX0_ofRow_36 : decode cX0_ofRow 36 = .ok (.iadd, 1) := by decide +kernel
theorem dX0_ofRow_37 : decode cX0_ofRow 37 = .ok (.istore_n 1, 1) := by decide +kernel
theorem dX0_ofRow_38 : decode cX0_ofRow 38 = .ok (.iload 4, 2) := by decide +kernel
theorem dX0_ofRow_40 : decode cX0_ofRow 40 = .ok (.istore_n 2, 1) := by decide +kernel
theorem dX0_ofRow_41 : decode cX0_ofRow 41 = .ok (.iinc 3 1, 3) := by decide +kernel
theorem dX0_ofRow_44 : decode cX0_ofRow 44 = .ok (.goto (-38), 3) := by decide +kernel
theorem dX0_ofRow_47 : decode cX0_ofRow 47 = .ok (.iload_n 1, 1) := by decide +kernel
theorem dX0_ofRow_48 : decode cX0_ofRow 48 = .ok (.ireturn, 1) := by decide +kernel
theorem dX1_init_0 : decode cX1_init 0 = .ok (.aload_n 0, 1) := by decide +kernel
theorem dX1_init_1 : decode cX1_init 1 = .ok (.invokespecial 3, 3) := by decide +kernel
theorem dX1_init_4 : decode cX1_init 4 = .ok (.aload_n 0, 1) := by decide +kernel
theorem dX1_init_5 : decode cX1_init 5 = .ok (.iconst 0, 1) := by decide +kernel
theorem dX1_init_6 : decode cX1_init 6 = .ok (.putfield 9, 3) := by decide +kernel
theorem dX1_init_9 : decode cX1_init 9 = .ok (.aload_n 0, 1) := by decide +kernel
theorem dX1_init_10 : decode cX1_init 10 = .ok (.bipush 8, 2) := by decide +kernel
theorem dX1_init_12 : decode cX1_init 12 = .ok (.newarray .int, 2) := by decide +kernel
theorem dX1_init_14 : decode cX1_init 14 = .ok (.putfield 15, 3) := by decide +kernel
theorem dX1_init_17 : decode cX1_init 17 = .ok (.iconst 0, 1) := by decide +kernel
theorem dX1_init_18 : decode cX1_init 18 = .ok (.istore_n 1, 1) := by decide +kernel
theorem dX1_init_19 : decode cX1_init 19 = .ok (.iload_n 1, 1) := by decide +kernel
theorem dX1_init_20 : decode cX1_init 20 = .ok (.bipush 16, 2) := by decide +kernel
theorem dX1_init_22 : decode cX1_init 22 = .ok (.if_icmp .ge 35, 3) := by decide +kernel
theorem dX1_init_25 : decode cX1_init 25 = .ok (.iload_n 1, 1) := by decide +kernel
theorem dX1_init_26 : decode cX1_init 26 = .ok (.iconst 4, 1) := by decide +kernel
theorem dX1_init_27 : decode cX1_init 27 = .ok (.idiv, 1) := by decide +kernel
theorem dX1_init_28 : decode cX1_init 28 = .ok (.istore_n 2, 1) := by decide +kernel
theorem dX1_init_29 : decode cX1_init 29 = .ok (.iload_n 1, 1) := by decide +kernel
theorem dX1_init_30 : decode cX1_init 30 = .ok (.iconst 4, 1) := by decide +kernel
theorem dX1_init_31 : decode cX1_init 31 = .ok (.irem, 1) := by decide +kernel
theorem dX1_init_32 : decode cX1_init 32 = .ok (.istore_n 3, 1) := by decide +kernel
theorem dX1_init_33 : decode cX1_init 33 = .ok (.aload_n 0, 1) := by decide +kernel
theorem dX1_init_34 : decode cX1_init 34 = .ok (.aload_n 0, 1) := by decide +kernel
theorem dX1_init_35 : decode cX1_init 35 = .ok (.getfield 19, 3) := by decide +kernel
theorem dX1_init_38 : decode cX1_init 38 = .ok (.iload_n 2, 1) := by decide +kernel
theorem dX1_init_39 : decode cX1_init 39 = .ok (.iload_n 3, 1) := by decide +kernel
theorem dX1_init_40 : decode cX1_init 40 = .ok (.iload_n 2, 1) := by decide +kernel
theorem dX1_init_41 : decode cX1_init 41 = .ok (.iload_n 3, 1) := by decide +kernel
theorem dX1_init_42 : decode cX1_init 42 = .ok (.iadd, 1) := by decide +kernel
theorem dX1_init_43 : decode cX1_init 43 = .ok (.iconst 4, 1) := by decide +kernel
theorem dX1_init_44 : decode cX1_init 44 = .ok (.irem, 1) := by decide +kernel
theorem dX1_init_45 : decode cX1_init 45 = .ok (.invokestatic 22, 3) := by decide +kernel
theorem dX1_init_48 : decode cX1_init 48 = .ok (.putfield 19, 3) := by decide +kernel
theorem dX1_init_51 : decode cX1_init 51 = .ok (.iinc 1 1, 3) := by decide +kernel
theorem dX1_init_54 : decode cX1_init 54 = .ok (.goto (-35), 3) := by decide +kernel
theorem dX1_init_57 : decode cX1_init 57 = .ok (.return_, 1) := by decide +kernel
theorem dX1_become_0 : decode cX1_become 0 = .ok (.aload_n 1, 1) := by decide +kernel
theorem dX1_become_1 : decode cX1_become 1 = .ok (.ifnonnull 4, 3) := by decide +kernel
theorem dX1_become_4 : decode cX1_become 4 = .ok (.return_, 1) := by decide +kernel
theorem dX1_become_5 : decode cX1_become 5 = .ok (.aload_n 0, 1) := by decide +kernel
theorem dX1_become_6 : decode cX1_become 6 = .ok (.aload_n 1, 1) := by decide +kernel
theorem dX1_become_7 : decode cX1_become 7 = .ok (.getfield 9, 3) := by decide +kernel
theorem dX1_become_10 : decode cX1_become 10 = .ok (.putfield 9, 3) := by decide +kernel
theorem dX1_become_13 : decode cX1_become 13 = .ok (.aload_n 0, 1) := by decide +kernel
theorem dX1_become_14 : decode cX1_become 14 = .ok (.aload_n 1, 1) := by decide +kernel
theorem dX1_become_15 : decode cX1_become 15 = .ok (.getfield 19, 3) := by decide +kernel
theorem dX1_become_18 : decode cX1_become 18 = .ok (.putfield 19, 3) := by decide +kernel
theorem dX1_become_21 : decode cX1_become 21 = .ok (.aload_n 0, 1) := by decide +kernel
theorem dX1_become_22 : decode cX1_become 22 = .ok (.aload_n 1, 1) := by decide +kernel
theorem dX1_become_23 : decode cX1_become 23 = .ok (.getfield 26, 3) := by decide +kernel
theorem dX1_become_26 : decode cX1_become 26 = .ok (.putfield 26, 3) := by decide +kernel
theorem dX1_become_29 : decode cX1_become 29 = .ok (.aload_n 1, 1) := by decide +kernel
theorem dX1_become_30 : decode cX1_become 30 = .ok (.getfield 15, 3) := by decide +kernel
theorem dX1_become_33 : decode cX1_become 33 = .ok (.iconst 0, 1) := by decide +kernel
theorem dX1_become_34 : decode cX1_become 34 = .ok (.aload_n 0, 1) := by decide +kernel
theorem dX1_become_35 : decode cX1_become 35 = .ok (.getfield 15, 3) := by decide +kernel
theorem dX1_become_38 : decode cX1_become 38 = .ok (.iconst 0, 1) := by decide +kernel
theorem dX1_become_39 : decode cX1_become 39 = .ok (.bipush 8, 2) := by decide +kernel
theorem dX1_become_41 : decode cX1_become 41 = .ok (.invokestatic 29, 3) := by decide +kernel
theorem dX1_become_44 : decode cX1_become 44 = .ok (.return_, 1) := by decide +kernel
theorem dX1_keepRow_0 : decode cX1_keepRow 0 = .ok (.aload_n 0, 1) := by decide +kernel
theorem dX1_keepRow_1 : decode cX1_keepRow 1 = .ok (.getfield 26, 3) := by decide +kernel
theorem dX1_keepRow_4 : decode cX1_keepRow 4 = .ok (.ifCond .lt 38, 3) := by decide +kernel
theorem dX1_keepRow_7 : decode cX1_keepRow 7 = .ok (.aload_n 0, 1) := by decide +kernel
theorem dX1_keepRow_8 : decode cX1_keepRow 8 = .ok (.getfield 26, 3) := by decide +kernel
theorem dX1_keepRow_11 : decode cX1_keepRow 11 = .ok (.aload_n 0, 1) := by decide +kernel
theorem dX1_keepRow_12 : decode cX1_keepRow 12 = .ok (.getfield 15, 3) := by decide +kernel
theorem dX1_keepRow_15 : decode cX1_keepRow 15 = .ok (.arraylength, 1) := by decide +kernel
theorem dX1_keepRow_16 : decode cX1_keepRow 16 = .ok (.if_icmp .ge 26, 3) := by decide +kernel
theorem dX1_keepRow_19 : decode cX1_keepRow 19 = .ok (.aload_n 0, 1) := by decide +kernel
theorem dX1_keepRow_20 : decode cX1_keepRow 20 = .ok (.getfield 15, 3) := by decide +kernel
theorem dX1_keepRow_23 : decode cX1_keepRow 23 = .ok (.aload_n 0, 1) := by decide +kernel
theorem dX1_keepRow_24 : decode cX1_keepRow 24 = .ok (.getfield 26, 3) := by decide +kernel
theorem dX1_keepRow_27 : decode cX1_keepRow 27 = .ok (.aload_n 0, 1) := by decide +kernel
theorem dX1_keepRow_28 : decode cX1_keepRow 28 = .ok (.getfield 9, 3) := by decide +kernel
theorem dX1_keepRow_31 : decode cX1_keepRow 31 = .ok (.iastore, 1) := by decide +kernel
theorem dX1_keepRow_32 : decode cX1_keepRow 32 = .ok (.aload_n 0, 1) := by decide +kernel
theorem dX1_keepRow_33 : decode cX1_keepRow 33 = .ok (.dup, 1) := by decide +kernel
theorem dX1_keepRow_34 : decode cX1_keepRow 34 = .ok (.getfield 26, 3) := by decide +kernel
theorem dX1_keepRow_37 : decode cX1_keepRow 37 = .ok (.iconst 1, 1) := by decide +kernel
theorem dX1_keepRow_38 : decode cX1_keepRow 38 = .ok (.iadd, 1) := by decide +kernel
theorem dX1_keepRow_39 : decode cX1_keepRow 39 = .ok (.putfield 26, 3) := by decide +kernel
theorem dX1_keepRow_42 : decode cX1_keepRow 42 = .ok (.return_, 1) := by decide +kernel
theorem dX1_keptRow_0 : decode cX1_keptRow 0 = .ok (.iload_n 1, 1) := by decide +kernel
theorem dX1_keptRow_1 : decode cX1_keptRow 1 = .ok (.ifCond .lt 21, 3) := by decide +kernel
theorem dX1_keptRow_4 : decode cX1_keptRow 4 = .ok (.iload_n 1, 1) := by decide +kernel
theorem dX1_keptRow_5 : decode cX1_keptRow 5 = .ok (.aload_n 0, 1) := by decide +kernel
theorem dX1_keptRow_6 : decode cX1_keptRow 6 = .ok (.getfield 15, 3) := by decide +kernel
theorem dX1_keptRow_9 : decode cX1_keptRow 9 = .ok (.arraylength, 1) := by decide +kernel
theorem dX1_keptRow_10 : decode cX1_keptRow 10 = .ok (.if_icmp .ge 12, 3) := by decide +kernel
theorem dX1_keptRow_13 : decode cX1_keptRow 13 = .ok (.aload_n 0, 1) := by decide +kernel
theorem dX1_keptRow_14 : decode cX1_keptRow 14 = .ok (.getfield 15, 3) := by decide +kernel
theorem dX1_keptRow_17 : decode cX1_keptRow 17 = .ok (.iload_n 1, 1) := by decide +kernel
theorem dX1_keptRow_18 : decode cX1_keptRow 18 = .ok (.iaload, 1) := by decide +kernel
theorem dX1_keptRow_19 : decode cX1_keptRow 19 = .ok (.goto 4, 3) := by decide +kernel
theorem dX1_keptRow_22 : decode cX1_keptRow 22 = .ok (.iconst 0, 1) := by decide +kernel
theorem dX1_keptRow_23 : decode cX1_keptRow 23 = .ok (.ireturn, 1) := by decide +kernel
theorem dX2_init_0 : decode cX2_init 0 = .ok (.aload_n 0, 1) := by decide +kernel
theorem dX2_init_1 : decode cX2_init 1 = .ok (.invokespecial 3, 3) := by decide +kernel
theorem dX2_init_4 : decode cX2_init 4 = .ok (.aload_n 0, 1) := by decide +kernel
theorem dX2_init_5 : decode cX2_init 5 = .ok (.bipush 60, 2) := by decide +kernel
theorem dX2_init_7 : decode cX2_init 7 = .ok (.newarray .int, 2) := by decide +kernel
theorem dX2_init_9 : decode cX2_init 9 = .ok (.putfield 9, 3) := by decide +kernel
theorem dX2_init_12 : decode cX2_init 12 = .ok (.return_, 1) := by decide +kernel
theorem dX2_put_0 : decode cX2_put 0 = .ok (.aload_n 0, 1) := by decide +kernel
theorem dX2_put_1 : decode cX2_put 1 = .ok (.getfield 15, 3) := by decide +kernel
theorem dX2_put_4 : decode cX2_put 4 = .ok (.ifCond .lt 35, 3) := by decide +kernel
theorem dX2_put_7 : decode cX2_put 7 = .ok (.aload_n 0, 1) := by decide +kernel
theorem dX2_put_8 : decode cX2_put 8 = .ok (.getfield 15, 3) := by decide +kernel
theorem dX2_put_11 : decode cX2_put 11 = .ok (.aload_n 0, 1) := by decide +kernel
theorem dX2_put_12 : decode cX2_put 12 = .ok (.getfield 9, 3) := by decide +kernel
theorem dX2_put_15 : decode cX2_put 15 = .ok (.arraylength, 1) := by decide +kernel
theorem dX2_put_16 : decode cX2_put 16 = .ok (.if_icmp .ge 23, 3) := by decide +kernel
theorem dX2_put_19 : decode cX2_put 19 = .ok (.aload_n 0, 1) := by decide +kernel
theorem dX2_put_20 : decode cX2_put 20 = .ok (.getfield 9, 3) := by decide +kernel
theorem dX2_put_23 : decode cX2_put 23 = .ok (.aload_n 0, 1) := by decide +kernel
theorem dX2_put_24 : decode cX2_put 24 = .ok (.getfield 15, 3) := by decide +kernel
theorem dX2_put_27 : decode cX2_put 27 = .ok (.iload_n 1, 1) := by decide +kernel
theorem dX2_put_28 : decode cX2_put 28 = .ok (.iastore, 1) := by decide +kernel
theorem dX2_put_29 : decode cX2_put 29 = .ok (.aload_n 0, 1) := by decide +kernel
theorem dX2_put_30 : decode cX2_put 30 = .ok (.dup, 1) := by decide +kernel
theorem dX2_put_31 : decode cX2_put 31 = .ok (.getfield 15, 3) := by decide +kernel
theorem dX2_put_34 : decode cX2_put 34 = .ok (.iconst 1, 1) := by decide +kernel
theorem dX2_put_35 : decode cX2_put 35 = .ok (.iadd, 1) := by decide +kernel
theorem dX2_put_36 : decode cX2_put 36 = .ok (.putfield 15, 3) := by decide +kernel
theorem dX2_put_39 : decode cX2_put 39 = .ok (.return_, 1) := by decide +kernel
theorem dX2_read_0 : decode cX2_read 0 = .ok (.aload_n 0, 1) := by decide +kernel
theorem dX2_read_1 : decode cX2_read 1 = .ok (.iconst 0, 1) := by decide +kernel
theorem dX2_read_2 : decode cX2_read 2 = .ok (.putfield 19, 3) := by decide +kernel
theorem dX2_read_5 : decode cX2_read 5 = .ok (.aload_n 0, 1) := by decide +kernel
theorem dX2_read_6 : decode cX2_read 6 = .ok (.iconst 0, 1) := by decide +kernel
theorem dX2_read_7 : decode cX2_read 7 = .ok (.putfield 22, 3) := by decide +kernel
theorem dX2_read_10 : decode cX2_read 10 = .ok (.aload_n 0, 1) := by decide +kernel
theorem dX2_read_11 : decode cX2_read 11 = .ok (.iconst 0, 1) := by decide +kernel
theorem dX2_read_12 : decode cX2_read 12 = .ok (.putfield 25, 3) := by decide +kernel
theorem dX2_read_15 : decode cX2_read 15 = .ok (.aload_n 0, 1) := by decide +kernel
theorem dX2_read_16 : decode cX2_read 16 = .ok (.iload_n 1, 1) := by decide +kernel
theorem dX2_read_17 : decode cX2_read 17 = .ok (.putfield 28, 3) := by decide +kernel
theorem dX2_read_20 : decode cX2_read 20 = .ok (.aload_n 0, 1) := by decide +kernel
theorem dX2_read_21 : decode cX2_read 21 = .ok (.getfield 28, 3) := by decide +kernel
theorem dX2_read_24 : decode cX2_read 24 = .ok (.aload_n 0, 1) := by decide +kernel
theorem dX2_read_25 : decode cX2_read 25 = .ok (.getfield 15, 3) := by decide +kernel
theorem dX2_read_28 : decode cX2_read 28 = .ok (.if_icmp .ge 27, 3) := by decide +kernel
theorem dX2_read_31 : decode cX2_read 31 = .ok (.aload_n 0, 1) := by decide +kernel
theorem dX2_read_32 : decode cX2_read 32 = .ok (.bipush 97, 2) := by decide +kernel
theorem dX2_read_34 : decode cX2_read 34 = .ok (.bipush 122, 2) := by decide +kernel
theorem dX2_read_36 : decode cX2_read 36 = .ok (.invokevirtual 31, 3) := by decide +kernel
theorem dX2_read_39 : decode cX2_read 39 = .ok (.ifCond .eq 16, 3) := by decide +kernel
theorem dX2_read_42 : decode cX2_read 42 = .ok (.aload_n 0, 1) := by decide +kernel
theorem dX2_read_43 : decode cX2_read 43 = .ok (.dup, 1) := by decide +kernel
theorem dX2_read_44 : decode cX2_read 44 = .ok (.getfield 28, 3) := by decide +kernel
theorem dX2_read_47 : decode cX2_read 47 = .ok (.iconst 1, 1) := by decide +kernel
theorem dX2_read_48 : decode cX2_read 48 = .ok (.iadd, 1) := by decide +kernel
theorem dX2_read_49 : decode cX2_read 49 = .ok (.putfield 28, 3) := by decide +kernel
theorem dX2_read_52 : decode cX2_read 52 = .ok (.goto (-32), 3) := by decide +kernel
theorem dX2_read_55 : decode cX2_read 55 = .ok (.aload_n 0, 1) := by decide +kernel
theorem dX2_read_56 : decode cX2_read 56 = .ok (.aload_n 0, 1) := by decide +kernel
theorem dX2_read_57 : decode cX2_read 57 = .ok (.iload_n 1, 1) := by decide +kernel
theorem dX2_read_58 : decode cX2_read 58 = .ok (.aload_n 0, 1) := by decide +kernel
theorem dX2_read_59 : decode cX2_read 59 = .ok (.getfield 28, 3) := by decide +kernel
theorem dX2_read_62 : decode cX2_read 62 = .ok (.invokevirtual 35, 3) := by decide +kernel
theorem dX2_read_65 : decode cX2_read 65 = .ok (.putfield 39, 3) := by decide +kernel
theorem dX2_read_68 : decode cX2_read 68 = .ok (.aload_n 0, 1) := by decide +kernel
theorem dX2_read_69 : decode cX2_read 69 = .ok (.aload_n 0, 1) := by decide +kernel
theorem dX2_read_70 : decode cX2_read 70 = .ok (.getfield 39, 3) := by decide +kernel
theorem dX2_read_73 : decode cX2_read 73 = .ok (.ifCond .ne 7, 3) := by decide +kernel
theorem dX2_read_76 : decode cX2_read 76 = .ok (.iconst 1, 1) := by decide +kernel
theorem dX2_read_77 : decode cX2_read 77 = .ok (.goto 4, 3) := by decide +kernel
theorem dX2_read_80 : decode cX2_read 80 = .ok (.iconst 0, 1) := by decide +kernel
theorem dX2_read_81 : decode cX2_read 81 = .ok (.putfield 42, 3) := by decide +kernel
theorem dX2_read_84 : decode cX2_read 84 = .ok (.aload_n 0, 1) := by decide +kernel
theorem dX2_read_85 : decode cX2_read 85 = .ok (.getfield 39, 3) := by decide +kernel
theorem dX2_read_88 : decode cX2_read 88 = .ok (.tableswitch 89 1 4 #[32, 89, 45, 62], 32) := by decide +kernel
theorem dX2_read_120 : decode cX2_read 120 = .ok (.aload_n 0, 1) := by decide +kernel
theorem dX2_read_121 : decode cX2_read 121 = .ok (.bipush 32, 2) := by decide +kernel
theorem dX2_read_123 : decode cX2_read 123 = .ok (.invokevirtual 46, 3) := by decide +kernel
theorem dX2_read_126 : decode cX2_read 126 = .ok (.aload_n 0, 1) := by decide +kernel
theorem dX2_read_127 : decode cX2_read 127 = .ok (.invokevirtual 50, 3) := by decide +kernel
theorem dX2_read_130 : decode cX2_read 130 = .ok (.goto 47, 3) := by decide +kernel
theorem dX2_read_133 : decode cX2_read 133 = .ok (.aload_n 0, 1) := by decide +kernel
theorem dX2_read_134 : decode cX2_read 134 = .ok (.bipush 32, 2) := by decide +kernel
theorem dX2_read_136 : decode cX2_read 136 = .ok (.invokevirtual 46, 3) := by decide +kernel
theorem dX2_read_139 : decode cX2_read 139 = .ok (.aload_n 0, 1) := by decide +kernel
theorem dX2_read_140 : decode cX2_read 140 = .ok (.aload_n 0, 1) := by decide +kernel
theorem dX2_read_141 : decode cX2_read 141 = .ok (.invokevirtual 53, 3) := by decide +kernel
theorem dX2_read_144 : decode cX2_read 144 = .ok (.putfield 19, 3) := by decide +kernel
theorem dX2_read_147 : decode cX2_read 147 = .ok (.goto 30, 3) := by decide +kernel
theorem dX2_read_150 : decode cX2_read 150 = .ok (.aload_n 0, 1) := by decide +kernel
theorem dX2_read_151 : decode cX2_read 151 = .ok (.bipush 32, 2) := by decide +kernel
theorem dX2_read_153 : decode cX2_read 153 = .ok (.invokevirtual 46, 3) := by decide +kernel
theorem dX2_read_156 : decode cX2_read 156 = .ok (.aload_n 0, 1) := by decide +kernel
theorem dX2_read_157 : decode cX2_read 157 = .ok (.aload_n 0, 1) := by decide +kernel
theorem dX2_read_158 : decode cX2_read 158 = .ok (.invokevirtual 53, 3) := by decide +kernel
theorem dX2_read_161 : decode cX2_read 161 = .ok (.putfield 19, 3) := by decide +kernel
theorem dX2_read_164 : decode cX2_read 164 = .ok (.aload_n 0, 1) := by decide +kernel
theorem dX2_read_165 : decode cX2_read 165 = .ok (.bipush 32, 2) := by decide +kernel
theorem dX2_read_167 : decode cX2_read 167 = .ok (.invokevirtual 46, 3) := by decide +kernel
theorem dX2_read_170 : decode cX2_read 170 = .ok (.aload_n 0, 1) := by decide +kernel
theorem dX2_read_171 : decode cX2_read 171 = .ok (.invokevirtual 57, 3) := by decide +kernel
theorem dX2_read_174 : decode cX2_read 174 = .ok (.goto 3, 3) := by decide +kernel
theorem dX2_read_177 : decode cX2_read 177 = .ok (.aload_n 0, 1) := by decide +kernel
theorem dX2_read_178 : decode cX2_read 178 = .ok (.bipush 59, 2) := by decide +kernel
theorem dX2_read_180 : decode cX2_read 180 = .ok (.invokevirtual 46, 3) := by decide +kernel
theorem dX2_read_183 : decode cX2_read 183 = .ok (.return_, 1) := by decide +kernel
theorem dX2_signAt_0 : decode cX2_signAt 0 = .ok (.iload_n 1, 1) := by decide +kernel
theorem dX2_signAt_1 : decode cX2_signAt 1 = .ok (.ifCond .lt 29, 3) := by decide +kernel
theorem dX2_signAt_4 : decode cX2_signAt 4 = .ok (.iload_n 1, 1) := by decide +kernel
theorem dX2_signAt_5 : decode cX2_signAt 5 = .ok (.aload_n 0, 1) := by decide +kernel
theorem dX2_signAt_6 : decode cX2_signAt 6 = .ok (.getfield 15, 3) := by decide +kernel
theorem dX2_signAt_9 : decode cX2_signAt 9 = .ok (.if_icmp .ge 21, 3) := by decide +kernel
theorem dX2_signAt_12 : decode cX2_signAt 12 = .ok (.iload_n 1, 1) := by decide +kernel
theorem dX2_signAt_13 : decode cX2_signAt 13 = .ok (.aload_n 0, 1) := by decide +kernel
theorem dX2_signAt_14 : decode cX2_signAt 14 = .ok (.getfield 9, 3) := by decide +kernel
theorem dX2_signAt_17 : decode cX2_signAt 17 = .ok (.arraylength, 1) := by decide +kernel
theorem dX2_signAt_18 : decode cX2_signAt 18 = .ok (.if_icmp .ge 12, 3) := by decide +kernel
theorem dX2_signAt_21 : decode cX2_signAt 21 = .ok (.aload_n 0, 1) := by decide +kernel
theorem dX2_signAt_22 : decode cX2_signAt 22 = .ok (.getfield 9, 3) := by decide +kernel
theorem dX2_signAt_25 : decode cX2_signAt 25 = .ok (.iload_n 1, 1) := by decide +kernel
theorem dX2_signAt_26 : decode cX2_signAt 26 = .ok (.iaload, 1) := by decide +kernel
theorem dX2_signAt_27 : decode cX2_signAt 27 = .ok (.goto 4, 3) := by decide +kernel
theorem dX2_signAt_30 : decode cX2_signAt 30 = .ok (.iconst (-1), 1) := by decide +kernel
theorem dX2_signAt_31 : decode cX2_signAt 31 = .ok (.ireturn, 1) := by decide +kernel
theorem dX2_isBetween_0 : decode cX2_isBetween 0 = .ok (.aload_n 0, 1) := by decide +kernel
theorem dX2_isBetween_1 : decode cX2_isBetween 1 = .ok (.aload_n 0, 1) := by decide +kernel
theorem dX2_isBetween_2 : decode cX2_isBetween 2 = .ok (.getfield 28, 3) := by decide +kernel
theorem dX2_isBetween_5 : decode cX2_isBetween 5 = .ok (.invokevirtual 60, 3) := by decide +kernel
theorem dX2_isBetween_8 : decode cX2_isBetween 8 = .ok (.istore_n 3, 1) := by decide +kernel
theorem dX2_isBetween_9 : decode cX2_isBetween 9 = .ok (.iload_n 3, 1) := by decide +kernel
theorem dX2_isBetween_10 : decode cX2_isBetween 10 = .ok (.iload_n 1, 1) := by decide +kernel
theorem dX2_isBetween_11 : decode cX2_isBetween 11 = .ok (.if_icmp .lt 12, 3) := by decide +kernel
theorem dX2_isBetween_14 : decode cX2_isBetween 14 = .ok (.iload_n 3, 1) := by decide +kernel
theorem dX2_isBetween_15 : decode cX2_isBetween 15 = .ok (.iload_n 2, 1) := by decide +kernel
theorem dX2_isBetween_16 : decode cX2_isBetween 16 = .ok (.if_icmp .gt 7, 3) := by decide +kernel
theorem dX2_isBetween_19 : decode cX2_isBetween 19 = .ok (.iconst 1, 1) := by decide +kernel
theorem dX2_isBetween_20 : decode cX2_isBetween 20 = .ok (.goto 4, 3) := by decide +kernel
theorem dX2_isBetween_23 : decode cX2_isBetween 23 = .ok (.iconst 0, 1) := by decide +kernel
theorem dX2_isBetween_24 : decode cX2_isBetween 24 = .ok (.ireturn, 1) := by decide +kernel
theorem dX2_wordBetween_0 : decode cX2_wordBetween 0 = .ok (.aload_n 0, 1) := by decide +kernel
theorem dX2_wordBetween_1 : decode cX2_wordBetween 1 = .ok (.ldc 64, 2) := by decide +kernel
theorem dX2_wordBetween_3 : decode cX2_wordBetween 3 = .ok (.iload_n 1, 1) := by decide +kernel
theorem dX2_wordBetween_4 : decode cX2_wordBetween 4 = .ok (.iload_n 2, 1) := by decide +kernel
theorem dX2_wordBetween_5 : decode cX2_wordBetween 5 = .ok (.invokevirtual 65, 3) := by decide +kernel
theorem dX2_wordBetween_8 : decode cX2_wordBetween 8 = .ok (.ifCond .eq 5, 3) := by decide +kernel
theorem dX2_wordBetween_11 : decode cX2_wordBetween 11 = .ok (.iconst 1, 1) := by decide +kernel
theorem dX2_wordBetween_12 : decode cX2_wordBetween 12 = .ok (.ireturn, 1) := by decide +kernel
theorem dX2_wordBetween_13 : decode cX2_wordBetween 13 = .ok (.aload_n 0, 1) := by decide +kernel
theorem dX2_wordBetween_14 : decode cX2_wordBetween 14 = .ok (.ldc 69, 2) := by decide +kernel
theorem dX2_wordBetween_16 : decode cX2_wordBetween 16 = .ok (.iload_n 1, 1) := by decide +kernel
theorem dX2_wordBetween_17 : decode cX2_wordBetween 17 = .ok (.iload_n 2, 1) := by decide +kernel
theorem dX2_wordBetween_18 : decode cX2_wordBetween 18 = .ok (.invokevirtual 65, 3) := by decide +kernel
theorem dX2_wordBetween_21 : decode cX2_wordBetween 21 = .ok (.ifCond .eq 5, 3) := by decide +kernel
theorem dX2_wordBetween_24 : decode cX2_wordBetween 24 = .ok (.iconst 2, 1) := by decide +kernel
theorem dX2_wordBetween_25 : decode cX2_wordBetween 25 = .ok (.ireturn, 1) := by decide +kernel
theorem dX2_wordBetween_26 : decode cX2_wordBetween 26 = .ok (.aload_n 0, 1) := by decide +kernel
theorem dX2_wordBetween_27 : decode cX2_wordBetween 27 = .ok (.ldc 71, 2) := by decide +kernel
theorem dX2_wordBetween_29 : decode cX2_wordBetween 29 = .ok (.iload_n 1, 1) := by decide +kernel
theorem dX2_wordBetween_30 : decode cX2_wordBetween 30 = .ok (.iload_n 2, 1) := by decide +kernel
theorem dX2_wordBetween_31 : decode cX2_wordBetween 31 = .ok (.invokevirtual 65, 3) := by decide +kernel
theorem dX2_wordBetween_34 : decode cX2_wordBetween 34 = .ok (.ifCond .eq 5, 3) := by decide +kernel
theorem dX2_wordBetween_37 : decode cX2_wordBetween 37 = .ok (.iconst 3, 1) := by decide +kernel
theorem dX2_wordBetween_38 : decode cX2_wordBetween 38 = .ok (.ireturn, 1) := by decide +kernel
theorem dX2_wordBetween_39 : decode cX2_wordBetween 39 = .ok (.aload_n 0, 1) := by decide +kernel
theorem dX2_wordBetween_40 : decode cX2_wordBetween 40 = .ok (.ldc 73, 2) := by decide +kernel
theorem dX2_wordBetween_42 : decode cX2_wordBetween 42 = .ok (.iload_n 1, 1) := by decide +kernel
theorem dX2_wordBetween_43 : decode cX2_wordBetween 43 = .ok (.iload_n 2, 1) := by decide +kernel
theorem dX2_wordBetween_44 : decode cX2_wordBetween 44 = .ok (.invokevirtual 65, 3) := by decide +kernel
theorem dX2_wordBetween_47 : decode cX2_wordBetween 47 = .ok (.ifCond .eq 5, 3) := by decide +kernel
theorem dX2_wordBetween_50 : decode cX2_wordBetween 50 = .ok (.iconst 4, 1) := by decide +kernel
theorem dX2_wordBetween_51 : decode cX2_wordBetween 51 = .ok (.ireturn, 1) := by decide +kernel
theorem dX2_wordBetween_52 : decode cX2_wordBetween 52 = .ok (.aload_n 0, 1) := by decide +kernel
theorem dX2_wordBetween_53 : decode cX2_wordBetween 53 = .ok (.ldc 75, 2) := by decide +kernel
theorem dX2_wordBetween_55 : decode cX2_wordBetween 55 = .ok (.iload_n 1, 1) := by decide +kernel
theorem dX2_wordBetween_56 : decode cX2_wordBetween 56 = .ok (.iload_n 2, 1) := by decide +kernel
theorem dX2_wordBetween_57 : decode cX2_wordBetween 57 = .ok (.invokevirtual 65, 3) := by decide +kernel
theorem dX2_wordBetween_60 : decode cX2_wordBetween 60 = .ok (.ifCond .eq 7, 3) := by decide +kernel
theorem dX2_wordBetween_63 : decode cX2_wordBetween 63 = .ok (.iconst 5, 1) := by decide +kernel
theorem dX2_wordBetween_64 : decode cX2_wordBetween 64 = .ok (.goto 4, 3) := by decide +kernel
theorem dX2_wordBetween_67 : decode cX2_wordBetween 67 = .ok (.iconst 0, 1) := by decide +kernel
theorem dX2_wordBetween_68 : decode cX2_wordBetween 68 = .ok (.ireturn, 1) := by decide +kernel
theorem dX2_spells_0 : decode cX2_spells 0 = .ok (.iload_n 3, 1) := by decide +kernel
theorem dX2_spells_1 : decode cX2_spells 1 = .ok (.iload_n 2, 1) := by decide +kernel
theorem dX2_spells_2 : decode cX2_spells 2 = .ok (.isub, 1) := by decide +kernel
theorem dX2_spells_3 : decode cX2_spells 3 = .ok (.aload_n 1, 1) := by decide +kernel
theorem dX2_spells_4 : decode cX2_spells 4 = .ok (.invokevirtual 77, 3) := by decide +kernel
theorem dX2_spells_7 : decode cX2_spells 7 = .ok (.if_icmp .eq 5, 3) := by decide +kernel
theorem dX2_spells_10 : decode cX2_spells 10 = .ok (.iconst 0, 1) := by decide +kernel
theorem dX2_spells_11 : decode cX2_spells 11 = .ok (.ireturn, 1) := by decide +kernel
theorem dX2_spells_12 : decode cX2_spells 12 = .ok (.iconst 0, 1) := by decide +kernel
theorem dX2_spells_13 : decode cX2_spells 13 = .ok (.istore 4, 2) := by decide +kernel
theorem dX2_spells_15 : decode cX2_spells 15 = .ok (.iload 4, 2) := by decide +kernel
theorem dX2_spells_17 : decode cX2_spells 17 = .ok (.aload_n 1, 1) := by decide +kernel
theorem dX2_spells_18 : decode cX2_spells 18 = .ok (.invokevirtual 77, 3) := by decide +kernel
theorem dX2_spells_21 : decode cX2_spells 21 = .ok (.if_icmp .ge 28, 3) := by decide +kernel
theorem dX2_spells_24 : decode cX2_spells 24 = .ok (.aload_n 0, 1) := by decide +kernel
theorem dX2_spells_25 : decode cX2_spells 25 = .ok (.iload_n 2, 1) := by decide +kernel
theorem dX2_spells_26 : decode cX2_spells 26 = .ok (.iload 4, 2) := by decide +kernel
theorem dX2_spells_28 : decode cX2_spells 28 = .ok (.iadd, 1) := by decide +kernel
theorem dX2_spells_29 : decode cX2_spells 29 = .ok (.invokevirtual 60, 3) := by decide +kernel
theorem dX2_spells_32 : decode cX2_spells 32 = .ok (.aload_n 1, 1) := by decide +kernel
theorem dX2_spells_33 : decode cX2_spells 33 = .ok (.iload 4, 2) := by decide +kernel
theorem dX2_spells_35 : decode cX2_spells 35 = .ok (.invokevirtual 81, 3) := by decide +kernel
theorem dX2_spells_38 : decode cX2_spells 38 = .ok (.if_icmp .eq 5, 3) := by decide +kernel
theorem dX2_spells_41 : decode cX2_spells 41 = .ok (.iconst 0, 1) := by decide +kernel
theorem dX2_spells_42 : decode cX2_spells 42 = .ok (.ireturn, 1) := by decide +kernel
theorem dX2_spells_43 : decode cX2_spells 43 = .ok (.iinc 4 1, 3) := by decide +kernel
theorem dX2_spells_46 : decode cX2_spells 46 = .ok (.goto (-31), 3) := by decide +kernel
theorem dX2_spells_49 : decode cX2_spells 49 = .ok (.iconst 1, 1) := by decide +kernel
theorem dX2_spells_50 : decode cX2_spells 50 = .ok (.ireturn, 1) := by decide +kernel
theorem dX2_readSign_0 : decode cX2_readSign 0 = .ok (.aload_n 0, 1) := by decide +kernel
theorem dX2_readSign_1 : decode cX2_readSign 1 = .ok (.getfield 42, 3) := by decide +kernel
theorem dX2_readSign_4 : decode cX2_readSign 4 = .ok (.ifCond .ne 25, 3) := by decide +kernel
theorem dX2_readSign_7 : decode cX2_readSign 7 = .ok (.aload_n 0, 1) := by decide +kernel
theorem dX2_readSign_8 : decode cX2_readSign 8 = .ok (.iload_n 1, 1) := by decide +kernel
theorem dX2_readSign_9 : decode cX2_readSign 9 = .ok (.iload_n 1, 1) := by decide +kernel
theorem dX2_readSign_10 : decode cX2_readSign 10 = .ok (.invokevirtual 31, 3) := by decide +kernel
theorem dX2_readSign_13 : decode cX2_readSign 13 = .ok (.ifCond .eq 16, 3) := by decide +kernel
theorem dX2_readSign_16 : decode cX2_readSign 16 = .ok (.aload_n 0, 1) := by decide +kernel
theorem dX2_readSign_17 : decode cX2_readSign 17 = .ok (.dup, 1) := by decide +kernel
theorem dX2_readSign_18 : decode cX2_readSign 18 = .ok (.getfield 28, 3) := by decide +kernel
theorem dX2_readSign_21 : decode cX2_readSign 21 = .ok (.iconst 1, 1) := by decide +kernel
theorem dX2_readSign_22 : decode cX2_readSign 22 = .ok (.iadd, 1) := by decide +kernel
theorem dX2_readSign_23 : decode cX2_readSign 23 = .ok (.putfield 28, 3) := by decide +kernel
theorem dX2_readSign_26 : decode cX2_readSign 26 = .ok (.goto 8, 3) := by decide +kernel
theorem dX2_readSign_29 : decode cX2_readSign 29 = .ok (.aload_n 0, 1) := by decide +kernel
theorem dX2_readSign_30 : decode cX2_readSign 30 = .ok (.iconst 1, 1) := by decide +kernel
theorem dX2_readSign_31 : decode cX2_readSign 31 = .ok (.putfield 42, 3) := by decide +kernel
theorem dX2_readSign_34 : decode cX2_readSign 34 = .ok (.return_, 1) := by decide +kernel
theorem dX2_readDigit_0 : decode cX2_readDigit 0 = .ok (.aload_n 0, 1) := by decide +kernel
theorem dX2_readDigit_1 : decode cX2_readDigit 1 = .ok (.getfield 42, 3) := by decide +kernel
theorem dX2_readDigit_4 : decode cX2_readDigit 4 = .ok (.ifCond .ne 14, 3) := by decide +kernel
theorem dX2_readDigit_7 : decode cX2_readDigit 7 = .ok (.aload_n 0, 1) := by decide +kernel
theorem dX2_readDigit_8 : decode cX2_readDigit 8 = .ok (.bipush 48, 2) := by decide +kernel
theorem dX2_readDigit_10 : decode cX2_readDigit 10 = .ok (.bipush 57, 2) := by decide +kernel
theorem dX2_readDigit_12 : decode cX2_readDigit 12 = .ok (.invokevirtual 31, 3) := by decide +kernel
theorem dX2_readDigit_15 : decode cX2_readDigit 15 = .ok (.ifCond .ne 10, 3) := by decide +kernel
theorem dX2_readDigit_18 : decode cX2_readDigit 18 = .ok (.aload_n 0, 1) := by decide +kernel
theorem dX2_readDigit_19 : decode cX2_readDigit 19 = .ok (.iconst 1, 1) := by decide +kernel
theorem dX2_readDigit_20 : decode cX2_readDigit 20 = .ok (.putfield 42, 3) := by decide +kernel
theorem dX2_readDigit_23 : decode cX2_readDigit 23 = .ok (.iconst 0, 1) := by decide +kernel
theorem dX2_readDigit_24 : decode cX2_readDigit 24 = .ok (.ireturn, 1) := by decide +kernel
theorem dX2_readDigit_25 : decode cX2_readDigit 25 = .ok (.aload_n 0, 1) := by decide +kernel
theorem dX2_readDigit_26 : decode cX2_readDigit 26 = .ok (.aload_n 0, 1) := by decide +kernel
theorem dX2_readDigit_27 : decode cX2_readDigit 27 = .ok (.getfield 28, 3) := by decide +kernel
theorem dX2_readDigit_30 : decode cX2_readDigit 30 = .ok (.invokevirtual 60, 3) := by decide +kernel
theorem dX2_readDigit_33 : decode cX2_readDigit 33 = .ok (.bipush 48, 2) := by decide +kernel
theorem dX2_readDigit_35 : decode cX2_readDigit 35 = .ok (.isub, 1) := by decide +kernel
theorem dX2_readDigit_36 : decode cX2_readDigit 36 = .ok (.istore_n 1, 1) := by decide +kernel
theorem dX2_readDigit_37 : decode cX2_readDigit 37 = .ok (.aload_n 0, 1) := by decide +kernel
theorem dX2_readDigit_38 : decode cX2_readDigit 38 = .ok (.dup, 1) := by decide +kernel
theorem dX2_readDigit_39 : decode cX2_readDigit 39 = .ok (.getfield 28, 3) := by decide +kernel
theorem dX2_readDigit_42 : decode cX2_readDigit 42 = .ok (.iconst 1, 1) := by decide +kernel
theorem dX2_readDigit_43 : decode cX2_readDigit 43 = .ok (.iadd, 1) := by decide +kernel
theorem dX2_readDigit_44 : decode cX2_readDigit 44 = .ok (.putfield 28, 3) := by decide +kernel
theorem dX2_readDigit_47 : decode cX2_readDigit 47 = .ok (.iload_n 1, 1) := by decide +kernel
theorem dX2_readDigit_48 : decode cX2_readDigit 48 = .ok (.ireturn, 1) := by decide +kernel
theorem dX2_readNumber_0 : decode cX2_readNumber 0 = .ok (.aload_n 0, 1) := by decide +kernel
theorem dX2_readNumber_1 : decode cX2_readNumber 1 = .ok (.aload_n 0, 1) := by decide +kernel
theorem dX2_readNumber_2 : decode cX2_readNumber 2 = .ok (.invokevirtual 53, 3) := by decide +kernel
theorem dX2_readNumber_5 : decode cX2_readNumber 5 = .ok (.putfield 22, 3) := by decide +kernel
theorem dX2_readNumber_8 : decode cX2_readNumber 8 = .ok (.iconst 1, 1) := by decide +kernel
theorem dX2_readNumber_9 : decode cX2_readNumber 9 = .ok (.istore_n 1, 1) := by decide +kernel
theorem dX2_readNumber_10 : decode cX2_readNumber 10 = .ok (.iload_n 1, 1) := by decide +kernel
theorem dX2_readNumber_11 : decode cX2_readNumber 11 = .ok (.bipush 6, 2) := by decide +kernel
theorem dX2_readNumber_13 : decode cX2_readNumber 13 = .ok (.if_icmp .ge 43, 3) := by decide +kernel
theorem dX2_readNumber_16 : decode cX2_readNumber 16 = .ok (.aload_n 0, 1) := by decide +kernel
theorem dX2_readNumber_17 : decode cX2_readNumber 17 = .ok (.getfield 42, 3) := by decide +kernel
theorem dX2_readNumber_20 : decode cX2_readNumber 20 = .ok (.ifCond .ne 36, 3) := by decide +kernel
theorem dX2_readNumber_23 : decode cX2_readNumber 23 = .ok (.aload_n 0, 1) := by decide +kernel
theorem dX2_readNumber_24 : decode cX2_readNumber 24 = .ok (.bipush 48, 2) := by decide +kernel
theorem dX2_readNumber_26 : decode cX2_readNumber 26 = .ok (.bipush 57, 2) := by decide +kernel
theorem dX2_readNumber_28 : decode cX2_readNumber 28 = .ok (.invokevirtual 31, 3) := by decide +kernel
theorem dX2_readNumber_31 : decode cX2_readNumber 31 = .ok (.ifCond .eq 25, 3) := by decide +kernel
theorem dX2_readNumber_34 : decode cX2_readNumber 34 = .ok (.aload_n 0, 1) := by decide +kernel
theorem dX2_readNumber_35 : decode cX2_readNumber 35 = .ok (.bipush 10, 2) := by decide +kernel
theorem dX2_readNumber_37 : decode cX2_readNumber 37 = .ok (.aload_n 0, 1) := by decide +kernel
theorem dX2_readNumber_38 : decode cX2_readNumber 38 = .ok (.getfield 22, 3) := by decide +kernel
theorem dX2_readNumber_41 : decode cX2_readNumber 41 = .ok (.imul, 1) := by decide +kernel
theorem dX2_readNumber_42 : decode cX2_readNumber 42 = .ok (.aload_n 0, 1) := by decide +kernel
theorem dX2_readNumber_43 : decode cX2_readNumber 43 = .ok (.invokevirtual 53, 3) := by decide +kernel
theorem dX2_readNumber_46 : decode cX2_readNumber 46 = .ok (.iadd, 1) := by decide +kernel
theorem dX2_readNumber_47 : decode cX2_readNumber 47 = .ok (.putfield 22, 3) := by decide +kernel
theorem dX2_readNumber_50 : decode cX2_readNumber 50 = .ok (.iinc 1 1, 3) := by decide +kernel
theorem dX2_readNumber_53 : decode cX2_readNumber 53 = .ok (.goto (-43), 3) := by decide +kernel
theorem dX2_readNumber_56 : decode cX2_readNumber 56 = .ok (.return_, 1) := by decide +kernel
theorem dX2_readRow_0 : decode cX2_readRow 0 = .ok (.aload_n 0, 1) := by decide +kernel
theorem dX2_readRow_1 : decode cX2_readRow 1 = .ok (.aload_n 0, 1) := by decide +kernel
theorem dX2_readRow_2 : decode cX2_readRow 2 = .ok (.getfield 42, 3) := by decide +kernel
theorem dX2_readRow_5 : decode cX2_readRow 5 = .ok (.ifCond .ne 14, 3) := by decide +kernel
theorem dX2_readRow_8 : decode cX2_readRow 8 = .ok (.aload_n 0, 1) := by decide +kernel
theorem dX2_readRow_9 : decode cX2_readRow 9 = .ok (.bipush 97, 2) := by decide +kernel
theorem dX2_readRow_11 : decode cX2_readRow 11 = .ok (.bipush 100, 2) := by decide +kernel
theorem dX2_readRow_13 : decode cX2_readRow 13 = .ok (.invokevirtual 31, 3) := by decide +kernel
theorem dX2_readRow_16 : decode cX2_readRow 16 = .ok (.ifCond .ne 7, 3) := by decide +kernel
theorem dX2_readRow_19 : decode cX2_readRow 19 = .ok (.iconst 1, 1) := by decide +kernel
theorem dX2_readRow_20 : decode cX2_readRow 20 = .ok (.goto 4, 3) := by decide +kernel
theorem dX2_readRow_23 : decode cX2_readRow 23 = .ok (.iconst 0, 1) := by decide +kernel
theorem dX2_readRow_24 : decode cX2_readRow 24 = .ok (.putfield 42, 3) := by decide +kernel
theorem dX2_readRow_27 : decode cX2_readRow 27 = .ok (.iconst 0, 1) := by decide +kernel
theorem dX2_readRow_28 : decode cX2_readRow 28 = .ok (.istore_n 1, 1) := by decide +kernel
theorem dX2_readRow_29 : decode cX2_readRow 29 = .ok (.iload_n 1, 1) := by decide +kernel
theorem dX2_readRow_30 : decode cX2_readRow 30 = .ok (.bipush 10, 2) := by decide +kernel
theorem dX2_readRow_32 : decode cX2_readRow 32 = .ok (.if_icmp .ge 59, 3) := by decide +kernel
theorem dX2_readRow_35 : decode cX2_readRow 35 = .ok (.aload_n 0, 1) := by decide +kernel
theorem dX2_readRow_36 : decode cX2_readRow 36 = .ok (.getfield 42, 3) := by decide +kernel
theorem dX2_readRow_39 : decode cX2_readRow 39 = .ok (.ifCond .ne 52, 3) := by decide +kernel
theorem dX2_readRow_42 : decode cX2_readRow 42 = .ok (.aload_n 0, 1) := by decide +kernel
theorem dX2_readRow_43 : decode cX2_readRow 43 = .ok (.bipush 97, 2) := by decide +kernel
theorem dX2_readRow_45 : decode cX2_readRow 45 = .ok (.bipush 100, 2) := by decide +kernel
theorem dX2_readRow_47 : decode cX2_readRow 47 = .ok (.invokevirtual 31, 3) := by decide +kernel
theorem dX2_readRow_50 : decode cX2_readRow 50 = .ok (.ifCond .eq 41, 3) := by decide +kernel
theorem dX2_readRow_53 : decode cX2_readRow 53 = .ok (.aload_n 0, 1) := by decide +kernel
theorem dX2_readRow_54 : decode cX2_readRow 54 = .ok (.aload_n 0, 1) := by decide +kernel
theorem dX2_readRow_55 : decode cX2_readRow 55 = .ok (.getfield 25, 3) := by decide +kernel
theorem dX2_readRow_58 : decode cX2_readRow 58 = .ok (.aload_n 0, 1) := by decide +kernel
theorem dX2_readRow_59 : decode cX2_readRow 59 = .ok (.aload_n 0, 1) := by decide +kernel
theorem dX2_readRow_60 : decode cX2_readRow 60 = .ok (.getfield 28, 3) := by decide +kernel
theorem dX2_readRow_63 : decode cX2_readRow 63 = .ok (.invokevirtual 60, 3) := by decide +kernel
theorem dX2_readRow_66 : decode cX2_readRow 66 = .ok (.bipush 97, 2) := by decide +kernel
theorem dX2_readRow_68 : decode cX2_readRow 68 = .ok (.isub, 1) := by decide +kernel
theorem dX2_readRow_69 : decode cX2_readRow 69 = .ok (.invokestatic 85, 3) := by decide +kernel
theorem dX2_readRow_72 : decode cX2_readRow 72 = .ok (.putfield 25, 3) := by decide +kernel
theorem dX2_readRow_75 : decode cX2_readRow 75 = .ok (.aload_n 0, 1) := by decide +kernel
theorem dX2_readRow_76 : decode cX2_readRow 76 = .ok (.dup, 1) := by decide +kernel
theorem dX2_readRow_77 : decode cX2_readRow 77 = .ok (.getfield 28, 3) := by decide +kernel
theorem dX2_readRow_80 : decode cX2_readRow 80 = .ok (.iconst 1, 1) := by decide +kernel
theorem dX2_readRow_81 : decode cX2_readRow 81 = .ok (.iadd, 1) := by decide +kernel
theorem dX2_readRow_82 : decode cX2_readRow 82 = .ok (.putfield 28, 3) := by decide +kernel
theorem dX2_readRow_85 : decode cX2_readRow 85 = .ok (.iinc 1 1, 3) := by decide +kernel
theorem dX2_readRow_88 : decode cX2_readRow 88 = .ok (.goto (-59), 3) := by decide +kernel
theorem dX2_readRow_91 : decode cX2_readRow 91 = .ok (.return_, 1) := by decide +kernel
theorem dX3_init_0 : decode cX3_init 0 = .ok (.aload_n 0, 1) := by decide +kernel
theorem dX3_init_1 : decode cX3_init 1 = .ok (.invokespecial 3, 3) := by decide +kernel
theorem dX3_init_4 : decode cX3_init 4 = .ok (.aload_n 0, 1) := by decide +kernel
theorem dX3_init_5 : decode cX3_init 5 = .ok (.new 9, 3) := by decide +kernel
theorem dX3_init_8 : decode cX3_init 8 = .ok (.dup, 1) := by decide +kernel
theorem dX3_init_9 : decode cX3_init 9 = .ok (.invokespecial 11, 3) := by decide +kernel
theorem dX3_init_12 : decode cX3_init 12 = .ok (.putfield 12, 3) := by decide +kernel
theorem dX3_init_15 : decode cX3_init 15 = .ok (.return_, 1) := by decide +kernel
theorem dX3_run_0 : decode cX3_run 0 = .ok (.aload_n 0, 1) := by decide +kernel
theorem dX3_run_1 : decode cX3_run 1 = .ok (.getfield 12, 3) := by decide +kernel
theorem dX3_run_4 : decode cX3_run 4 = .ok (.aload_n 1, 1) := by decide +kernel
theorem dX3_run_5 : decode cX3_run 5 = .ok (.invokevirtual 18, 3) := by decide +kernel
theorem dX3_run_8 : decode cX3_run 8 = .ok (.aload_n 0, 1) := by decide +kernel
theorem dX3_run_9 : decode cX3_run 9 = .ok (.iconst 0, 1) := by decide +kernel
theorem dX3_run_10 : decode cX3_run 10 = .ok (.putfield 22, 3) := by decide +kernel
theorem dX3_run_13 : decode cX3_run 13 = .ok (.aload_n 0, 1) := by decide +kernel
theorem dX3_run_14 : decode cX3_run 14 = .ok (.iconst 0, 1) := by decide +kernel
theorem dX3_run_15 : decode cX3_run 15 = .ok (.putfield 26, 3) := by decide +kernel
theorem dX3_run_18 : decode cX3_run 18 = .ok (.aload_n 0, 1) := by decide +kernel
theorem dX3_run_19 : decode cX3_run 19 = .ok (.iconst 0, 1) := by decide +kernel
theorem dX3_run_20 : decode cX3_run 20 = .ok (.putfield 29, 3) := by decide +kernel
theorem dX3_run_23 : decode cX3_run 23 = .ok (.aload_n 0, 1) := by decide +kernel
theorem dX3_run_24 : decode cX3_run 24 = .ok (.iconst 0, 1) := by decide +kernel
theorem dX3_run_25 : decode cX3_run 25 = .ok (.putfield 32, 3) := by decide +kernel
theorem dX3_run_28 : decode cX3_run 28 = .ok (.iconst 0, 1) := by decide +kernel
theorem dX3_run_29 : decode cX3_run 29 = .ok (.istore 4, 2) := by decide +kernel
theorem dX3_run_31 : decode cX3_run 31 = .ok (.iload 4, 2) := by decide +kernel
theorem dX3_run_33 : decode cX3_run 33 = .ok (.bipush 60, 2) := by decide +kernel
theorem dX3_run_35 : decode cX3_run 35 = .ok (.if_icmp .ge 120, 3) := by decide +kernel
theorem dX3_run_38 : decode cX3_run 38 = .ok (.aload_n 0, 1) := by decide +kernel
theorem dX3_run_39 : decode cX3_run 39 = .ok (.getfield 26, 3) := by decide +kernel
theorem dX3_run_42 : decode cX3_run 42 = .ok (.aload_n 2, 1) := by decide +kernel
theorem dX3_run_43 : decode cX3_run 43 = .ok (.getfield 35, 3) := by decide +kernel
theorem dX3_run_46 : decode cX3_run 46 = .ok (.if_icmp .ge 109, 3) := by decide +kernel
theorem dX3_run_49 : decode cX3_run 49 = .ok (.aload_n 2, 1) := by decide +kernel
theorem dX3_run_50 : decode cX3_run 50 = .ok (.aload_n 0, 1) := by decide +kernel
theorem dX3_run_51 : decode cX3_run 51 = .ok (.getfield 26, 3) := by decide +kernel
theorem dX3_run_54 : decode cX3_run 54 = .ok (.invokevirtual 40, 3) := by decide +kernel
theorem dX3_run_57 : decode cX3_run 57 = .ok (.aload_n 2, 1) := by decide +kernel
theorem dX3_run_58 : decode cX3_run 58 = .ok (.getfield 44, 3) := by decide +kernel
theorem dX3_run_61 : decode cX3_run 61 = .ok (.ifCond .eq 33, 3) := by decide +kernel
theorem dX3_run_64 : decode cX3_run 64 = .ok (.aload_n 0, 1) := by decide +kernel
theorem dX3_run_65 : decode cX3_run 65 = .ok (.iconst 1, 1) := by decide +kernel
theorem dX3_run_66 : decode cX3_run 66 = .ok (.putfield 29, 3) := by decide +kernel
theorem dX3_run_69 : decode cX3_run 69 = .ok (.aload_n 0, 1) := by decide +kernel
theorem dX3_run_70 : decode cX3_run 70 = .ok (.aload_n 2, 1) := by decide +kernel
theorem dX3_run_71 : decode cX3_run 71 = .ok (.getfield 48, 3) := by decide +kernel
theorem dX3_run_74 : decode cX3_run 74 = .ok (.ifCond .ne 7, 3) := by decide +kernel
theorem dX3_run_77 : decode cX3_run 77 = .ok (.iconst 0, 1) := by decide +kernel
theorem dX3_run_78 : decode cX3_run 78 = .ok (.goto 12, 3) := by decide +kernel
theorem dX3_run_81 : decode cX3_run 81 = .ok (.aload_n 2, 1) := by decide +kernel
theorem dX3_run_82 : decode cX3_run 82 = .ok (.getfield 51, 3) := by decide +kernel
theorem dX3_run_85 : decode cX3_run 85 = .ok (.aload_n 0, 1) := by decide +kernel
theorem dX3_run_86 : decode cX3_run 86 = .ok (.getfield 26, 3) := by decide +kernel
theorem dX3_run_89 : decode cX3_run 89 = .ok (.isub, 1) := by decide +kernel
theorem dX3_run_90 : decode cX3_run 90 = .ok (.putfield 32, 3) := by decide +kernel
theorem dX3_run_93 : decode cX3_run 93 = .ok (.return_, 1) := by decide +kernel
theorem dX3_run_94 : decode cX3_run 94 = .ok (.aload_n 2, 1) := by decide +kernel
theorem dX3_run_95 : decode cX3_run 95 = .ok (.getfield 54, 3) := by decide +kernel
theorem dX3_run_98 : decode cX3_run 98 = .ok (.iconst 3, 1) := by decide +kernel
theorem dX3_run_99 : decode cX3_run 99 = .ok (.if_icmp .le 9, 3) := by decide +kernel
theorem dX3_run_102 : decode cX3_run 102 = .ok (.aload_n 0, 1) := by decide +kernel
theorem dX3_run_103 : decode cX3_run 103 = .ok (.iconst 2, 1) := by decide +kernel
theorem dX3_run_104 : decode cX3_run 104 = .ok (.putfield 29, 3) := by decide +kernel
theorem dX3_run_107 : decode cX3_run 107 = .ok (.return_, 1) := by decide +kernel
theorem dX3_run_108 : decode cX3_run 108 = .ok (.aload_n 0, 1) := by decide +kernel
theorem dX3_run_109 : decode cX3_run 109 = .ok (.aload_n 0, 1) := by decide +kernel
theorem dX3_run_110 : decode cX3_run 110 = .ok (.aload_n 2, 1) := by decide +kernel
theorem dX3_run_111 : decode cX3_run 111 = .ok (.aload_n 3, 1) := by decide +kernel
theorem dX3_run_112 : decode cX3_run 112 = .ok (.invokevirtual 57, 3) := by decide +kernel
theorem dX3_run_115 : decode cX3_run 115 = .ok (.putfield 32, 3) := by decide +kernel
theorem dX3_run_118 : decode cX3_run 118 = .ok (.aload_n 0, 1) := by decide +kernel
theorem dX3_run_119 : decode cX3_run 119 = .ok (.getfield 32, 3) := by decide +kernel
theorem dX3_run_122 : decode cX3_run 122 = .ok (.ifCond .eq 9, 3) := by decide +kernel
theorem dX3_run_125 : decode cX3_run 125 = .ok (.aload_n 0, 1) := by decide +kernel
theorem dX3_run_126 : decode cX3_run 126 = .ok (.iconst 3, 1) := by decide +kernel
theorem dX3_run_127 : decode cX3_run 127 = .ok (.putfield 29, 3) := by decide +kernel
theorem dX3_run_130 : decode cX3_run 130 = .ok (.return_, 1) := by decide +kernel
theorem dX3_run_131 : decode cX3_run 131 = .ok (.aload_n 0, 1) := by decide +kernel
theorem dX3_run_132 : decode cX3_run 132 = .ok (.dup, 1) := by decide +kernel
theorem dX3_run_133 : decode cX3_run 133 = .ok (.getfield 22, 3) := by decide +kernel
theorem dX3_run_136 : decode cX3_run 136 = .ok (.iconst 1, 1) := by decide +kernel
theorem dX3_run_137 : decode cX3_run 137 = .ok (.iadd, 1) := by decide +kernel
theorem dX3_run_138 : decode cX3_run 138 = .ok (.putfield 22, 3) := by decide +kernel
theorem dX3_run_141 : decode cX3_run 141 = .ok (.aload_n 0, 1) := by decide +kernel
theorem dX3_run_142 : decode cX3_run 142 = .ok (.aload_n 2, 1) := by decide +kernel
theorem dX3_run_143 : decode cX3_run 143 = .ok (.getfield 51, 3) := by decide +kernel
theorem dX3_run_146 : decode cX3_run 146 = .ok (.putfield 26, 3) := by decide +kernel
theorem dX3_run_149 : decode cX3_run 149 = .ok (.iinc 4 1, 3) := by decide +kernel
theorem dX3_run_152 : decode cX3_run 152 = .ok (.goto (-121), 3) := by decide +kernel
theorem dX3_run_155 : decode cX3_run 155 = .ok (.return_, 1) := by decide +kernel
theorem dX3_carryOut_0 : decode cX3_carryOut 0 = .ok (.aload_n 1, 1) := by decide +kernel
theorem dX3_carryOut_1 : decode cX3_carryOut 1 = .ok (.getfield 48, 3) := by decide +kernel
theorem dX3_carryOut_4 : decode cX3_carryOut 4 = .ok (.tableswitch 87 1 5 #[36, 49, 87, 87, 82], 36) := by decide +kernel
theorem dX3_carryOut_40 : decode cX3_carryOut 40 = .ok (.aload_n 0, 1) := by decide +kernel
theorem dX3_carryOut_41 : decode cX3_carryOut 41 = .ok (.getfield 12, 3) := by decide +kernel
theorem dX3_carryOut_44 : decode cX3_carryOut 44 = .ok (.aload_n 1, 1) := by decide +kernel
theorem dX3_carryOut_45 : decode cX3_carryOut 45 = .ok (.getfield 61, 3) := by decide +kernel
theorem dX3_carryOut_48 : decode cX3_carryOut 48 = .ok (.putfield 64, 3) := by decide +kernel
theorem dX3_carryOut_51 : decode cX3_carryOut 51 = .ok (.iconst 0, 1) := by decide +kernel
theorem dX3_carryOut_52 : decode cX3_carryOut 52 = .ok (.ireturn, 1) := by decide +kernel
theorem dX3_carryOut_53 : decode cX3_carryOut 53 = .ok (.aload_n 0, 1) := by decide +kernel
theorem dX3_carryOut_54 : decode cX3_carryOut 54 = .ok (.getfield 12, 3) := by decide +kernel
theorem dX3_carryOut_57 : decode cX3_carryOut 57 = .ok (.aload_n 0, 1) := by decide +kernel
theorem dX3_carryOut_58 : decode cX3_carryOut 58 = .ok (.getfield 12, 3) := by decide +kernel
theorem dX3_carryOut_61 : decode cX3_carryOut 61 = .ok (.getfield 64, 3) := by decide +kernel
theorem dX3_carryOut_64 : decode cX3_carryOut 64 = .ok (.invokestatic 65, 3) := by decide +kernel
theorem dX3_carryOut_67 : decode cX3_carryOut 67 = .ok (.putfield 64, 3) := by decide +kernel
theorem dX3_carryOut_70 : decode cX3_carryOut 70 = .ok (.aload_n 0, 1) := by decide +kernel
theorem dX3_carryOut_71 : decode cX3_carryOut 71 = .ok (.getfield 12, 3) := by decide +kernel
theorem dX3_carryOut_74 : decode cX3_carryOut 74 = .ok (.getfield 64, 3) := by decide +kernel
theorem dX3_carryOut_77 : decode cX3_carryOut 77 = .ok (.ifCond .ne 7, 3) := by decide +kernel
theorem dX3_carryOut_80 : decode cX3_carryOut 80 = .ok (.iconst 3, 1) := by decide +kernel
theorem dX3_carryOut_81 : decode cX3_carryOut 81 = .ok (.goto 4, 3) := by decide +kernel
theorem dX3_carryOut_84 : decode cX3_carryOut 84 = .ok (.iconst 0, 1) := by decide +kernel
theorem dX3_carryOut_85 : decode cX3_carryOut 85 = .ok (.ireturn, 1) := by decide +kernel
theorem dX3_carryOut_86 : decode cX3_carryOut 86 = .ok (.aload_n 0, 1) := by decide +kernel
theorem dX3_carryOut_87 : decode cX3_carryOut 87 = .ok (.invokevirtual 69, 3) := by decide +kernel
theorem dX3_carryOut_90 : decode cX3_carryOut 90 = .ok (.ireturn, 1) := by decide +kernel
theorem dX3_carryOut_91 : decode cX3_carryOut 91 = .ok (.aload_n 2, 1) := by decide +kernel
theorem dX3_carryOut_92 : decode cX3_carryOut 92 = .ok (.aload_n 0, 1) := by decide +kernel
theorem dX3_carryOut_93 : decode cX3_carryOut 93 = .ok (.getfield 12, 3) := by decide +kernel
theorem dX3_carryOut_96 : decode cX3_carryOut 96 = .ok (.aload_n 1, 1) := by decide +kernel
theorem dX3_carryOut_97 : decode cX3_carryOut 97 = .ok (.getfield 54, 3) := by decide +kernel
theorem dX3_carryOut_100 : decode cX3_carryOut 100 = .ok (.invokevirtual 73, 3) := by decide +kernel
theorem dX3_carryOut_103 : decode cX3_carryOut 103 = .ok (.aload_n 1, 1) := by decide +kernel
theorem dX3_carryOut_104 : decode cX3_carryOut 104 = .ok (.getfield 48, 3) := by decide +kernel
theorem dX3_carryOut_107 : decode cX3_carryOut 107 = .ok (.iconst 3, 1) := by decide +kernel
theorem dX3_carryOut_108 : decode cX3_carryOut 108 = .ok (.if_icmp .ne 12, 3) := by decide +kernel
theorem dX3_carryOut_111 : decode cX3_carryOut 111 = .ok (.aload_n 2, 1) := by decide +kernel
theorem dX3_carryOut_112 : decode cX3_carryOut 112 = .ok (.invokevirtual 79, 3) := by decide +kernel
theorem dX3_carryOut_115 : decode cX3_carryOut 115 = .ok (.iconst 1, 1) := by decide +kernel
theorem dX3_carryOut_116 : decode cX3_carryOut 116 = .ok (.iadd, 1) := by decide +kernel
theorem dX3_carryOut_117 : decode cX3_carryOut 117 = .ok (.goto 7, 3) := by decide +kernel
theorem dX3_carryOut_120 : decode cX3_carryOut 120 = .ok (.aload_n 1, 1) := by decide +kernel
theorem dX3_carryOut_121 : decode cX3_carryOut 121 = .ok (.getfield 82, 3) := by decide +kernel
theorem dX3_carryOut_124 : decode cX3_carryOut 124 = .ok (.istore_n 3, 1) := by decide +kernel
theorem dX3_carryOut_125 : decode cX3_carryOut 125 = .ok (.iload_n 3, 1) := by decide +kernel
theorem dX3_carryOut_126 : decode cX3_carryOut 126 = .ok (.aload_n 2, 1) := by decide +kernel
theorem dX3_carryOut_127 : decode cX3_carryOut 127 = .ok (.invokevirtual 85, 3) := by decide +kernel
theorem dX3_carryOut_130 : decode cX3_carryOut 130 = .ok (.if_icmp .lt 5, 3) := by decide +kernel
theorem dX3_carryOut_133 : decode cX3_carryOut 133 = .ok (.iconst 1, 1) := by decide +kernel
theorem dX3_carryOut_134 : decode cX3_carryOut 134 = .ok (.ireturn, 1) := by decide +kernel
theorem dX3_carryOut_135 : decode cX3_carryOut 135 = .ok (.aload_n 0, 1) := by decide +kernel
theorem dX3_carryOut_136 : decode cX3_carryOut 136 = .ok (.getfield 12, 3) := by decide +kernel
theorem dX3_carryOut_139 : decode cX3_carryOut 139 = .ok (.aload_n 2, 1) := by decide +kernel
theorem dX3_carryOut_140 : decode cX3_carryOut 140 = .ok (.iload_n 3, 1) := by decide +kernel
theorem dX3_carryOut_141 : decode cX3_carryOut 141 = .ok (.invokevirtual 88, 3) := by decide +kernel
theorem dX3_carryOut_144 : decode cX3_carryOut 144 = .ok (.putfield 64, 3) := by decide +kernel
theorem dX3_carryOut_147 : decode cX3_carryOut 147 = .ok (.iconst 0, 1) := by decide +kernel
theorem dX3_carryOut_148 : decode cX3_carryOut 148 = .ok (.ireturn, 1) := by decide +kernel
theorem dX3_putIntoBook_0 : decode cX3_putIntoBook 0 = .ok (.aload_n 0, 1) := by decide +kernel
theorem dX3_putIntoBook_1 : decode cX3_putIntoBook 1 = .ok (.getfield 12, 3) := by decide +kernel
theorem dX3_putIntoBook_4 : decode cX3_putIntoBook 4 = .ok (.getfield 91, 3) := by decide +kernel
theorem dX3_putIntoBook_7 : decode cX3_putIntoBook 7 = .ok (.bipush 8, 2) := by decide +kernel
theorem dX3_putIntoBook_9 : decode cX3_putIntoBook 9 = .ok (.if_icmp .lt 5, 3) := by decide +kernel
theorem dX3_putIntoBook_12 : decode cX3_putIntoBook 12 = .ok (.iconst 2, 1) := by decide +kernel
theorem dX3_putIntoBook_13 : decode cX3_putIntoBook 13 = .ok (.ireturn, 1) := by decide +kernel
theorem dX3_putIntoBook_14 : decode cX3_putIntoBook 14 = .ok (.aload_n 0, 1) := by decide +kernel
theorem dX3_putIntoBook_15 : decode cX3_putIntoBook 15 = .ok (.getfield 12, 3) := by decide +kernel
theorem dX3_putIntoBook_18 : decode cX3_putIntoBook 18 = .ok (.getfield 64, 3) := by decide +kernel
theorem dX3_putIntoBook_21 : decode cX3_putIntoBook 21 = .ok (.ifCond .ne 5, 3) := by decide +kernel
theorem dX3_putIntoBook_24 : decode cX3_putIntoBook 24 = .ok (.iconst 3, 1) := by decide +kernel
theorem dX3_putIntoBook_25 : decode cX3_putIntoBook 25 = .ok (.ireturn, 1) := by decide +kernel
theorem dX3_putIntoBook_26 : decode cX3_putIntoBook 26 = .ok (.aload_n 0, 1) := by decide +kernel
theorem dX3_putIntoBook_27 : decode cX3_putIntoBook 27 = .ok (.getfield 12, 3) := by decide +kernel
theorem dX3_putIntoBook_30 : decode cX3_putIntoBook 30 = .ok (.invokevirtual 94, 3) := by decide +kernel
theorem dX3_putIntoBook_33 : decode cX3_putIntoBook 33 = .ok (.iconst 0, 1) := by decide +kernel
theorem dX3_putIntoBook_34 : decode cX3_putIntoBook 34 = .ok (.ireturn, 1) := by decide +kernel
theorem dX4_init_0 : decode cX4_init 0 = .ok (.aload_n 0, 1) := by decide +kernel
theorem dX4_init_1 : decode cX4_init 1 = .ok (.invokespecial 3, 3) := by decide +kernel
theorem dX4_init_4 : decode cX4_init 4 = .ok (.aload_n 0, 1) := by decide +kernel
theorem dX4_init_5 : decode cX4_init 5 = .ok (.bipush 16, 2) := by decide +kernel
theorem dX4_init_7 : decode cX4_init 7 = .ok (.newarray .int, 2) := by decide +kernel
theorem dX4_init_9 : decode cX4_init 9 = .ok (.putfield 9, 3) := by decide +kernel
theorem dX4_init_12 : decode cX4_init 12 = .ok (.aload_n 0, 1) := by decide +kernel
theorem dX4_init_13 : decode cX4_init 13 = .ok (.bipush 16, 2) := by decide +kernel
theorem dX4_init_15 : decode cX4_init 15 = .ok (.newarray .int, 2) := by decide +kernel
theorem dX4_init_17 : decode cX4_init 17 = .ok (.putfield 15, 3) := by decide +kernel
theorem dX4_init_20 : decode cX4_init 20 = .ok (.aload_n 0, 1) := by decide +kernel
theorem dX4_init_21 : decode cX4_init 21 = .ok (.sipush 577, 3) := by decide +kernel
theorem dX4_init_24 : decode cX4_init 24 = .ok (.newarray .int, 2) := by decide +kernel
theorem dX4_init_26 : decode cX4_init 26 = .ok (.putfield 18, 3) := by decide +kernel
theorem dX4_init_29 : decode cX4_init 29 = .ok (.aload_n 0, 1) := by decide +kernel
theorem dX4_init_30 : decode cX4_init 30 = .ok (.sipush 6347, 3) := by decide +kernel
theorem dX4_init_33 : decode cX4_init 33 = .ok (.newarray .int, 2) := by decide +kernel
theorem dX4_init_35 : decode cX4_init 35 = .ok (.putfield 21, 3) := by decide +kernel
theorem dX4_init_38 : decode cX4_init 38 = .ok (.return_, 1) := by decide +kernel
theorem dX4_open_0 : decode cX4_open 0 = .ok (.aload_n 0, 1) := by decide +kernel
theorem dX4_open_1 : decode cX4_open 1 = .ok (.aconst_null, 1) := by decide +kernel
theorem dX4_open_2 : decode cX4_open 2 = .ok (.putfield 24, 3) := by decide +kernel
theorem dX4_open_5 : decode cX4_open 5 = .ok (.aload_n 0, 1) := by decide +kernel
theorem dX4_open_6 : decode cX4_open 6 = .ok (.iload_n 2, 1) := by decide +kernel
theorem dX4_open_7 : decode cX4_open 7 = .ok (.invokestatic 28, 3) := by decide +kernel
theorem dX4_open_10 : decode cX4_open 10 = .ok (.putfield 32, 3) := by decide +kernel
theorem dX4_open_13 : decode cX4_open 13 = .ok (.aload_n 0, 1) := by decide +kernel
theorem dX4_open_14 : decode cX4_open 14 = .ok (.iload_n 2, 1) := by decide +kernel
theorem dX4_open_15 : decode cX4_open 15 = .ok (.invokestatic 36, 3) := by decide +kernel
theorem dX4_open_18 : decode cX4_open 18 = .ok (.putfield 39, 3) := by decide +kernel
theorem dX4_open_21 : decode cX4_open 21 = .ok (.aload_n 0, 1) := by decide +kernel
theorem dX4_open_22 : decode cX4_open 22 = .ok (.aload_n 1, 1) := by decide +kernel
theorem dX4_open_23 : decode cX4_open 23 = .ok (.invokevirtual 42, 3) := by decide +kernel
theorem dX4_open_26 : decode cX4_open 26 = .ok (.aload_n 0, 1) := by decide +kernel
theorem dX4_open_27 : decode cX4_open 27 = .ok (.aload_n 0, 1) := by decide +kernel
theorem dX4_open_28 : decode cX4_open 28 = .ok (.getfield 46, 3) := by decide +kernel
theorem dX4_open_31 : decode cX4_open 31 = .ok (.iconst 0, 1) := by decide +kernel
theorem dX4_open_32 : decode cX4_open 32 = .ok (.iconst 0, 1) := by decide +kernel
theorem dX4_open_33 : decode cX4_open 33 = .ok (.invokestatic 50, 3) := by decide +kernel
theorem dX4_open_36 : decode cX4_open 36 = .ok (.return_, 1) := by decide +kernel
theorem dX4_openBoth_0 : decode cX4_openBoth 0 = .ok (.aload_n 0, 1) := by decide +kernel
theorem dX4_openBoth_1 : decode cX4_openBoth 1 = .ok (.aconst_null, 1) := by decide +kernel
theorem dX4_openBoth_2 : decode cX4_openBoth 2 = .ok (.putfield 24, 3) := by decide +kernel
theorem dX4_openBoth_5 : decode cX4_openBoth 5 = .ok (.aload_n 0, 1) := by decide +kernel
theorem dX4_openBoth_6 : decode cX4_openBoth 6 = .ok (.iload_n 2, 1) := by decide +kernel
theorem dX4_openBoth_7 : decode cX4_openBoth 7 = .ok (.invokestatic 28, 3) := by decide +kernel
theorem dX4_openBoth_10 : decode cX4_openBoth 10 = .ok (.ifCond .ne 10, 3) := by decide +kernel
theorem dX4_openBoth_13 : decode cX4_openBoth 13 = .ok (.iload_n 3, 1) := by decide +kernel
theorem dX4_openBoth_14 : decode cX4_openBoth 14 = .ok (.invokestatic 28, 3) := by decide +kernel
theorem dX4_openBoth_17 : decode cX4_openBoth 17 = .ok (.ifCond .eq 7, 3) := by decide +kernel
theorem dX4_openBoth_20 : decode cX4_openBoth 20 = .ok (.iconst 1, 1) := by decide +kernel
theorem dX4_openBoth_21 : decode cX4_openBoth 21 = .ok (.goto 4, 3) := by decide +kernel
theorem dX4_openBoth_24 : decode cX4_openBoth 24 = .ok (.iconst 0, 1) := by decide +kernel
theorem dX4_openBoth_25 : decode cX4_openBoth 25 = .ok (.putfield 32, 3) := by decide +kernel
theorem dX4_openBoth_28 : decode cX4_openBoth 28 = .ok (.aload_n 0, 1) := by decide +kernel
theorem dX4_openBoth_29 : decode cX4_openBoth 29 = .ok (.iload_n 2, 1) := by decide +kernel
theorem dX4_openBoth_30 : decode cX4_openBoth 30 = .ok (.invokestatic 36, 3) := by decide +kernel
theorem dX4_openBoth_33 : decode cX4_openBoth 33 = .ok (.ifCond .ne 10, 3) := by decide +kernel
theorem dX4_openBoth_36 : decode cX4_openBoth 36 = .ok (.iload_n 3, 1) := by decide +kernel
theorem dX4_openBoth_37 : decode cX4_openBoth 37 = .ok (.invokestatic 36, 3) := by decide +kernel
theorem dX4_openBoth_40 : decode cX4_openBoth 40 = .ok (.ifCond .eq 7, 3) := by decide +kernel
theorem dX4_openBoth_43 : decode cX4_openBoth 43 = .ok (.iconst 1, 1) := by decide +kernel
theorem dX4_openBoth_44 : decode cX4_openBoth 44 = .ok (.goto 4, 3) := by decide +kernel
theorem dX4_openBoth_47 : decode cX4_openBoth 47 = .ok (.iconst 0, 1) := by decide +kernel
theorem dX4_openBoth_48 : decode cX4_openBoth 48 = .ok (.putfield 39, 3) := by decide +kernel
theorem dX4_openBoth_51 : decode cX4_openBoth 51 = .ok (.aload_n 0, 1) := by decide +kernel
theorem dX4_openBoth_52 : decode cX4_openBoth 52 = .ok (.aload_n 1, 1) := by decide +kernel
theorem dX4_openBoth_53 : decode cX4_openBoth 53 = .ok (.invokevirtual 42, 3) := by decide +kernel
theorem dX4_openBoth_56 : decode cX4_openBoth 56 = .ok (.aload_n 0, 1) := by decide +kernel
theorem dX4_openBoth_57 : decode cX4_openBoth 57 = .ok (.aload_n 0, 1) := by decide +kernel
theorem dX4_openBoth_58 : decode cX4_openBoth 58 = .ok (.getfield 46, 3) := by decide +kernel
theorem dX4_openBoth_61 : decode cX4_openBoth 61 = .ok (.iconst 0, 1) := by decide +kernel
theorem dX4_openBoth_62 : decode cX4_openBoth 62 = .ok (.iconst 0, 1) := by decide +kernel
theorem dX4_openBoth_63 : decode cX4_openBoth 63 = .ok (.invokestatic 50, 3) := by decide +kernel
theorem dX4_openBoth_66 : decode cX4_openBoth 66 = .ok (.return_, 1) := by decide +kernel
theorem dX4_openMeasured_0 : decode cX4_openMeasured 0 = .ok (.aload_n 0, 1) := by decide +kernel
theorem dX4_openMeasured_1 : decode cX4_openMeasured 1 = .ok (.aload_n 3, 1) := by decide +kernel
theorem dX4_openMeasured_2 : decode cX4_openMeasured 2 = .ok (.putfield 24, 3) := by decide +kernel
theorem dX4_openMeasured_5 : decode cX4_openMeasured 5 = .ok (.aload_n 0, 1) := by decide +kernel
theorem dX4_openMeasured_6 : decode cX4_openMeasured 6 = .ok (.iload_n 2, 1) := by decide +kernel
theorem dX4_openMeasured_7 : decode cX4_openMeasured 7 = .ok (.invokestatic 28, 3) := by decide +kernel
theorem dX4_openMeasured_10 : decode cX4_openMeasured 10 = .ok (.putfield 32, 3) := by decide +kernel
theorem dX4_openMeasured_13 : decode cX4_openMeasured 13 = .ok (.aload_n 0, 1) := by decide +kernel
theorem dX4_openMeasured_14 : decode cX4_openMeasured 14 = .ok (.iload_n 2, 1) := by decide +kernel
theorem dX4_openMeasured_15 : decode cX4_openMeasured 15 = .ok (.invokestatic 36, 3) := by decide +kernel
theorem dX4_openMeasured_18 : decode cX4_openMeasured 18 = .ok (.putfield 39, 3) := by decide +kernel
theorem dX4_openMeasured_21 : decode cX4_openMeasured 21 = .ok (.aload_n 0, 1) := by decide +kernel
theorem dX4_openMeasured_22 : decode cX4_openMeasured 22 = .ok (.aload_n 1, 1) := by decide +kernel
theorem dX4_openMeasured_23 : decode cX4_openMeasured 23 = .ok (.invokevirtual 42, 3) := by decide +kernel
theorem dX4_openMeasured_26 : decode cX4_openMeasured 26 = .ok (.aload_n 0, 1) := by decide +kernel
theorem dX4_openMeasured_27 : decode cX4_openMeasured 27 = .ok (.aload_n 0, 1) := by decide +kernel
theorem dX4_openMeasured_28 : decode cX4_openMeasured 28 = .ok (.getfield 46, 3) := by decide +kernel
theorem dX4_openMeasured_31 : decode cX4_openMeasured 31 = .ok (.iconst 0, 1) := by decide +kernel
theorem dX4_openMeasured_32 : decode cX4_openMeasured 32 = .ok (.iconst 0, 1) := by decide +kernel
theorem dX4_openMeasured_33 : decode cX4_openMeasured 33 = .ok (.invokestatic 50, 3) := by decide +kernel
theorem dX4_openMeasured_36 : decode cX4_openMeasured 36 = .ok (.return_, 1) := by decide +kernel
theorem dX4_prepare_0 : decode cX4_prepare 0 = .ok (.aload_n 0, 1) := by decide +kernel
theorem dX4_prepare_1 : decode cX4_prepare 1 = .ok (.aload_n 1, 1) := by decide +kernel
theorem dX4_prepare_2 : decode cX4_prepare 2 = .ok (.getfield 54, 3) := by decide +kernel
theorem dX4_prepare_5 : decode cX4_prepare 5 = .ok (.putfield 59, 3) := by decide +kernel
theorem dX4_prepare_8 : decode cX4_prepare 8 = .ok (.aload_n 0, 1) := by decide +kernel
theorem dX4_prepare_9 : decode cX4_prepare 9 = .ok (.aload_n 1, 1) := by decide +kernel
theorem dX4_prepare_10 : decode cX4_prepare 10 = .ok (.getfield 60, 3) := by decide +kernel
theorem dX4_prepare_13 : decode cX4_prepare 13 = .ok (.putfield 63, 3) := by decide +kernel
theorem dX4_prepare_16 : decode cX4_prepare 16 = .ok (.aload_n 0, 1) := by decide +kernel
theorem dX4_prepare_17 : decode cX4_prepare 17 = .ok (.aload_n 0, 1) := by decide +kernel
theorem dX4_prepare_18 : decode cX4_prepare 18 = .ok (.getfield 59, 3) := by decide +kernel
theorem dX4_prepare_21 : decode cX4_prepare 21 = .ok (.invokestatic 64, 3) := by decide +kernel
theorem dX4_prepare_24 : decode cX4_prepare 24 = .ok (.putfield 68, 3) := by decide +kernel
theorem dX4_prepare_27 : decode cX4_prepare 27 = .ok (.aload_n 0, 1) := by decide +kernel
theorem dX4_prepare_28 : decode cX4_prepare 28 = .ok (.aload_n 0, 1) := by decide +kernel
theorem dX4_prepare_29 : decode cX4_prepare 29 = .ok (.getfield 24, 3) := by decide +kernel
theorem dX4_prepare_32 : decode cX4_prepare 32 = .ok (.ifnonnull 7, 3) := by decide +kernel
theorem dX4_prepare_35 : decode cX4_prepare 35 = .ok (.iconst 1, 1) := by decide +kernel
theorem dX4_prepare_36 : decode cX4_prepare 36 = .ok (.goto 14, 3) := by decide +kernel
theorem dX4_prepare_39 : decode cX4_prepare 39 = .ok (.aload_n 0, 1) := by decide +kernel
theorem dX4_prepare_40 : decode cX4_prepare 40 = .ok (.getfield 68, 3) := by decide +kernel
theorem dX4_prepare_43 : decode cX4_prepare 43 = .ok (.iconst 1, 1) := by decide +kernel
theorem dX4_prepare_44 : decode cX4_prepare 44 = .ok (.iadd, 1) := by decide +kernel
theorem dX4_prepare_45 : decode cX4_prepare 45 = .ok (.bipush 11, 2) := by decide +kernel
theorem dX4_prepare_47 : decode cX4_prepare 47 = .ok (.invokestatic 71, 3) := by decide +kernel
theorem dX4_prepare_50 : decode cX4_prepare 50 = .ok (.putfield 77, 3) := by decide +kernel
theorem dX4_prepare_53 : decode cX4_prepare 53 = .ok (.aload_n 0, 1) := by decide +kernel
theorem dX4_prepare_54 : decode cX4_prepare 54 = .ok (.iconst 0, 1) := by decide +kernel
theorem dX4_prepare_55 : decode cX4_prepare 55 = .ok (.putfield 80, 3) := by decide +kernel
theorem dX4_prepare_58 : decode cX4_prepare 58 = .ok (.iconst 1, 1) := by decide +kernel
theorem dX4_prepare_59 : decode cX4_prepare 59 = .ok (.istore_n 2, 1) := by decide +kernel
theorem dX4_prepare_60 : decode cX4_prepare 60 = .ok (.iload_n 2, 1) := by decide +kernel
theorem dX4_prepare_61 : decode cX4_prepare 61 = .ok (.aload_n 0, 1) := by decide +kernel
theorem dX4_prepare_62 : decode cX4_prepare 62 = .ok (.getfield 68, 3) := by decide +kernel
theorem dX4_prepare_65 : decode cX4_prepare 65 = .ok (.if_icmp .ge 32, 3) := by decide +kernel
theorem dX4_prepare_68 : decode cX4_prepare 68 = .ok (.aload_n 0, 1) := by decide +kernel
theorem dX4_prepare_69 : decode cX4_prepare 69 = .ok (.aload_n 0, 1) := by decide +kernel
theorem dX4_prepare_70 : decode cX4_prepare 70 = .ok (.getfield 80, 3) := by decide +kernel
theorem dX4_prepare_73 : decode cX4_prepare 73 = .ok (.aload_n 0, 1) := by decide +kernel
theorem dX4_prepare_74 : decode cX4_prepare 74 = .ok (.getfield 63, 3) := by decide +kernel
theorem dX4_prepare_77 : decode cX4_prepare 77 = .ok (.aload_n 0, 1) := by decide +kernel
theorem dX4_prepare_78 : decode cX4_prepare 78 = .ok (.getfield 59, 3) := by decide +kernel
theorem dX4_prepare_81 : decode cX4_prepare 81 = .ok (.iload_n 2, 1) := by decide +kernel
theorem dX4_prepare_82 : decode cX4_prepare 82 = .ok (.invokestatic 83, 3) := by decide +kernel
theorem dX4_prepare_85 : decode cX4_prepare 85 = .ok (.invokestatic 87, 3) := by decide +kernel
theorem dX4_prepare_88 : decode cX4_prepare 88 = .ok (.putfield 80, 3) := by decide +kernel
theorem dX4_prepare_91 : decode cX4_prepare 91 = .ok (.iinc 2 2, 3) := by decide +kernel
theorem dX4_prepare_94 : decode cX4_prepare 94 = .ok (.goto (-34), 3) := by decide +kernel
theorem dX4_prepare_97 : decode cX4_prepare 97 = .ok (.aload_n 0, 1) := by decide +kernel
theorem dX4_prepare_98 : decode cX4_prepare 98 = .ok (.invokevirtual 90, 3) := by decide +kernel
theorem dX4_prepare_101 : decode cX4_prepare 101 = .ok (.aload_n 0, 1) := by decide +kernel
theorem dX4_prepare_102 : decode cX4_prepare 102 = .ok (.invokevirtual 93, 3) := by decide +kernel
theorem dX4_prepare_105 : decode cX4_prepare 105 = .ok (.aload_n 0, 1) := by decide +kernel
theorem dX4_prepare_106 : decode cX4_prepare 106 = .ok (.getfield 18, 3) := by decide +kernel
theorem dX4_prepare_109 : decode cX4_prepare 109 = .ok (.iconst 0, 1) := by decide +kernel
theorem dX4_prepare_110 : decode cX4_prepare 110 = .ok (.invokestatic 96, 3) := by decide +kernel
theorem dX4_prepare_113 : decode cX4_prepare 113 = .ok (.return_, 1) := by decide +kernel
theorem dX4_countStock_0 : decode cX4_countStock 0 = .ok (.aload_n 0, 1) := by decide +kernel
theorem dX4_countStock_1 : decode cX4_countStock 1 = .ok (.getfield 9, 3) := by decide +kernel
theorem dX4_countStock_4 : decode cX4_countStock 4 = .ok (.iconst 0, 1) := by decide +kernel
theorem dX4_countStock_5 : decode cX4_countStock 5 = .ok (.invokestatic 96, 3) := by decide +kernel
theorem dX4_countStock_8 : decode cX4_countStock 8 = .ok (.aload_n 0, 1) := by decide +kernel
theorem dX4_countStock_9 : decode cX4_countStock 9 = .ok (.getfield 32, 3) := by decide +kernel
theorem dX4_countStock_12 : decode cX4_countStock 12 = .ok (.ifCond .eq 7, 3) := by decide +kernel
theorem dX4_countStock_15 : decode cX4_countStock 15 = .ok (.iconst 1, 1) := by decide +kernel
theorem dX4_countStock_16 : decode cX4_countStock 16 = .ok (.goto 4, 3) := by decide +kernel
theorem dX4_countStock_19 : decode cX4_countStock 19 = .ok (.iconst 0, 1) := by decide +kernel
theorem dX4_countStock_20 : decode cX4_countStock 20 = .ok (.istore_n 1, 1) := by decide +kernel
theorem dX4_countStock_21 : decode cX4_countStock 21 = .ok (.iload_n 1, 1) := by decide +kernel
theorem dX4_countStock_22 : decode cX4_countStock 22 = .ok (.aload_n 0, 1) := by decide +kernel
theorem dX4_countStock_23 : decode cX4_countStock 23 = .ok (.getfield 68, 3) := by decide +kernel
theorem dX4_countStock_26 : decode cX4_countStock 26 = .ok (.if_icmp .ge 67, 3) := by decide +kernel
theorem dX4_countStock_29 : decode cX4_countStock 29 = .ok (.aload_n 0, 1) := by decide +kernel
theorem dX4_countStock_30 : decode cX4_countStock 30 = .ok (.getfield 59, 3) := by decide +kernel
theorem dX4_countStock_33 : decode cX4_countStock 33 = .ok (.iload_n 1, 1) := by decide +kernel
theorem dX4_countStock_34 : decode cX4_countStock 34 = .ok (.invokestatic 102, 3) := by decide +kernel
theorem dX4_countStock_37 : decode cX4_countStock 37 = .ok (.istore_n 2, 1) := by decide +kernel
theorem dX4_countStock_38 : decode cX4_countStock 38 = .ok (.aload_n 0, 1) := by decide +kernel
theorem dX4_countStock_39 : decode cX4_countStock 39 = .ok (.getfield 32, 3) := by decide +kernel
theorem dX4_countStock_42 : decode cX4_countStock 42 = .ok (.ifCond .eq 20, 3) := by decide +kernel
theorem dX4_countStock_45 : decode cX4_countStock 45 = .ok (.aload_n 0, 1) := by decide +kernel
theorem dX4_countStock_46 : decode cX4_countStock 46 = .ok (.getfield 59, 3) := by decide +kernel
theorem dX4_countStock_49 : decode cX4_countStock 49 = .ok (.iload_n 1, 1) := by decide +kernel
theorem dX4_countStock_50 : decode cX4_countStock 50 = .ok (.iconst 1, 1) := by decide +kernel
theorem dX4_countStock_51 : decode cX4_countStock 51 = .ok (.isub, 1) := by decide +kernel
theorem dX4_countStock_52 : decode cX4_countStock 52 = .ok (.invokestatic 102, 3) := by decide +kernel
theorem dX4_countStock_55 : decode cX4_countStock 55 = .ok (.iconst 4, 1) := by decide +kernel
theorem dX4_countStock_56 : decode cX4_countStock 56 = .ok (.imul, 1) := by decide +kernel
theorem dX4_countStock_57 : decode cX4_countStock 57 = .ok (.iload_n 2, 1) := by decide +kernel
theorem dX4_countStock_58 : decode cX4_countStock 58 = .ok (.iadd, 1) := by decide +kernel
theorem dX4_countStock_59 : decode cX4_countStock 59 = .ok (.goto 4, 3) := by decide +kernel
theorem dX4_countStock_62 : decode cX4_countStock 62 = .ok (.iload_n 2, 1) := by decide +kernel
theorem dX4_countStock_63 : decode cX4_countStock 63 = .ok (.istore_n 3, 1) := by decide +kernel
theorem dX4_countStock_64 : decode cX4_countStock 64 = .ok (.iload_n 3, 1) := by decide +kernel
theorem dX4_countStock_65 : decode cX4_countStock 65 = .ok (.ifCond .lt 22, 3) := by decide +kernel
theorem dX4_countStock_68 : decode cX4_countStock 68 = .ok (.iload_n 3, 1) := by decide +kernel
theorem dX4_countStock_69 : decode cX4_countStock 69 = .ok (.aload_n 0, 1) := by decide +kernel
theorem dX4_countStock_70 : decode cX4_countStock 70 = .ok (.getfield 9, 3) := by decide +kernel
theorem dX4_countStock_73 : decode cX4_countStock 73 = .ok (.arraylength, 1) := by decide +kernel
theorem dX4_countStock_74 : decode cX4_countStock 74 = .ok (.if_icmp .ge 13, 3) := by decide +kernel
theorem dX4_countStock_77 : decode cX4_countStock 77 = .ok (.aload_n 0, 1) := by decide +kernel
theorem dX4_countStock_78 : decode cX4_countStock 78 = .ok (.getfield 9, 3) := by decide +kernel
theorem dX4_countStock_81 : decode cX4_countStock 81 = .ok (.iload_n 3, 1) := by decide +kernel
theorem dX4_countStock_82 : decode cX4_countStock 82 = .ok (.dup2, 1) := by decide +kernel
theorem dX4_countStock_83 : decode cX4_countStock 83 = .ok (.iaload, 1) := by decide +kernel
theorem dX4_countStock_84 : decode cX4_countStock 84 = .ok (.iconst 1, 1) := by decide +kernel
theorem dX4_countStock_85 : decode cX4_countStock 85 = .ok (.iadd, 1) := by decide +kernel
theorem dX4_countStock_86 : decode cX4_countStock 86 = .ok (.iastore, 1) := by decide +kernel
theorem dX4_countStock_87 : decode cX4_countStock 87 = .ok (.iinc 1 1, 3) := by decide +kernel
theorem dX4_countStock_90 : decode cX4_countStock 90 = .ok (.goto (-69), 3) := by decide +kernel
theorem dX4_countStock_93 : decode cX4_countStock 93 = .ok (.return_, 1) := by decide +kernel
theorem dX4_weighStock_0 : decode cX4_weighStock 0 = .ok (.iconst 1, 1) := by decide +kernel
theorem dX4_weighStock_1 : decode cX4_weighStock 1 = .ok (.istore_n 1, 1) := by decide +kernel
theorem dX4_weighStock_2 : decode cX4_weighStock 2 = .ok (.aload_n 0, 1) := by decide +kernel
theorem dX4_weighStock_3 : decode cX4_weighStock 3 = .ok (.iconst 0, 1) := by decide +kernel
theorem dX4_weighStock_4 : decode cX4_weighStock 4 = .ok (.putfield 46, 3) := by decide +kernel
theorem dX4_weighStock_7 : decode cX4_weighStock 7 = .ok (.iconst 0, 1) := by decide +kernel
theorem dX4_weighStock_8 : decode cX4_weighStock 8 = .ok (.istore_n 2, 1) := by decide +kernel
theorem dX4_weighStock_9 : decode cX4_weighStock 9 = .ok (.iload_n 2, 1) := by decide +kernel
theorem dX4_weighStock_10 : decode cX4_weighStock 10 = .ok (.aload_n 0, 1) := by decide +kernel
theorem dX4_weighStock_11 : decode cX4_weighStock 11 = .ok (.getfield 9, 3) := by decide +kernel
theorem dX4_weighStock_14 : decode cX4_weighStock 14 = .ok (.arraylength, 1) := by decide +kernel
theorem dX4_weighStock_15 : decode cX4_weighStock 15 = .ok (.if_icmp .ge 53, 3) := by decide +kernel
theorem dX4_weighStock_18 : decode cX4_weighStock 18 = .ok (.iload_n 2, 1) := by decide +kernel
theorem dX4_weighStock_19 : decode cX4_weighStock 19 = .ok (.aload_n 0, 1) := by decide +kernel
theorem dX4_weighStock_20 : decode cX4_weighStock 20 = .ok (.getfield 15, 3) := by decide +kernel
theorem dX4_weighStock_23 : decode cX4_weighStock 23 = .ok (.arraylength, 1) := by decide +kernel
theorem dX4_weighStock_24 : decode cX4_weighStock 24 = .ok (.if_icmp .ge 44, 3) := by decide +kernel
theorem dX4_weighStock_27 : decode cX4_weighStock 27 = .ok (.aload_n 0, 1) := by decide +kernel
theorem dX4_weighStock_28 : decode cX4_weighStock 28 = .ok (.getfield 15, 3) := by decide +kernel
theorem dX4_weighStock_31 : decode cX4_weighStock 31 = .ok (.iload_n 2, 1) := by decide +kernel
theorem dX4_weighStock_32 : decode cX4_weighStock 32 = .ok (.iload_n 1, 1) := by decide +kernel
theorem dX4_weighStock_33 : decode cX4_weighStock 33 = .ok (.iastore, 1) := by decide +kernel
theorem dX4_weighStock_34 : decode cX4_weighStock 34 = .ok (.aload_n 0, 1) := by decide +kernel
theorem dX4_weighStock_35 : decode cX4_weighStock 35 = .ok (.dup, 1) := by decide +kernel
theorem dX4_weighStock_36 : decode cX4_weighStock 36 = .ok (.getfield 46, 3) := by decide +kernel
theorem dX4_weighStock_39 : decode cX4_weighStock 39 = .ok (.iload_n 1, 1) := by decide +kernel
theorem dX4_weighStock_40 : decode cX4_weighStock 40 = .ok (.aload_n 0, 1) := by decide +kernel
theorem dX4_weighStock_41 : decode cX4_weighStock 41 = .ok (.getfield 9, 3) := by decide +kernel
theorem dX4_weighStock_44 : decode cX4_weighStock 44 = .ok (.iload_n 2, 1) := by decide +kernel
theorem dX4_weighStock_45 : decode cX4_weighStock 45 = .ok (.iaload, 1) := by decide +kernel
theorem dX4_weighStock_46 : decode cX4_weighStock 46 = .ok (.imul, 1) := by decide +kernel
theorem dX4_weighStock_47 : decode cX4_weighStock 47 = .ok (.iadd, 1) := by decide +kernel
theorem dX4_weighStock_48 : decode cX4_weighStock 48 = .ok (.putfield 46, 3) := by decide +kernel
theorem dX4_weighStock_51 : decode cX4_weighStock 51 = .ok (.iload_n 1, 1) := by decide +kernel
theorem dX4_weighStock_52 : decode cX4_weighStock 52 = .ok (.aload_n 0, 1) := by decide +kernel
theorem dX4_weighStock_53 : decode cX4_weighStock 53 = .ok (.getfield 9, 3) := by decide +kernel
theorem dX4_weighStock_56 : decode cX4_weighStock 56 = .ok (.iload_n 2, 1) := by decide +kernel
theorem dX4_weighStock_57 : decode cX4_weighStock 57 = .ok (.iaload, 1) := by decide +kernel
theorem dX4_weighStock_58 : decode cX4_weighStock 58 = .ok (.iconst 1, 1) := by decide +kernel
theorem dX4_weighStock_59 : decode cX4_weighStock 59 = .ok (.iadd, 1) := by decide +kernel
theorem dX4_weighStock_60 : decode cX4_weighStock 60 = .ok (.imul, 1) := by decide +kernel
theorem dX4_weighStock_61 : decode cX4_weighStock 61 = .ok (.istore_n 1, 1) := by decide +kernel
theorem dX4_weighStock_62 : decode cX4_weighStock 62 = .ok (.iinc 2 1, 3) := by decide +kernel
theorem dX4_weighStock_65 : decode cX4_weighStock 65 = .ok (.goto (-56), 3) := by decide +kernel
theorem dX4_weighStock_68 : decode cX4_weighStock 68 = .ok (.return_, 1) := by decide +kernel
theorem dX4_solve_0 : decode cX4_solve 0 = .ok (.aload_n 0, 1) := by decide +kernel
theorem dX4_solve_1 : decode cX4_solve 1 = .ok (.iload_n 1, 1) := by decide +kernel
theorem dX4_solve_2 : decode cX4_solve 2 = .ok (.iload_n 2, 1) := by decide +kernel
theorem dX4_solve_3 : decode cX4_solve 3 = .ok (.iload_n 3, 1) := by decide +kernel
theorem dX4_solve_4 : decode cX4_solve 4 = .ok (.invokevirtual 105, 3) := by decide +kernel
theorem dX4_solve_7 : decode cX4_solve 7 = .ok (.istore 4, 2) := by decide +kernel
theorem dX4_solve_9 : decode cX4_solve 9 = .ok (.iload_n 3, 1) := by decide +kernel
theorem dX4_solve_10 : decode cX4_solve 10 = .ok (.aload_n 0, 1) := by decide +kernel
theorem dX4_solve_11 : decode cX4_solve 11 = .ok (.getfield 68, 3) := by decide +kernel
theorem dX4_solve_14 : decode cX4_solve 14 = .ok (.if_icmp .gt 12, 3) := by decide +kernel
theorem dX4_solve_17 : decode cX4_solve 17 = .ok (.aload_n 0, 1) := by decide +kernel
theorem dX4_solve_18 : decode cX4_solve 18 = .ok (.iload 4, 2) := by decide +kernel
theorem dX4_solve_20 : decode cX4_solve 20 = .ok (.invokevirtual 108, 3) := by decide +kernel
theorem dX4_solve_23 : decode cX4_solve 23 = .ok (.ifCond .eq 4, 3) := by decide +kernel
theorem dX4_solve_26 : decode cX4_solve 26 = .ok (.return_, 1) := by decide +kernel
theorem dX4_solve_27 : decode cX4_solve 27 = .ok (.aload_n 0, 1) := by decide +kernel
theorem dX4_solve_28 : decode cX4_solve 28 = .ok (.iload 4, 2) := by decide +kernel
theorem dX4_solve_30 : decode cX4_solve 30 = .ok (.invokevirtual 111, 3) := by decide +kernel
theorem dX4_solve_33 : decode cX4_solve 33 = .ok (.iload_n 3, 1) := by decide +kernel
theorem dX4_solve_34 : decode cX4_solve 34 = .ok (.aload_n 0, 1) := by decide +kernel
theorem dX4_solve_35 : decode cX4_solve 35 = .ok (.getfield 68, 3) := by decide +kernel
theorem dX4_solve_38 : decode cX4_solve 38 = .ok (.if_icmp .ne 12, 3) := by decide +kernel
theorem dX4_solve_41 : decode cX4_solve 41 = .ok (.aload_n 0, 1) := by decide +kernel
theorem dX4_solve_42 : decode cX4_solve 42 = .ok (.iload 4, 2) := by decide +kernel
theorem dX4_solve_44 : decode cX4_solve 44 = .ok (.iconst 0, 1) := by decide +kernel
theorem dX4_solve_45 : decode cX4_solve 45 = .ok (.iconst 1, 1) := by decide +kernel
theorem dX4_solve_46 : decode cX4_solve 46 = .ok (.invokevirtual 115, 3) := by decide +kernel
theorem dX4_solve_49 : decode cX4_solve 49 = .ok (.return_, 1) := by decide +kernel
theorem dX4_solve_50 : decode cX4_solve 50 = .ok (.iconst 0, 1) := by decide +kernel
theorem dX4_solve_51 : decode cX4_solve 51 = .ok (.istore 5, 2) := by decide +kernel
theorem dX4_solve_53 : decode cX4_solve 53 = .ok (.iload 5, 2) := by decide +kernel
theorem dX4_solve_55 : decode cX4_solve 55 = .ok (.iconst 4, 1) := by decide +kernel
theorem dX4_solve_56 : decode cX4_solve 56 = .ok (.if_icmp .ge 62, 3) := by decide +kernel
theorem dX4_solve_59 : decode cX4_solve 59 = .ok (.aload_n 0, 1) := by decide +kernel
theorem dX4_solve_60 : decode cX4_solve 60 = .ok (.iload_n 1, 1) := by decide +kernel
theorem dX4_solve_61 : decode cX4_solve 61 = .ok (.iload_n 2, 1) := by decide +kernel
theorem dX4_solve_62 : decode cX4_solve 62 = .ok (.iload_n 3, 1) := by decide +kernel
theorem dX4_solve_63 : decode cX4_solve 63 = .ok (.iload 5, 2) := by decide +kernel
theorem dX4_solve_65 : decode cX4_solve 65 = .ok (.invokevirtual 119, 3) := by decide +kernel
theorem dX4_solve_68 : decode cX4_solve 68 = .ok (.istore 6, 2) := by decide +kernel
theorem dX4_solve_70 : decode cX4_solve 70 = .ok (.iload 6, 2) := by decide +kernel
theorem dX4_solve_72 : decode cX4_solve 72 = .ok (.iconst (-1), 1) := by decide +kernel
theorem dX4_solve_73 : decode cX4_solve 73 = .ok (.if_icmp .eq 39, 3) := by decide +kernel
theorem dX4_solve_76 : decode cX4_solve 76 = .ok (.aload_n 0, 1) := by decide +kernel
theorem dX4_solve_77 : decode cX4_solve 77 = .ok (.iload 6, 2) := by decide +kernel
theorem dX4_solve_79 : decode cX4_solve 79 = .ok (.iload 5, 2) := by decide +kernel
theorem dX4_solve_81 : decode cX4_solve 81 = .ok (.iload_n 3, 1) := by decide +kernel
theorem dX4_solve_82 : decode cX4_solve 82 = .ok (.iconst 1, 1) := by decide +kernel
theorem dX4_solve_83 : decode cX4_solve 83 = .ok (.iadd, 1) := by decide +kernel
theorem dX4_solve_84 : decode cX4_solve 84 = .ok (.invokestatic 50, 3) := by decide +kernel
theorem dX4_solve_87 : decode cX4_solve 87 = .ok (.aload_n 0, 1) := by decide +kernel
theorem dX4_solve_88 : decode cX4_solve 88 = .ok (.iload 4, 2) := by decide +kernel
theorem dX4_solve_90 : decode cX4_solve 90 = .ok (.aload_n 0, 1) := by decide +kernel
theorem dX4_solve_91 : decode cX4_solve 91 = .ok (.iload 6, 2) := by decide +kernel
theorem dX4_solve_93 : decode cX4_solve 93 = .ok (.iload 5, 2) := by decide +kernel
theorem dX4_solve_95 : decode cX4_solve 95 = .ok (.iload_n 3, 1) := by decide +kernel
theorem dX4_solve_96 : decode cX4_solve 96 = .ok (.iconst 1, 1) := by decide +kernel
theorem dX4_solve_97 : decode cX4_solve 97 = .ok (.iadd, 1) := by decide +kernel
theorem dX4_solve_98 : decode cX4_solve 98 = .ok (.invokevirtual 105, 3) := by decide +kernel
theorem dX4_solve_101 : decode cX4_solve 101 = .ok (.aload_n 0, 1) := by decide +kernel
theorem dX4_solve_102 : decode cX4_solve 102 = .ok (.iload_n 3, 1) := by decide +kernel
theorem dX4_solve_103 : decode cX4_solve 103 = .ok (.iload_n 2, 1) := by decide +kernel
theorem dX4_solve_104 : decode cX4_solve 104 = .ok (.iload 5, 2) := by decide +kernel
theorem dX4_solve_106 : decode cX4_solve 106 = .ok (.invokevirtual 123, 3) := by decide +kernel
theorem dX4_solve_109 : decode cX4_solve 109 = .ok (.invokevirtual 126, 3) := by decide +kernel
theorem dX4_solve_112 : decode cX4_solve 112 = .ok (.iinc 5 1, 3) := by decide +kernel
theorem dX4_solve_115 : decode cX4_solve 115 = .ok (.goto (-62), 3) := by decide +kernel
theorem dX4_solve_118 : decode cX4_solve 118 = .ok (.return_, 1) := by decide +kernel
theorem dX4_entryOf_0 : decode cX4_entryOf 0 = .ok (.iload_n 3, 1) := by decide +kernel
theorem dX4_entryOf_1 : decode cX4_entryOf 1 = .ok (.ifCond .ne 7, 3) := by decide +kernel
theorem dX4_entryOf_4 : decode cX4_entryOf 4 = .ok (.sipush 576, 3) := by decide +kernel
theorem dX4_entryOf_7 : decode cX4_entryOf 7 = .ok (.ireturn, 1) := by decide +kernel
theorem dX4_entryOf_8 : decode cX4_entryOf 8 = .ok (.aload_n 0, 1) := by decide +kernel
theorem dX4_entryOf_9 : decode cX4_entryOf 9 = .ok (.getfield 32, 3) := by decide +kernel
theorem dX4_entryOf_12 : decode cX4_entryOf 12 = .ok (.ifCond .eq 7, 3) := by decide +kernel
theorem dX4_entryOf_15 : decode cX4_entryOf 15 = .ok (.iload_n 1, 1) := by decide +kernel
theorem dX4_entryOf_16 : decode cX4_entryOf 16 = .ok (.goto 8, 3) := by decide +kernel
theorem dX4_entryOf_19 : decode cX4_entryOf 19 = .ok (.iload_n 1, 1) := by decide +kernel
theorem dX4_entryOf_20 : decode cX4_entryOf 20 = .ok (.iconst 4, 1) := by decide +kernel
theorem dX4_entryOf_21 : decode cX4_entryOf 21 = .ok (.imul, 1) := by decide +kernel
theorem dX4_entryOf_22 : decode cX4_entryOf 22 = .ok (.iload_n 2, 1) := by decide +kernel
theorem dX4_entryOf_23 : decode cX4_entryOf 23 = .ok (.iadd, 1) := by decide +kernel
theorem dX4_entryOf_24 : decode cX4_entryOf 24 = .ok (.ireturn, 1) := by decide +kernel
theorem dX4_leftAfter_0 : decode cX4_leftAfter 0 = .ok (.aload_n 0, 1) := by decide +kernel
theorem dX4_leftAfter_1 : decode cX4_leftAfter 1 = .ok (.getfield 32, 3) := by decide +kernel
theorem dX4_leftAfter_4 : decode cX4_leftAfter 4 = .ok (.ifCond .eq 26, 3) := by decide +kernel
theorem dX4_leftAfter_7 : decode cX4_leftAfter 7 = .ok (.iload_n 3, 1) := by decide +kernel
theorem dX4_leftAfter_8 : decode cX4_leftAfter 8 = .ok (.ifCond .ne 22, 3) := by decide +kernel
theorem dX4_leftAfter_11 : decode cX4_leftAfter 11 = .ok (.iload 4, 2) := by decide +kernel
theorem dX4_leftAfter_13 : decode cX4_leftAfter 13 = .ok (.aload_n 0, 1) := by decide +kernel
theorem dX4_leftAfter_14 : decode cX4_leftAfter 14 = .ok (.getfield 59, 3) := by decide +kernel
theorem dX4_leftAfter_17 : decode cX4_leftAfter 17 = .ok (.iconst 0, 1) := by decide +kernel
theorem dX4_leftAfter_18 : decode cX4_leftAfter 18 = .ok (.invokestatic 102, 3) := by decide +kernel
theorem dX4_leftAfter_21 : decode cX4_leftAfter 21 = .ok (.if_icmp .ne 7, 3) := by decide +kernel
theorem dX4_leftAfter_24 : decode cX4_leftAfter 24 = .ok (.iload_n 1, 1) := by decide +kernel
theorem dX4_leftAfter_25 : decode cX4_leftAfter 25 = .ok (.goto 4, 3) := by decide +kernel
theorem dX4_leftAfter_28 : decode cX4_leftAfter 28 = .ok (.iconst (-1), 1) := by decide +kernel
theorem dX4_leftAfter_29 : decode cX4_leftAfter 29 = .ok (.ireturn, 1) := by decide +kernel
theorem dX4_leftAfter_30 : decode cX4_leftAfter 30 = .ok (.aload_n 0, 1) := by decide +kernel
theorem dX4_leftAfter_31 : decode cX4_leftAfter 31 = .ok (.getfield 39, 3) := by decide +kernel
theorem dX4_leftAfter_34 : decode cX4_leftAfter 34 = .ok (.ifCond .eq 35, 3) := by decide +kernel
theorem dX4_leftAfter_37 : decode cX4_leftAfter 37 = .ok (.iload_n 3, 1) := by decide +kernel
theorem dX4_leftAfter_38 : decode cX4_leftAfter 38 = .ok (.iconst 2, 1) := by decide +kernel
theorem dX4_leftAfter_39 : decode cX4_leftAfter 39 = .ok (.irem, 1) := by decide +kernel
theorem dX4_leftAfter_40 : decode cX4_leftAfter 40 = .ok (.iconst 1, 1) := by decide +kernel
theorem dX4_leftAfter_41 : decode cX4_leftAfter 41 = .ok (.if_icmp .ne 28, 3) := by decide +kernel
theorem dX4_leftAfter_44 : decode cX4_leftAfter 44 = .ok (.aload_n 0, 1) := by decide +kernel
theorem dX4_leftAfter_45 : decode cX4_leftAfter 45 = .ok (.getfield 63, 3) := by decide +kernel
theorem dX4_leftAfter_48 : decode cX4_leftAfter 48 = .ok (.iload_n 2, 1) := by decide +kernel
theorem dX4_leftAfter_49 : decode cX4_leftAfter 49 = .ok (.iload 4, 2) := by decide +kernel
theorem dX4_leftAfter_51 : decode cX4_leftAfter 51 = .ok (.invokestatic 129, 3) := by decide +kernel
theorem dX4_leftAfter_54 : decode cX4_leftAfter 54 = .ok (.aload_n 0, 1) := by decide +kernel
theorem dX4_leftAfter_55 : decode cX4_leftAfter 55 = .ok (.getfield 80, 3) := by decide +kernel
theorem dX4_leftAfter_58 : decode cX4_leftAfter 58 = .ok (.iload_n 3, 1) := by decide +kernel
theorem dX4_leftAfter_59 : decode cX4_leftAfter 59 = .ok (.iconst 2, 1) := by decide +kernel
theorem dX4_leftAfter_60 : decode cX4_leftAfter 60 = .ok (.idiv, 1) := by decide +kernel
theorem dX4_leftAfter_61 : decode cX4_leftAfter 61 = .ok (.invokestatic 102, 3) := by decide +kernel
theorem dX4_leftAfter_64 : decode cX4_leftAfter 64 = .ok (.if_icmp .eq 5, 3) := by decide +kernel
theorem dX4_leftAfter_67 : decode cX4_leftAfter 67 = .ok (.iconst (-1), 1) := by decide +kernel
theorem dX4_leftAfter_68 : decode cX4_leftAfter 68 = .ok (.ireturn, 1) := by decide +kernel
theorem dX4_leftAfter_69 : decode cX4_leftAfter 69 = .ok (.aload_n 0, 1) := by decide +kernel
theorem dX4_leftAfter_70 : decode cX4_leftAfter 70 = .ok (.iload_n 1, 1) := by decide +kernel
theorem dX4_leftAfter_71 : decode cX4_leftAfter 71 = .ok (.aload_n 0, 1) := by decide +kernel
theorem dX4_leftAfter_72 : decode cX4_leftAfter 72 = .ok (.getfield 32, 3) := by decide +kernel
theorem dX4_leftAfter_75 : decode cX4_leftAfter 75 = .ok (.ifCond .eq 12, 3) := by decide +kernel
theorem dX4_leftAfter_78 : decode cX4_leftAfter 78 = .ok (.iload_n 2, 1) := by decide +kernel
theorem dX4_leftAfter_79 : decode cX4_leftAfter 79 = .ok (.iconst 4, 1) := by decide +kernel
theorem dX4_leftAfter_80 : decode cX4_leftAfter 80 = .ok (.imul, 1) := by decide +kernel
theorem dX4_leftAfter_81 : decode cX4_leftAfter 81 = .ok (.iload 4, 2) := by decide +kernel
theorem dX4_leftAfter_83 : decode cX4_leftAfter 83 = .ok (.iadd, 1) := by decide +kernel
theorem dX4_leftAfter_84 : decode cX4_leftAfter 84 = .ok (.goto 5, 3) := by decide +kernel
theorem dX4_leftAfter_87 : decode cX4_leftAfter 87 = .ok (.iload 4, 2) := by decide +kernel
theorem dX4_leftAfter_89 : decode cX4_leftAfter 89 = .ok (.invokevirtual 132, 3) := by decide +kernel
theorem dX4_leftAfter_92 : decode cX4_leftAfter 92 = .ok (.ireturn, 1) := by decide +kernel
theorem dX4_leftWithout_0 : decode cX4_leftWithout 0 = .ok (.iload_n 2, 1) := by decide +kernel
theorem dX4_leftWithout_1 : decode cX4_leftWithout 1 = .ok (.ifCond .lt 25, 3) := by decide +kernel
theorem dX4_leftWithout_4 : decode cX4_leftWithout 4 = .ok (.iload_n 2, 1) := by decide +kernel
theorem dX4_leftWithout_5 : decode cX4_leftWithout 5 = .ok (.aload_n 0, 1) := by decide +kernel
theorem dX4_leftWithout_6 : decode cX4_leftWithout 6 = .ok (.getfield 15, 3) := by decide +kernel
theorem dX4_leftWithout_9 : decode cX4_leftWithout 9 = .ok (.arraylength, 1) := by decide +kernel
theorem dX4_leftWithout_10 : decode cX4_leftWithout 10 = .ok (.if_icmp .ge 16, 3) := by decide +kernel
theorem dX4_leftWithout_13 : decode cX4_leftWithout 13 = .ok (.iload_n 2, 1) := by decide +kernel
theorem dX4_leftWithout_14 : decode cX4_leftWithout 14 = .ok (.aload_n 0, 1) := by decide +kernel
theorem dX4_leftWithout_15 : decode cX4_leftWithout 15 = .ok (.getfield 9, 3) := by decide +kernel
theorem dX4_leftWithout_18 : decode cX4_leftWithout 18 = .ok (.arraylength, 1) := by decide +kernel
theorem dX4_leftWithout_19 : decode cX4_leftWithout 19 = .ok (.if_icmp .ge 7, 3) := by decide +kernel
theorem dX4_leftWithout_22 : decode cX4_leftWithout 22 = .ok (.iload_n 1, 1) := by decide +kernel
theorem dX4_leftWithout_23 : decode cX4_leftWithout 23 = .ok (.ifCond .ge 5, 3) := by decide +kernel
theorem dX4_leftWithout_26 : decode cX4_leftWithout 26 = .ok (.iconst (-1), 1) := by decide +kernel
theorem dX4_leftWithout_27 : decode cX4_leftWithout 27 = .ok (.ireturn, 1) := by decide +kernel
theorem dX4_leftWithout_28 : decode cX4_leftWithout 28 = .ok (.aload_n 0, 1) := by decide +kernel
theorem dX4_leftWithout_29 : decode cX4_leftWithout 29 = .ok (.getfield 15, 3) := by decide +kernel
theorem dX4_leftWithout_32 : decode cX4_leftWithout 32 = .ok (.iload_n 2, 1) := by decide +kernel
theorem dX4_leftWithout_33 : decode cX4_leftWithout 33 = .ok (.iaload, 1) := by decide +kernel
theorem dX4_leftWithout_34 : decode cX4_leftWithout 34 = .ok (.istore_n 3, 1) := by decide +kernel
theorem dX4_leftWithout_35 : decode cX4_leftWithout 35 = .ok (.aload_n 0, 1) := by decide +kernel
theorem dX4_leftWithout_36 : decode cX4_leftWithout 36 = .ok (.getfield 9, 3) := by decide +kernel
theorem dX4_leftWithout_39 : decode cX4_leftWithout 39 = .ok (.iload_n 2, 1) := by decide +kernel
theorem dX4_leftWithout_40 : decode cX4_leftWithout 40 = .ok (.iaload, 1) := by decide +kernel
theorem dX4_leftWithout_41 : decode cX4_leftWithout 41 = .ok (.iconst 1, 1) := by decide +kernel
theorem dX4_leftWithout_42 : decode cX4_leftWithout 42 = .ok (.iadd, 1) := by decide +kernel
theorem dX4_leftWithout_43 : decode cX4_leftWithout 43 = .ok (.istore 4, 2) := by decide +kernel
theorem dX4_leftWithout_45 : decode cX4_leftWithout 45 = .ok (.iload_n 3, 1) := by decide +kernel
theorem dX4_leftWithout_46 : decode cX4_leftWithout 46 = .ok (.iconst 1, 1) := by decide +kernel
theorem dX4_leftWithout_47 : decode cX4_leftWithout 47 = .ok (.if_icmp .lt 9, 3) := by decide +kernel
theorem dX4_leftWithout_50 : decode cX4_leftWithout 50 = .ok (.iload 4, 2) := by decide +kernel
theorem dX4_leftWithout_52 : decode cX4_leftWithout 52 = .ok (.iconst 1, 1) := by decide +kernel
theorem dX4_leftWithout_53 : decode cX4_leftWithout 53 = .ok (.if_icmp .ge 5, 3) := by decide +kernel
theorem dX4_leftWithout_56 : decode cX4_leftWithout 56 = .ok (.iconst (-1), 1) := by decide +kernel
theorem dX4_leftWithout_57 : decode cX4_leftWithout 57 = .ok (.ireturn, 1) := by decide +kernel
theorem dX4_leftWithout_58 : decode cX4_leftWithout 58 = .ok (.iload_n 1, 1) := by decide +kernel
theorem dX4_leftWithout_59 : decode cX4_leftWithout 59 = .ok (.iload_n 3, 1) := by decide +kernel
theorem dX4_leftWithout_60 : decode cX4_leftWithout 60 = .ok (.idiv, 1) := by decide +kernel
theorem dX4_leftWithout_61 : decode cX4_leftWithout 61 = .ok (.iload 4, 2) := by decide +kernel
theorem dX4_leftWithout_63 : decode cX4_leftWithout 63 = .ok (.irem, 1) := by decide +kernel
theorem dX4_leftWithout_64 : decode cX4_leftWithout 64 = .ok (.ifCond .le 9, 3) := by decide +kernel
theorem dX4_leftWithout_67 : decode cX4_leftWithout 67 = .ok (.iload_n 1, 1) := by decide +kernel
theorem dX4_leftWithout_68 : decode cX4_leftWithout 68 = .ok (.iload_n 3, 1) := by decide +kernel
theorem dX4_leftWithout_69 : decode cX4_leftWithout 69 = .ok (.isub, 1) := by decide +kernel
theorem dX4_leftWithout_70 : decode cX4_leftWithout 70 = .ok (.goto 4, 3) := by decide +kernel
theorem dX4_leftWithout_73 : decode cX4_leftWithout 73 = .ok (.iconst (-1), 1) := by decide +kernel
theorem dX4_leftWithout_74 : decode cX4_leftWithout 74 = .ok (.ireturn, 1) := by decide +kernel
theorem dX4_gain_0 : decode cX4_gain 0 = .ok (.aload_n 0, 1) := by decide +kernel
theorem dX4_gain_1 : decode cX4_gain 1 = .ok (.getfield 24, 3) := by decide +kernel
theorem dX4_gain_4 : decode cX4_gain 4 = .ok (.ifnonnull 7, 3) := by decide +kernel
theorem dX4_gain_7 : decode cX4_gain 7 = .ok (.iconst 0, 1) := by decide +kernel
theorem dX4_gain_8 : decode cX4_gain 8 = .ok (.goto 13, 3) := by decide +kernel
theorem dX4_gain_11 : decode cX4_gain 11 = .ok (.aload_n 0, 1) := by decide +kernel
theorem dX4_gain_12 : decode cX4_gain 12 = .ok (.getfield 24, 3) := by decide +kernel
theorem dX4_gain_15 : decode cX4_gain 15 = .ok (.iload_n 1, 1) := by decide +kernel
theorem dX4_gain_16 : decode cX4_gain 16 = .ok (.iload_n 2, 1) := by decide +kernel
theorem dX4_gain_17 : decode cX4_gain 17 = .ok (.iload_n 3, 1) := by decide +kernel
theorem dX4_gain_18 : decode cX4_gain 18 = .ok (.invokevirtual 135, 3) := by decide +kernel
theorem dX4_gain_21 : decode cX4_gain 21 = .ok (.ireturn, 1) := by decide +kernel
theorem dX4_isKnown_0 : decode cX4_isKnown 0 = .ok (.iload_n 1, 1) := by decide +kernel
theorem dX4_isKnown_1 : decode cX4_isKnown 1 = .ok (.ifCond .lt 19, 3) := by decide +kernel
theorem dX4_isKnown_4 : decode cX4_isKnown 4 = .ok (.iload_n 1, 1) := by decide +kernel
theorem dX4_isKnown_5 : decode cX4_isKnown 5 = .ok (.sipush 577, 3) := by decide +kernel
theorem dX4_isKnown_8 : decode cX4_isKnown 8 = .ok (.if_icmp .ge 12, 3) := by decide +kernel
theorem dX4_isKnown_11 : decode cX4_isKnown 11 = .ok (.aload_n 0, 1) := by decide +kernel
theorem dX4_isKnown_12 : decode cX4_isKnown 12 = .ok (.getfield 18, 3) := by decide +kernel
theorem dX4_isKnown_15 : decode cX4_isKnown 15 = .ok (.iload_n 1, 1) := by decide +kernel
theorem dX4_isKnown_16 : decode cX4_isKnown 16 = .ok (.iaload, 1) := by decide +kernel
theorem dX4_isKnown_17 : decode cX4_isKnown 17 = .ok (.ifCond .eq 7, 3) := by decide +kernel
theorem dX4_isKnown_20 : decode cX4_isKnown 20 = .ok (.iconst 1, 1) := by decide +kernel
theorem dX4_isKnown_21 : decode cX4_isKnown 21 = .ok (.goto 4, 3) := by decide +kernel
theorem dX4_isKnown_24 : decode cX4_isKnown 24 = .ok (.iconst 0, 1) := by decide +kernel
theorem dX4_isKnown_25 : decode cX4_isKnown 25 = .ok (.ireturn, 1) := by decide +kernel
theorem dX4_begin_0 : decode cX4_begin 0 = .ok (.iload_n 1, 1) := by decide +kernel
theorem dX4_begin_1 : decode cX4_begin 1 = .ok (.ifCond .lt 10, 3) := by decide +kernel
theorem dX4_begin_4 : decode cX4_begin 4 = .ok (.iload_n 1, 1) := by decide +kernel
theorem dX4_begin_5 : decode cX4_begin 5 = .ok (.sipush 577, 3) := by decide +kernel
theorem dX4_begin_8 : decode cX4_begin 8 = .ok (.if_icmp .lt 4, 3) := by decide +kernel
theorem dX4_begin_11 : decode cX4_begin 11 = .ok (.return_, 1) := by decide +kernel
theorem dX4_begin_12 : decode cX4_begin 12 = .ok (.aload_n 0, 1) := by decide +kernel
theorem dX4_begin_13 : decode cX4_begin 13 = .ok (.getfield 18, 3) := by decide +kernel
theorem dX4_begin_16 : decode cX4_begin 16 = .ok (.iload_n 1, 1) := by decide +kernel
theorem dX4_begin_17 : decode cX4_begin 17 = .ok (.iconst 1, 1) := by decide +kernel
theorem dX4_begin_18 : decode cX4_begin 18 = .ok (.iastore, 1) := by decide +kernel
theorem dX4_begin_19 : decode cX4_begin 19 = .ok (.iload_n 1, 1) := by decide +kernel
theorem dX4_begin_20 : decode cX4_begin 20 = .ok (.bipush 11, 2) := by decide +kernel
theorem dX4_begin_22 : decode cX4_begin 22 = .ok (.imul, 1) := by decide +kernel
theorem dX4_begin_23 : decode cX4_begin 23 = .ok (.istore_n 2, 1) := by decide +kernel
theorem dX4_begin_24 : decode cX4_begin 24 = .ok (.iload_n 2, 1) := by decide +kernel
theorem dX4_begin_25 : decode cX4_begin 25 = .ok (.istore_n 3, 1) := by decide +kernel
theorem dX4_begin_26 : decode cX4_begin 26 = .ok (.iload_n 3, 1) := by decide +kernel
theorem dX4_begin_27 : decode cX4_begin 27 = .ok (.iload_n 2, 1) := by decide +kernel
theorem dX4_begin_28 : decode cX4_begin 28 = .ok (.bipush 11, 2) := by decide +kernel
theorem dX4_begin_30 : decode cX4_begin 30 = .ok (.iadd, 1) := by decide +kernel
theorem dX4_begin_31 : decode cX4_begin 31 = .ok (.if_icmp .ge 25, 3) := by decide +kernel
theorem dX4_begin_34 : decode cX4_begin 34 = .ok (.iload_n 3, 1) := by decide +kernel
theorem dX4_begin_35 : decode cX4_begin 35 = .ok (.aload_n 0, 1) := by decide +kernel
theorem dX4_begin_36 : decode cX4_begin 36 = .ok (.getfield 21, 3) := by decide +kernel
theorem dX4_begin_39 : decode cX4_begin 39 = .ok (.arraylength, 1) := by decide +kernel
theorem dX4_begin_40 : decode cX4_begin 40 = .ok (.if_icmp .ge 16, 3) := by decide +kernel
theorem dX4_begin_43 : decode cX4_begin 43 = .ok (.aload_n 0, 1) := by decide +kernel
theorem dX4_begin_44 : decode cX4_begin 44 = .ok (.getfield 21, 3) := by decide +kernel
theorem dX4_begin_47 : decode cX4_begin 47 = .ok (.iload_n 3, 1) := by decide +kernel
theorem dX4_begin_48 : decode cX4_begin 48 = .ok (.iconst 0, 1) := by decide +kernel
theorem dX4_begin_49 : decode cX4_begin 49 = .ok (.iastore, 1) := by decide +kernel
theorem dX4_begin_50 : decode cX4_begin 50 = .ok (.iinc 3 1, 3) := by decide +kernel
theorem dX4_begin_53 : decode cX4_begin 53 = .ok (.goto (-27), 3) := by decide +kernel
theorem dX4_begin_56 : decode cX4_begin 56 = .ok (.return_, 1) := by decide +kernel
theorem dX4_add_0 : decode cX4_add 0 = .ok (.iload_n 1, 1) := by decide +kernel
theorem dX4_add_1 : decode cX4_add 1 = .ok (.bipush 11, 2) := by decide +kernel
theorem dX4_add_3 : decode cX4_add 3 = .ok (.imul, 1) := by decide +kernel
theorem dX4_add_4 : decode cX4_add 4 = .ok (.iload_n 2, 1) := by decide +kernel
theorem dX4_add_5 : decode cX4_add 5 = .ok (.iadd, 1) := by decide +kernel
theorem dX4_add_6 : decode cX4_add 6 = .ok (.istore 4, 2) := by decide +kernel
theorem dX4_add_8 : decode cX4_add 8 = .ok (.iload_n 2, 1) := by decide +kernel
theorem dX4_add_9 : decode cX4_add 9 = .ok (.ifCond .lt 35, 3) := by decide +kernel
theorem dX4_add_12 : decode cX4_add 12 = .ok (.iload_n 2, 1) := by decide +kernel
theorem dX4_add_13 : decode cX4_add 13 = .ok (.bipush 11, 2) := by decide +kernel
theorem dX4_add_15 : decode cX4_add 15 = .ok (.if_icmp .ge 29, 3) := by decide +kernel
theorem dX4_add_18 : decode cX4_add 18 = .ok (.iload 4, 2) := by decide +kernel
theorem dX4_add_20 : decode cX4_add 20 = .ok (.ifCond .lt 24, 3) := by decide +kernel
theorem dX4_add_23 : decode cX4_add 23 = .ok (.iload 4, 2) := by decide +kernel
theorem dX4_add_25 : decode cX4_add 25 = .ok (.aload_n 0, 1) := by decide +kernel
theorem dX4_add_26 : decode cX4_add 26 = .ok (.getfield 21, 3) := by decide +kernel
theorem dX4_add_29 : decode cX4_add 29 = .ok (.arraylength, 1) := by decide +kernel
theorem dX4_add_30 : decode cX4_add 30 = .ok (.if_icmp .ge 14, 3) := by decide +kernel
theorem dX4_add_33 : decode cX4_add 33 = .ok (.aload_n 0, 1) := by decide +kernel
theorem dX4_add_34 : decode cX4_add 34 = .ok (.getfield 21, 3) := by decide +kernel
theorem dX4_add_37 : decode cX4_add 37 = .ok (.iload 4, 2) := by decide +kernel
theorem dX4_add_39 : decode cX4_add 39 = .ok (.dup2, 1) := by decide +kernel
theorem dX4_add_40 : decode cX4_add 40 = .ok (.iaload, 1) := by decide +kernel
theorem dX4_add_41 : decode cX4_add 41 = .ok (.iload_n 3, 1) := by decide +kernel
theorem dX4_add_42 : decode cX4_add 42 = .ok (.iadd, 1) := by decide +kernel
theorem dX4_add_43 : decode cX4_add 43 = .ok (.iastore, 1) := by decide +kernel
theorem dX4_add_44 : decode cX4_add 44 = .ok (.return_, 1) := by decide +kernel
theorem dX4_number_0 : decode cX4_number 0 = .ok (.iload_n 1, 1) := by decide +kernel
theorem dX4_number_1 : decode cX4_number 1 = .ok (.bipush 11, 2) := by decide +kernel
theorem dX4_number_3 : decode cX4_number 3 = .ok (.imul, 1) := by decide +kernel
theorem dX4_number_4 : decode cX4_number 4 = .ok (.iload_n 2, 1) := by decide +kernel
theorem dX4_number_5 : decode cX4_number 5 = .ok (.iadd, 1) := by decide +kernel
theorem dX4_number_6 : decode cX4_number 6 = .ok (.istore_n 3, 1) := by decide +kernel
theorem dX4_number_7 : decode cX4_number 7 = .ok (.iload_n 2, 1) := by decide +kernel
theorem dX4_number_8 : decode cX4_number 8 = .ok (.ifCond .lt 26, 3) := by decide +kernel
theorem dX4_number_11 : decode cX4_number 11 = .ok (.iload_n 2, 1) := by decide +kernel
theorem dX4_number_12 : decode cX4_number 12 = .ok (.bipush 11, 2) := by decide +kernel
theorem dX4_number_14 : decode cX4_number 14 = .ok (.if_icmp .ge 20, 3) := by decide +kernel
theorem dX4_number_17 : decode cX4_number 17 = .ok (.iload_n 3, 1) := by decide +kernel
theorem dX4_number_18 : decode cX4_number 18 = .ok (.ifCond .lt 16, 3) := by decide +kernel
theorem dX4_number_21 : decode cX4_number 21 = .ok (.iload_n 3, 1) := by decide +kernel
theorem dX4_number_22 : decode cX4_number 22 = .ok (.aload_n 0, 1) := by decide +kernel
theorem dX4_number_23 : decode cX4_number 23 = .ok (.getfield 21, 3) := by decide +kernel
theorem dX4_number_26 : decode cX4_number 26 = .ok (.arraylength, 1) := by decide +kernel
theorem dX4_number_27 : decode cX4_number 27 = .ok (.if_icmp .ge 7, 3) := by decide +kernel
theorem dX4_number_30 : decode cX4_number 30 = .ok (.iconst 1, 1) := by decide +kernel
theorem dX4_number_31 : decode cX4_number 31 = .ok (.goto 4, 3) := by decide +kernel
theorem dX4_number_34 : decode cX4_number 34 = .ok (.iconst 0, 1) := by decide +kernel
theorem dX4_number_35 : decode cX4_number 35 = .ok (.istore 4, 2) := by decide +kernel
theorem dX4_number_37 : decode cX4_number 37 = .ok (.iload 4, 2) := by decide +kernel
theorem dX4_number_39 : decode cX4_number 39 = .ok (.ifCond .eq 12, 3) := by decide +kernel
theorem dX4_number_42 : decode cX4_number 42 = .ok (.aload_n 0, 1) := by decide +kernel
theorem dX4_number_43 : decode cX4_number 43 = .ok (.getfield 21, 3) := by decide +kernel
theorem dX4_number_46 : decode cX4_number 46 = .ok (.iload_n 3, 1) := by decide +kernel
theorem dX4_number_47 : decode cX4_number 47 = .ok (.iaload, 1) := by decide +kernel
theorem dX4_number_48 : decode cX4_number 48 = .ok (.goto 4, 3) := by decide +kernel
theorem dX4_number_51 : decode cX4_number 51 = .ok (.iconst 0, 1) := by decide +kernel
theorem dX4_number_52 : decode cX4_number 52 = .ok (.ireturn, 1) := by decide +kernel
theorem dX4_join_0 : decode cX4_join 0 = .ok (.iconst 0, 1) := by decide +kernel
theorem dX4_join_1 : decode cX4_join 1 = .ok (.istore 4, 2) := by decide +kernel
theorem dX4_join_3 : decode cX4_join 3 = .ok (.iload 4, 2) := by decide +kernel
theorem dX4_join_5 : decode cX4_join 5 = .ok (.iload_n 3, 1) := by decide +kernel
theorem dX4_join_6 : decode cX4_join 6 = .ok (.iadd, 1) := by decide +kernel
theorem dX4_join_7 : decode cX4_join 7 = .ok (.aload_n 0, 1) := by decide +kernel
theorem dX4_join_8 : decode cX4_join 8 = .ok (.getfield 77, 3) := by decide +kernel
theorem dX4_join_11 : decode cX4_join 11 = .ok (.if_icmp .ge 25, 3) := by decide +kernel
theorem dX4_join_14 : decode cX4_join 14 = .ok (.aload_n 0, 1) := by decide +kernel
theorem dX4_join_15 : decode cX4_join 15 = .ok (.iload_n 1, 1) := by decide +kernel
theorem dX4_join_16 : decode cX4_join 16 = .ok (.iload 4, 2) := by decide +kernel
theorem dX4_join_18 : decode cX4_join 18 = .ok (.iload_n 3, 1) := by decide +kernel
theorem dX4_join_19 : decode cX4_join 19 = .ok (.iadd, 1) := by decide +kernel
theorem dX4_join_20 : decode cX4_join 20 = .ok (.aload_n 0, 1) := by decide +kernel
theorem dX4_join_21 : decode cX4_join 21 = .ok (.iload_n 2, 1) := by decide +kernel
theorem dX4_join_22 : decode cX4_join 22 = .ok (.iload 4, 2) := by decide +kernel
theorem dX4_join_24 : decode cX4_join 24 = .ok (.invokevirtual 138, 3) := by decide +kernel
theorem dX4_join_27 : decode cX4_join 27 = .ok (.invokevirtual 115, 3) := by decide +kernel
theorem dX4_join_30 : decode cX4_join 30 = .ok (.iinc 4 1, 3) := by decide +kernel
theorem dX4_join_33 : decode cX4_join 33 = .ok (.goto (-30), 3) := by decide +kernel
theorem dX4_join_36 : decode cX4_join 36 = .ok (.return_, 1) := by decide +kernel
theorem dX4_total_0 : decode cX4_total 0 = .ok (.aload_n 0, 1) := by decide +kernel
theorem dX4_total_1 : decode cX4_total 1 = .ok (.sipush 576, 3) := by decide +kernel
theorem dX4_total_4 : decode cX4_total 4 = .ok (.invokevirtual 141, 3) := by decide +kernel
theorem dX4_total_7 : decode cX4_total 7 = .ok (.ireturn, 1) := by decide +kernel
theorem dX4_allOf_0 : decode cX4_allOf 0 = .ok (.iconst 0, 1) := by decide +kernel
theorem dX4_allOf_1 : decode cX4_allOf 1 = .ok (.istore_n 2, 1) := by decide +kernel
theorem dX4_allOf_2 : decode cX4_allOf 2 = .ok (.iconst 0, 1) := by decide +kernel
theorem dX4_allOf_3 : decode cX4_allOf 3 = .ok (.istore_n 3, 1) := by decide +kernel
theorem dX4_allOf_4 : decode cX4_allOf 4 = .ok (.iload_n 3, 1) := by decide +kernel
theorem dX4_allOf_5 : decode cX4_allOf 5 = .ok (.aload_n 0, 1) := by decide +kernel
theorem dX4_allOf_6 : decode cX4_allOf 6 = .ok (.getfield 77, 3) := by decide +kernel
theorem dX4_allOf_9 : decode cX4_allOf 9 = .ok (.if_icmp .ge 18, 3) := by decide +kernel
theorem dX4_allOf_12 : decode cX4_allOf 12 = .ok (.iload_n 2, 1) := by decide +kernel
theorem dX4_allOf_13 : decode cX4_allOf 13 = .ok (.aload_n 0, 1) := by decide +kernel
theorem dX4_allOf_14 : decode cX4_allOf 14 = .ok (.iload_n 1, 1) := by decide +kernel
theorem dX4_allOf_15 : decode cX4_allOf 15 = .ok (.iload_n 3, 1) := by decide +kernel
theorem dX4_allOf_16 : decode cX4_allOf 16 = .ok (.invokevirtual 138, 3) := by decide +kernel
theorem dX4_allOf_19 : decode cX4_allOf 19 = .ok (.iadd, 1) := by decide +kernel
theorem dX4_allOf_20 : decode cX4_allOf 20 = .ok (.istore_n 2, 1) := by decide +kernel
theorem dX4_allOf_21 : decode cX4_allOf 21 = .ok (.iinc 3 1, 3) := by decide +kernel
theorem dX4_allOf_24 : decode cX4_allOf 24 = .ok (.goto (-20), 3) := by decide +kernel
theorem dX4_allOf_27 : decode cX4_allOf 27 = .ok (.iload_n 2, 1) := by decide +kernel
theorem dX4_allOf_28 : decode cX4_allOf 28 = .ok (.ireturn, 1) := by decide +kernel
theorem dX4_atLeast_0 : decode cX4_atLeast 0 = .ok (.iconst 0, 1) := by decide +kernel
theorem dX4_atLeast_1 : decode cX4_atLeast 1 = .ok (.istore_n 2, 1) := by decide +kernel
theorem dX4_atLeast_2 : decode cX4_atLeast 2 = .ok (.iload_n 1, 1) := by decide +kernel
theorem dX4_atLeast_3 : decode cX4_atLeast 3 = .ok (.istore_n 3, 1) := by decide +kernel
theorem dX4_atLeast_4 : decode cX4_atLeast 4 = .ok (.iload_n 3, 1) := by decide +kernel
theorem dX4_atLeast_5 : decode cX4_atLeast 5 = .ok (.aload_n 0, 1) := by decide +kernel
theorem dX4_atLeast_6 : decode cX4_atLeast 6 = .ok (.getfield 77, 3) := by decide +kernel
theorem dX4_atLeast_9 : decode cX4_atLeast 9 = .ok (.if_icmp .ge 20, 3) := by decide +kernel
theorem dX4_atLeast_12 : decode cX4_atLeast 12 = .ok (.iload_n 2, 1) := by decide +kernel
theorem dX4_atLeast_13 : decode cX4_atLeast 13 = .ok (.aload_n 0, 1) := by decide +kernel
theorem dX4_atLeast_14 : decode cX4_atLeast 14 = .ok (.sipush 576, 3) := by decide +kernel
theorem dX4_atLeast_17 : decode cX4_atLeast 17 = .ok (.iload_n 3, 1) := by decide +kernel
theorem dX4_atLeast_18 : decode cX4_atLeast 18 = .ok (.invokevirtual 138, 3) := by decide +kernel
theorem dX4_atLeast_21 : decode cX4_atLeast 21 = .ok (.iadd, 1) := by decide +kernel
theorem dX4_atLeast_22 : decode cX4_atLeast 22 = .ok (.istore_n 2, 1) := by decide +kernel
theorem dX4_atLeast_23 : decode cX4_atLeast 23 = .ok (.iinc 3 1, 3) := by decide +kernel
theorem dX4_atLeast_26 : decode cX4_atLeast 26 = .ok (.goto (-22), 3) := by decide +kernel
theorem dX4_atLeast_29 : decode cX4_atLeast 29 = .ok (.iload_n 2, 1) := by decide +kernel
theorem dX4_atLeast_30 : decode cX4_atLeast 30 = .ok (.ireturn, 1) := by decide +kernel
theorem dX4_least_0 : decode cX4_least 0 = .ok (.iconst 0, 1) := by decide +kernel
theorem dX4_least_1 : decode cX4_least 1 = .ok (.istore_n 1, 1) := by decide +kernel
theorem dX4_least_2 : decode cX4_least 2 = .ok (.iload_n 1, 1) := by decide +kernel
theorem dX4_least_3 : decode cX4_least 3 = .ok (.aload_n 0, 1) := by decide +kernel
theorem dX4_least_4 : decode cX4_least 4 = .ok (.getfield 77, 3) := by decide +kernel
theorem dX4_least_7 : decode cX4_least 7 = .ok (.if_icmp .ge 22, 3) := by decide +kernel
theorem dX4_least_10 : decode cX4_least 10 = .ok (.aload_n 0, 1) := by decide +kernel
theorem dX4_least_11 : decode cX4_least 11 = .ok (.sipush 576, 3) := by decide +kernel
theorem dX4_least_14 : decode cX4_least 14 = .ok (.iload_n 1, 1) := by decide +kernel
theorem dX4_least_15 : decode cX4_least 15 = .ok (.invokevirtual 138, 3) := by decide +kernel
theorem dX4_least_18 : decode cX4_least 18 = .ok (.ifCond .le 5, 3) := by decide +kernel
theorem dX4_least_21 : decode cX4_least 21 = .ok (.iload_n 1, 1) := by decide +kernel
theorem dX4_least_22 : decode cX4_least 22 = .ok (.ireturn, 1) := by decide +kernel
theorem dX4_least_23 : decode cX4_least 23 = .ok (.iinc 1 1, 3) := by decide +kernel
theorem dX4_least_26 : decode cX4_least 26 = .ok (.goto (-24), 3) := by decide +kernel
theorem dX4_least_29 : decode cX4_least 29 = .ok (.iconst 0, 1) := by decide +kernel
theorem dX4_least_30 : decode cX4_least 30 = .ok (.ireturn, 1) := by decide +kernel
theorem dX4_greatest_0 : decode cX4_greatest 0 = .ok (.aload_n 0, 1) := by decide +kernel
theorem dX4_greatest_1 : decode cX4_greatest 1 = .ok (.getfield 77, 3) := by decide +kernel
theorem dX4_greatest_4 : decode cX4_greatest 4 = .ok (.iconst 1, 1) := by decide +kernel
theorem dX4_greatest_5 : decode cX4_greatest 5 = .ok (.isub, 1) := by decide +kernel
theorem dX4_greatest_6 : decode cX4_greatest 6 = .ok (.istore_n 1, 1) := by decide +kernel
theorem dX4_greatest_7 : decode cX4_greatest 7 = .ok (.iload_n 1, 1) := by decide +kernel
theorem dX4_greatest_8 : decode cX4_greatest 8 = .ok (.ifCond .le 22, 3) := by decide +kernel
theorem dX4_greatest_11 : decode cX4_greatest 11 = .ok (.aload_n 0, 1) := by decide +kernel
theorem dX4_greatest_12 : decode cX4_greatest 12 = .ok (.sipush 576, 3) := by decide +kernel
theorem dX4_greatest_15 : decode cX4_greatest 15 = .ok (.iload_n 1, 1) := by decide +kernel
theorem dX4_greatest_16 : decode cX4_greatest 16 = .ok (.invokevirtual 138, 3) := by decide +kernel
theorem dX4_greatest_19 : decode cX4_greatest 19 = .ok (.ifCond .le 5, 3) := by decide +kernel
theorem dX4_greatest_22 : decode cX4_greatest 22 = .ok (.iload_n 1, 1) := by decide +kernel
theorem dX4_greatest_23 : decode cX4_greatest 23 = .ok (.ireturn, 1) := by decide +kernel
theorem dX4_greatest_24 : decode cX4_greatest 24 = .ok (.iinc 1 (-1), 3) := by decide +kernel
theorem dX4_greatest_27 : decode cX4_greatest 27 = .ok (.goto (-20), 3) := by decide +kernel
theorem dX4_greatest_30 : decode cX4_greatest 30 = .ok (.iconst 0, 1) := by decide +kernel
theorem dX4_greatest_31 : decode cX4_greatest 31 = .ok (.ireturn, 1) := by decide +kernel
theorem dX4_sum_0 : decode cX4_sum 0 = .ok (.iconst 0, 1) := by decide +kernel
theorem dX4_sum_1 : decode cX4_sum 1 = .ok (.istore_n 1, 1) := by decide +kernel
theorem dX4_sum_2 : decode cX4_sum 2 = .ok (.iconst 0, 1) := by decide +kernel
theorem dX4_sum_3 : decode cX4_sum 3 = .ok (.istore_n 2, 1) := by decide +kernel
theorem dX4_sum_4 : decode cX4_sum 4 = .ok (.iload_n 2, 1) := by decide +kernel
theorem dX4_sum_5 : decode cX4_sum 5 = .ok (.aload_n 0, 1) := by decide +kernel
theorem dX4_sum_6 : decode cX4_sum 6 = .ok (.getfield 77, 3) := by decide +kernel
theorem dX4_sum_9 : decode cX4_sum 9 = .ok (.if_icmp .ge 22, 3) := by decide +kernel
theorem dX4_sum_12 : decode cX4_sum 12 = .ok (.iload_n 1, 1) := by decide +kernel
theorem dX4_sum_13 : decode cX4_sum 13 = .ok (.iload_n 2, 1) := by decide +kernel
theorem dX4_sum_14 : decode cX4_sum 14 = .ok (.aload_n 0, 1) := by decide +kernel
theorem dX4_sum_15 : decode cX4_sum 15 = .ok (.sipush 576, 3) := by decide +kernel
theorem dX4_sum_18 : decode cX4_sum 18 = .ok (.iload_n 2, 1) := by decide +kernel
theorem dX4_sum_19 : decode cX4_sum 19 = .ok (.invokevirtual 138, 3) := by decide +kernel
theorem dX4_sum_22 : decode cX4_sum 22 = .ok (.imul, 1) := by decide +kernel
theorem dX4_sum_23 : decode cX4_sum 23 = .ok (.iadd, 1) := by decide +kernel
theorem dX4_sum_24 : decode cX4_sum 24 = .ok (.istore_n 1, 1) := by decide +kernel
theorem dX4_sum_25 : decode cX4_sum 25 = .ok (.iinc 2 1, 3) := by decide +kernel
theorem dX4_sum_28 : decode cX4_sum 28 = .ok (.goto (-24), 3) := by decide +kernel
theorem dX4_sum_31 : decode cX4_sum 31 = .ok (.iload_n 1, 1) := by decide +kernel
theorem dX4_sum_32 : decode cX4_sum 32 = .ok (.ireturn, 1) := by decide +kernel
theorem dX4_placeOfRow_0 : decode cX4_placeOfRow 0 = .ok (.iconst 0, 1) := by decide +kernel
theorem dX4_placeOfRow_1 : decode cX4_placeOfRow 1 = .ok (.istore_n 1, 1) := by decide +kernel
theorem dX4_placeOfRow_2 : decode cX4_placeOfRow 2 = .ok (.aload_n 0, 1) := by decide +kernel
theorem dX4_placeOfRow_3 : decode cX4_placeOfRow 3 = .ok (.getfield 46, 3) := by decide +kernel
theorem dX4_placeOfRow_6 : decode cX4_placeOfRow 6 = .ok (.istore_n 2, 1) := by decide +kernel
theorem dX4_placeOfRow_7 : decode cX4_placeOfRow 7 = .ok (.iconst 0, 1) := by decide +kernel
theorem dX4_placeOfRow_8 : decode cX4_placeOfRow 8 = .ok (.istore_n 3, 1) := by decide +kernel
theorem dX4_placeOfRow_9 : decode cX4_placeOfRow 9 = .ok (.iconst 0, 1) := by decide +kernel
theorem dX4_placeOfRow_10 : decode cX4_placeOfRow 10 = .ok (.istore 4, 2) := by decide +kernel
theorem dX4_placeOfRow_12 : decode cX4_placeOfRow 12 = .ok (.iload 4, 2) := by decide +kernel
theorem dX4_placeOfRow_14 : decode cX4_placeOfRow 14 = .ok (.aload_n 0, 1) := by decide +kernel
theorem dX4_placeOfRow_15 : decode cX4_placeOfRow 15 = .ok (.getfield 68, 3) := by decide +kernel
theorem dX4_placeOfRow_18 : decode cX4_placeOfRow 18 = .ok (.if_icmp .ge 63, 3) := by decide +kernel
theorem dX4_placeOfRow_21 : decode cX4_placeOfRow 21 = .ok (.aload_n 0, 1) := by decide +kernel
theorem dX4_placeOfRow_22 : decode cX4_placeOfRow 22 = .ok (.getfield 59, 3) := by decide +kernel
theorem dX4_placeOfRow_25 : decode cX4_placeOfRow 25 = .ok (.iload 4, 2) := by decide +kernel
theorem dX4_placeOfRow_27 : decode cX4_placeOfRow 27 = .ok (.invokestatic 102, 3) := by decide +kernel
theorem dX4_placeOfRow_30 : decode cX4_placeOfRow 30 = .ok (.istore 5, 2) := by decide +kernel
theorem dX4_placeOfRow_32 : decode cX4_placeOfRow 32 = .ok (.iconst 0, 1) := by decide +kernel
theorem dX4_placeOfRow_33 : decode cX4_placeOfRow 33 = .ok (.istore 6, 2) := by decide +kernel
theorem dX4_placeOfRow_35 : decode cX4_placeOfRow 35 = .ok (.iload 6, 2) := by decide +kernel
theorem dX4_placeOfRow_37 : decode cX4_placeOfRow 37 = .ok (.iload 5, 2) := by decide +kernel
theorem dX4_placeOfRow_39 : decode cX4_placeOfRow 39 = .ok (.if_icmp .ge 22, 3) := by decide +kernel
theorem dX4_placeOfRow_42 : decode cX4_placeOfRow 42 = .ok (.iload_n 1, 1) := by decide +kernel
theorem dX4_placeOfRow_43 : decode cX4_placeOfRow 43 = .ok (.aload_n 0, 1) := by decide +kernel
theorem dX4_placeOfRow_44 : decode cX4_placeOfRow 44 = .ok (.iload_n 2, 1) := by decide +kernel
theorem dX4_placeOfRow_45 : decode cX4_placeOfRow 45 = .ok (.iload_n 3, 1) := by decide +kernel
theorem dX4_placeOfRow_46 : decode cX4_placeOfRow 46 = .ok (.iload 4, 2) := by decide +kernel
theorem dX4_placeOfRow_48 : decode cX4_placeOfRow 48 = .ok (.iload 6, 2) := by decide +kernel
theorem dX4_placeOfRow_50 : decode cX4_placeOfRow 50 = .ok (.invokevirtual 144, 3) := by decide +kernel
theorem dX4_placeOfRow_53 : decode cX4_placeOfRow 53 = .ok (.iadd, 1) := by decide +kernel
theorem dX4_placeOfRow_54 : decode cX4_placeOfRow 54 = .ok (.istore_n 1, 1) := by decide +kernel
theorem dX4_placeOfRow_55 : decode cX4_placeOfRow 55 = .ok (.iinc 6 1, 3) := by decide +kernel
theorem dX4_placeOfRow_58 : decode cX4_placeOfRow 58 = .ok (.goto (-23), 3) := by decide +kernel
theorem dX4_placeOfRow_61 : decode cX4_placeOfRow 61 = .ok (.aload_n 0, 1) := by decide +kernel
theorem dX4_placeOfRow_62 : decode cX4_placeOfRow 62 = .ok (.iload_n 2, 1) := by decide +kernel
theorem dX4_placeOfRow_63 : decode cX4_placeOfRow 63 = .ok (.iload_n 3, 1) := by decide +kernel
theorem dX4_placeOfRow_64 : decode cX4_placeOfRow 64 = .ok (.iload 4, 2) := by decide +kernel
theorem dX4_placeOfRow_66 : decode cX4_placeOfRow 66 = .ok (.iload 5, 2) := by decide +kernel
theorem dX4_placeOfRow_68 : decode cX4_placeOfRow 68 = .ok (.invokevirtual 119, 3) := by decide +kernel
theorem dX4_placeOfRow_71 : decode cX4_placeOfRow 71 = .ok (.istore_n 2, 1) := by decide +kernel
theorem dX4_placeOfRow_72 : decode cX4_placeOfRow 72 = .ok (.iload 5, 2) := by decide +kernel
theorem dX4_placeOfRow_74 : decode cX4_placeOfRow 74 = .ok (.istore_n 3, 1) := by decide +kernel
theorem dX4_placeOfRow_75 : decode cX4_placeOfRow 75 = .ok (.iinc 4 1, 3) := by decide +kernel
theorem dX4_placeOfRow_78 : decode cX4_placeOfRow 78 = .ok (.goto (-66), 3) := by decide +kernel
theorem dX4_placeOfRow_81 : decode cX4_placeOfRow 81 = .ok (.iload_n 1, 1) := by decide +kernel
theorem dX4_placeOfRow_82 : decode cX4_placeOfRow 82 = .ok (.ireturn, 1) := by decide +kernel
theorem dX4_continued_0 : decode cX4_continued 0 = .ok (.aload_n 0, 1) := by decide +kernel
theorem dX4_continued_1 : decode cX4_continued 1 = .ok (.iload_n 1, 1) := by decide +kernel
theorem dX4_continued_2 : decode cX4_continued 2 = .ok (.iload_n 2, 1) := by decide +kernel
theorem dX4_continued_3 : decode cX4_continued 3 = .ok (.iload_n 3, 1) := by decide +kernel
theorem dX4_continued_4 : decode cX4_continued 4 = .ok (.iload 4, 2) := by decide +kernel
theorem dX4_continued_6 : decode cX4_continued 6 = .ok (.invokevirtual 119, 3) := by decide +kernel
theorem dX4_continued_9 : decode cX4_continued 9 = .ok (.istore 5, 2) := by decide +kernel
theorem dX4_continued_11 : decode cX4_continued 11 = .ok (.iload 5, 2) := by decide +kernel
theorem dX4_continued_13 : decode cX4_continued 13 = .ok (.iconst (-1), 1) := by decide +kernel
theorem dX4_continued_14 : decode cX4_continued 14 = .ok (.if_icmp .ne 7, 3) := by decide +kernel
theorem dX4_continued_17 : decode cX4_continued 17 = .ok (.iconst 0, 1) := by decide +kernel
theorem dX4_continued_18 : decode cX4_continued 18 = .ok (.goto 18, 3) := by decide +kernel
theorem dX4_continued_21 : decode cX4_continued 21 = .ok (.aload_n 0, 1) := by decide +kernel
theorem dX4_continued_22 : decode cX4_continued 22 = .ok (.aload_n 0, 1) := by decide +kernel
theorem dX4_continued_23 : decode cX4_continued 23 = .ok (.iload 5, 2) := by decide +kernel
theorem dX4_continued_25 : decode cX4_continued 25 = .ok (.iload 4, 2) := by decide +kernel
theorem dX4_continued_27 : decode cX4_continued 27 = .ok (.iload_n 3, 1) := by decide +kernel
theorem dX4_continued_28 : decode cX4_continued 28 = .ok (.iconst 1, 1) := by decide +kernel
theorem dX4_continued_29 : decode cX4_continued 29 = .ok (.iadd, 1) := by decide +kernel
theorem dX4_continued_30 : decode cX4_continued 30 = .ok (.invokevirtual 105, 3) := by decide +kernel
theorem dX4_continued_33 : decode cX4_continued 33 = .ok (.invokevirtual 141, 3) := by decide +kernel
theorem dX4_continued_36 : decode cX4_continued 36 = .ok (.ireturn, 1) := by decide +kernel
theorem dX4_rowAt_0 : decode cX4_rowAt 0 = .ok (.iconst 0, 1) := by decide +kernel
theorem dX4_rowAt_1 : decode cX4_rowAt 1 = .ok (.istore_n 2, 1) := by decide +kernel
theorem dX4_rowAt_2 : decode cX4_rowAt 2 = .ok (.iload_n 1, 1) := by decide +kernel
theorem dX4_rowAt_3 : decode cX4_rowAt 3 = .ok (.istore_n 3, 1) := by decide +kernel
theorem dX4_rowAt_4 : decode cX4_rowAt 4 = .ok (.aload_n 0, 1) := by decide +kernel
theorem dX4_rowAt_5 : decode cX4_rowAt 5 = .ok (.getfield 46, 3) := by decide +kernel
theorem dX4_rowAt_8 : decode cX4_rowAt 8 = .ok (.istore 4, 2) := by decide +kernel
theorem dX4_rowAt_10 : decode cX4_rowAt 10 = .ok (.iconst 0, 1) := by decide +kernel
theorem dX4_rowAt_11 : decode cX4_rowAt 11 = .ok (.istore 5, 2) := by decide +kernel
theorem dX4_rowAt_13 : decode cX4_rowAt 13 = .ok (.iconst 0, 1) := by decide +kernel
theorem dX4_rowAt_14 : decode cX4_rowAt 14 = .ok (.istore 6, 2) := by decide +kernel
theorem dX4_rowAt_16 : decode cX4_rowAt 16 = .ok (.iload 6, 2) := by decide +kernel
theorem dX4_rowAt_18 : decode cX4_rowAt 18 = .ok (.aload_n 0, 1) := by decide +kernel
theorem dX4_rowAt_19 : decode cX4_rowAt 19 = .ok (.getfield 68, 3) := by decide +kernel
theorem dX4_rowAt_22 : decode cX4_rowAt 22 = .ok (.if_icmp .ge 77, 3) := by decide +kernel
theorem dX4_rowAt_25 : decode cX4_rowAt 25 = .ok (.iconst 0, 1) := by decide +kernel
theorem dX4_rowAt_26 : decode cX4_rowAt 26 = .ok (.istore 7, 2) := by decide +kernel
theorem dX4_rowAt_28 : decode cX4_rowAt 28 = .ok (.iload 7, 2) := by decide +kernel
theorem dX4_rowAt_30 : decode cX4_rowAt 30 = .ok (.iconst 3, 1) := by decide +kernel
theorem dX4_rowAt_31 : decode cX4_rowAt 31 = .ok (.if_icmp .ge 37, 3) := by decide +kernel
theorem dX4_rowAt_34 : decode cX4_rowAt 34 = .ok (.aload_n 0, 1) := by decide +kernel
theorem dX4_rowAt_35 : decode cX4_rowAt 35 = .ok (.iload 4, 2) := by decide +kernel
theorem dX4_rowAt_37 : decode cX4_rowAt 37 = .ok (.iload 5, 2) := by decide +kernel
theorem dX4_rowAt_39 : decode cX4_rowAt 39 = .ok (.iload 6, 2) := by decide +kernel
theorem dX4_rowAt_41 : decode cX4_rowAt 41 = .ok (.iload 7, 2) := by decide +kernel
theorem dX4_rowAt_43 : decode cX4_rowAt 43 = .ok (.invokevirtual 144, 3) := by decide +kernel
theorem dX4_rowAt_46 : decode cX4_rowAt 46 = .ok (.istore 8, 2) := by decide +kernel
theorem dX4_rowAt_48 : decode cX4_rowAt 48 = .ok (.iload_n 3, 1) := by decide +kernel
theorem dX4_rowAt_49 : decode cX4_rowAt 49 = .ok (.iload 8, 2) := by decide +kernel
theorem dX4_rowAt_51 : decode cX4_rowAt 51 = .ok (.if_icmp .ge 6, 3) := by decide +kernel
theorem dX4_rowAt_54 : decode cX4_rowAt 54 = .ok (.goto 14, 3) := by decide +kernel
theorem dX4_rowAt_57 : decode cX4_rowAt 57 = .ok (.iload_n 3, 1) := by decide +kernel
theorem dX4_rowAt_58 : decode cX4_rowAt 58 = .ok (.iload 8, 2) := by decide +kernel
theorem dX4_rowAt_60 : decode cX4_rowAt 60 = .ok (.isub, 1) := by decide +kernel
theorem dX4_rowAt_61 : decode cX4_rowAt 61 = .ok (.istore_n 3, 1) := by decide +kernel
theorem dX4_rowAt_62 : decode cX4_rowAt 62 = .ok (.iinc 7 1, 3) := by decide +kernel
theorem dX4_rowAt_65 : decode cX4_rowAt 65 = .ok (.goto (-37), 3) := by decide +kernel
theorem dX4_rowAt_68 : decode cX4_rowAt 68 = .ok (.iload_n 2, 1) := by decide +kernel
theorem dX4_rowAt_69 : decode cX4_rowAt 69 = .ok (.iload 7, 2) := by decide +kernel
theorem dX4_rowAt_71 : decode cX4_rowAt 71 = .ok (.invokestatic 87, 3) := by decide +kernel
theorem dX4_rowAt_74 : decode cX4_rowAt 74 = .ok (.istore_n 2, 1) := by decide +kernel
theorem dX4_rowAt_75 : decode cX4_rowAt 75 = .ok (.aload_n 0, 1) := by decide +kernel
theorem dX4_rowAt_76 : decode cX4_rowAt 76 = .ok (.iload 4, 2) := by decide +kernel
theorem dX4_rowAt_78 : decode cX4_rowAt 78 = .ok (.iload 5, 2) := by decide +kernel
theorem dX4_rowAt_80 : decode cX4_rowAt 80 = .ok (.iload 6, 2) := by decide +kernel
theorem dX4_rowAt_82 : decode cX4_rowAt 82 = .ok (.iload 7, 2) := by decide +kernel
theorem dX4_rowAt_84 : decode cX4_rowAt 84 = .ok (.invokevirtual 119, 3) := by decide +kernel
theorem dX4_rowAt_87 : decode cX4_rowAt 87 = .ok (.istore 4, 2) := by decide +kernel
theorem dX4_rowAt_89 : decode cX4_rowAt 89 = .ok (.iload 7, 2) := by decide +kernel
theorem dX4_rowAt_91 : decode cX4_rowAt 91 = .ok (.istore 5, 2) := by decide +kernel
theorem dX4_rowAt_93 : decode cX4_rowAt 93 = .ok (.iinc 6 1, 3) := by decide +kernel
theorem dX4_rowAt_96 : decode cX4_rowAt 96 = .ok (.goto (-80), 3) := by decide +kernel
theorem dX4_rowAt_99 : decode cX4_rowAt 99 = .ok (.iload_n 2, 1) := by decide +kernel
theorem dX4_rowAt_100 : decode cX4_rowAt 100 = .ok (.ireturn, 1) := by decide +kernel
theorem dX4_firstPlaceWith_0 : decode cX4_firstPlaceWith 0 = .ok (.iconst 0, 1) := by decide +kernel
theorem dX4_firstPlaceWith_1 : decode cX4_firstPlaceWith 1 = .ok (.istore_n 2, 1) := by decide +kernel
theorem dX4_firstPlaceWith_2 : decode cX4_firstPlaceWith 2 = .ok (.iload_n 1, 1) := by decide +kernel
theorem dX4_firstPlaceWith_3 : decode cX4_firstPlaceWith 3 = .ok (.istore_n 3, 1) := by decide +kernel
theorem dX4_firstPlaceWith_4 : decode cX4_firstPlaceWith 4 = .ok (.aload_n 0, 1) := by decide +kernel
theorem dX4_firstPlaceWith_5 : decode cX4_firstPlaceWith 5 = .ok (.getfield 46, 3) := by decide +kernel
theorem dX4_firstPlaceWith_8 : decode cX4_firstPlaceWith 8 = .ok (.istore 4, 2) := by decide +kernel
theorem dX4_firstPlaceWith_10 : decode cX4_firstPlaceWith 10 = .ok (.iconst 0, 1) := by decide +kernel
theorem dX4_firstPlaceWith_11 : decode cX4_firstPlaceWith 11 = .ok (.istore 5, 2) := by decide +kernel
theorem dX4_firstPlaceWith_13 : decode cX4_firstPlaceWith 13 = .ok (.iconst 0, 1) := by decide +kernel
theorem dX4_firstPlaceWith_14 : decode cX4_firstPlaceWith 14 = .ok (.istore 6, 2) := by decide +kernel
theorem dX4_firstPlaceWith_16 : decode cX4_firstPlaceWith 16 = .ok (.iload 6, 2) := by decide +kernel
theorem dX4_firstPlaceWith_18 : decode cX4_firstPlaceWith 18 = .ok (.aload_n 0, 1) := by decide +kernel
theorem dX4_firstPlaceWith_19 : decode cX4_firstPlaceWith 19 = .ok (.getfield 68, 3) := by decide +kernel
theorem dX4_firstPlaceWith_22 : decode cX4_firstPlaceWith 22 = .ok (.if_icmp .ge 86, 3) := by decide +kernel
theorem dX4_firstPlaceWith_25 : decode cX4_firstPlaceWith 25 = .ok (.iconst 0, 1) := by decide +kernel
theorem dX4_firstPlaceWith_26 : decode cX4_firstPlaceWith 26 = .ok (.istore 7, 2) := by decide +kernel
theorem dX4_firstPlaceWith_28 : decode cX4_firstPlaceWith 28 = .ok (.iload 7, 2) := by decide +kernel
theorem dX4_firstPlaceWith_30 : decode cX4_firstPlaceWith 30 = .ok (.iconst 3, 1) := by decide +kernel
theorem dX4_firstPlaceWith_31 : decode cX4_firstPlaceWith 31 = .ok (.if_icmp .ge 40, 3) := by decide +kernel
theorem dX4_firstPlaceWith_34 : decode cX4_firstPlaceWith 34 = .ok (.aload_n 0, 1) := by decide +kernel
theorem dX4_firstPlaceWith_35 : decode cX4_firstPlaceWith 35 = .ok (.iload 4, 2) := by decide +kernel
theorem dX4_firstPlaceWith_37 : decode cX4_firstPlaceWith 37 = .ok (.iload 5, 2) := by decide +kernel
theorem dX4_firstPlaceWith_39 : decode cX4_firstPlaceWith 39 = .ok (.iload 6, 2) := by decide +kernel
theorem dX4_firstPlaceWith_41 : decode cX4_firstPlaceWith 41 = .ok (.iload 7, 2) := by decide +kernel
theorem dX4_firstPlaceWith_43 : decode cX4_firstPlaceWith 43 = .ok (.iload_n 3, 1) := by decide +kernel
theorem dX4_firstPlaceWith_44 : decode cX4_firstPlaceWith 44 = .ok (.invokevirtual 147, 3) := by decide +kernel
theorem dX4_firstPlaceWith_47 : decode cX4_firstPlaceWith 47 = .ok (.ifCond .ne 24, 3) := by decide +kernel
theorem dX4_firstPlaceWith_50 : decode cX4_firstPlaceWith 50 = .ok (.iload_n 2, 1) := by decide +kernel
theorem dX4_firstPlaceWith_51 : decode cX4_firstPlaceWith 51 = .ok (.aload_n 0, 1) := by decide +kernel
theorem dX4_firstPlaceWith_52 : decode cX4_firstPlaceWith 52 = .ok (.iload 4, 2) := by decide +kernel
theorem dX4_firstPlaceWith_54 : decode cX4_firstPlaceWith 54 = .ok (.iload 5, 2) := by decide +kernel
theorem dX4_firstPlaceWith_56 : decode cX4_firstPlaceWith 56 = .ok (.iload 6, 2) := by decide +kernel
theorem dX4_firstPlaceWith_58 : decode cX4_firstPlaceWith 58 = .ok (.iload 7, 2) := by decide +kernel
theorem dX4_firstPlaceWith_60 : decode cX4_firstPlaceWith 60 = .ok (.invokevirtual 144, 3) := by decide +kernel
theorem dX4_firstPlaceWith_63 : decode cX4_firstPlaceWith 63 = .ok (.iadd, 1) := by decide +kernel
theorem dX4_firstPlaceWith_64 : decode cX4_firstPlaceWith 64 = .ok (.istore_n 2, 1) := by decide +kernel
theorem dX4_firstPlaceWith_65 : decode cX4_firstPlaceWith 65 = .ok (.iinc 7 1, 3) := by decide +kernel
theorem dX4_firstPlaceWith_68 : decode cX4_firstPlaceWith 68 = .ok (.goto (-40), 3) := by decide +kernel
theorem dX4_firstPlaceWith_71 : decode cX4_firstPlaceWith 71 = .ok (.iload_n 3, 1) := by decide +kernel
theorem dX4_firstPlaceWith_72 : decode cX4_firstPlaceWith 72 = .ok (.aload_n 0, 1) := by decide +kernel
theorem dX4_firstPlaceWith_73 : decode cX4_firstPlaceWith 73 = .ok (.iload 6, 2) := by decide +kernel
theorem dX4_firstPlaceWith_75 : decode cX4_firstPlaceWith 75 = .ok (.iload 5, 2) := by decide +kernel
theorem dX4_firstPlaceWith_77 : decode cX4_firstPlaceWith 77 = .ok (.iload 7, 2) := by decide +kernel
theorem dX4_firstPlaceWith_79 : decode cX4_firstPlaceWith 79 = .ok (.invokevirtual 123, 3) := by decide +kernel
theorem dX4_firstPlaceWith_82 : decode cX4_firstPlaceWith 82 = .ok (.isub, 1) := by decide +kernel
theorem dX4_firstPlaceWith_83 : decode cX4_firstPlaceWith 83 = .ok (.istore_n 3, 1) := by decide +kernel
theorem dX4_firstPlaceWith_84 : decode cX4_firstPlaceWith 84 = .ok (.aload_n 0, 1) := by decide +kernel
theorem dX4_firstPlaceWith_85 : decode cX4_firstPlaceWith 85 = .ok (.iload 4, 2) := by decide +kernel
theorem dX4_firstPlaceWith_87 : decode cX4_firstPlaceWith 87 = .ok (.iload 5, 2) := by decide +kernel
theorem dX4_firstPlaceWith_89 : decode cX4_firstPlaceWith 89 = .ok (.iload 6, 2) := by decide +kernel
theorem dX4_firstPlaceWith_91 : decode cX4_firstPlaceWith 91 = .ok (.iload 7, 2) := by decide +kernel
theorem dX4_firstPlaceWith_93 : decode cX4_firstPlaceWith 93 = .ok (.invokevirtual 119, 3) := by decide +kernel
theorem dX4_firstPlaceWith_96 : decode cX4_firstPlaceWith 96 = .ok (.istore 4, 2) := by decide +kernel
theorem dX4_firstPlaceWith_98 : decode cX4_firstPlaceWith 98 = .ok (.iload 7, 2) := by decide +kernel
theorem dX4_firstPlaceWith_100 : decode cX4_firstPlaceWith 100 = .ok (.istore 5, 2) := by decide +kernel
theorem dX4_firstPlaceWith_102 : decode cX4_firstPlaceWith 102 = .ok (.iinc 6 1, 3) := by decide +kernel
theorem dX4_firstPlaceWith_105 : decode cX4_firstPlaceWith 105 = .ok (.goto (-89), 3) := by decide +kernel
theorem dX4_firstPlaceWith_108 : decode cX4_firstPlaceWith 108 = .ok (.iload_n 2, 1) := by decide +kernel
theorem dX4_firstPlaceWith_109 : decode cX4_firstPlaceWith 109 = .ok (.ireturn, 1) := by decide +kernel
theorem dX4_canGain_0 : decode cX4_canGain 0 = .ok (.aload_n 0, 1) := by decide +kernel
theorem dX4_canGain_1 : decode cX4_canGain 1 = .ok (.iload_n 1, 1) := by decide +kernel
theorem dX4_canGain_2 : decode cX4_canGain 2 = .ok (.iload_n 2, 1) := by decide +kernel
theorem dX4_canGain_3 : decode cX4_canGain 3 = .ok (.iload_n 3, 1) := by decide +kernel
theorem dX4_canGain_4 : decode cX4_canGain 4 = .ok (.iload 4, 2) := by decide +kernel
theorem dX4_canGain_6 : decode cX4_canGain 6 = .ok (.invokevirtual 119, 3) := by decide +kernel
theorem dX4_canGain_9 : decode cX4_canGain 9 = .ok (.istore 6, 2) := by decide +kernel
theorem dX4_canGain_11 : decode cX4_canGain 11 = .ok (.iload 5, 2) := by decide +kernel
theorem dX4_canGain_13 : decode cX4_canGain 13 = .ok (.aload_n 0, 1) := by decide +kernel
theorem dX4_canGain_14 : decode cX4_canGain 14 = .ok (.iload_n 3, 1) := by decide +kernel
theorem dX4_canGain_15 : decode cX4_canGain 15 = .ok (.iload_n 2, 1) := by decide +kernel
theorem dX4_canGain_16 : decode cX4_canGain 16 = .ok (.iload 4, 2) := by decide +kernel
theorem dX4_canGain_18 : decode cX4_canGain 18 = .ok (.invokevirtual 123, 3) := by decide +kernel
theorem dX4_canGain_21 : decode cX4_canGain 21 = .ok (.isub, 1) := by decide +kernel
theorem dX4_canGain_22 : decode cX4_canGain 22 = .ok (.istore 7, 2) := by decide +kernel
theorem dX4_canGain_24 : decode cX4_canGain 24 = .ok (.iload 6, 2) := by decide +kernel
theorem dX4_canGain_26 : decode cX4_canGain 26 = .ok (.iconst (-1), 1) := by decide +kernel
theorem dX4_canGain_27 : decode cX4_canGain 27 = .ok (.if_icmp .eq 27, 3) := by decide +kernel
theorem dX4_canGain_30 : decode cX4_canGain 30 = .ok (.aload_n 0, 1) := by decide +kernel
theorem dX4_canGain_31 : decode cX4_canGain 31 = .ok (.aload_n 0, 1) := by decide +kernel
theorem dX4_canGain_32 : decode cX4_canGain 32 = .ok (.iload 6, 2) := by decide +kernel
theorem dX4_canGain_34 : decode cX4_canGain 34 = .ok (.iload 4, 2) := by decide +kernel
theorem dX4_canGain_36 : decode cX4_canGain 36 = .ok (.iload_n 3, 1) := by decide +kernel
theorem dX4_canGain_37 : decode cX4_canGain 37 = .ok (.iconst 1, 1) := by decide +kernel
theorem dX4_canGain_38 : decode cX4_canGain 38 = .ok (.iadd, 1) := by decide +kernel
theorem dX4_canGain_39 : decode cX4_canGain 39 = .ok (.invokevirtual 105, 3) := by decide +kernel
theorem dX4_canGain_42 : decode cX4_canGain 42 = .ok (.iload 7, 2) := by decide +kernel
theorem dX4_canGain_44 : decode cX4_canGain 44 = .ok (.invokevirtual 138, 3) := by decide +kernel
theorem dX4_canGain_47 : decode cX4_canGain 47 = .ok (.ifCond .le 7, 3) := by decide +kernel
theorem dX4_canGain_50 : decode cX4_canGain 50 = .ok (.iconst 1, 1) := by decide +kernel
theorem dX4_canGain_51 : decode cX4_canGain 51 = .ok (.goto 4, 3) := by decide +kernel
theorem dX4_canGain_54 : decode cX4_canGain 54 = .ok (.iconst 0, 1) := by decide +kernel
theorem dX4_canGain_55 : decode cX4_canGain 55 = .ok (.ireturn, 1) := by decide +kernel
theorem dX5_init_0 : decode cX5_init 0 = .ok (.aload_n 0, 1) := by decide +kernel
theorem dX5_init_1 : decode cX5_init 1 = .ok (.invokespecial 1, 3) := by decide +kernel
theorem dX5_init_4 : decode cX5_init 4 = .ok (.aload_n 0, 1) := by decide +kernel
theorem dX5_init_5 : decode cX5_init 5 = .ok (.new 7, 3) := by decide +kernel
theorem dX5_init_8 : decode cX5_init 8 = .ok (.dup, 1) := by decide +kernel
theorem dX5_init_9 : decode cX5_init 9 = .ok (.invokespecial 9, 3) := by decide +kernel
theorem dX5_init_12 : decode cX5_init 12 = .ok (.putfield 10, 3) := by decide +kernel
theorem dX5_init_15 : decode cX5_init 15 = .ok (.aload_n 0, 1) := by decide +kernel
theorem dX5_init_16 : decode cX5_init 16 = .ok (.iconst 4, 1) := by decide +kernel
theorem dX5_init_17 : decode cX5_init 17 = .ok (.anewarray 7, 3) := by decide +kernel
theorem dX5_init_20 : decode cX5_init 20 = .ok (.putfield 16, 3) := by decide +kernel
theorem dX5_init_23 : decode cX5_init 23 = .ok (.aload_n 0, 1) := by decide +kernel
theorem dX5_init_24 : decode cX5_init 24 = .ok (.new 20, 3) := by decide +kernel
theorem dX5_init_27 : decode cX5_init 27 = .ok (.dup, 1) := by decide +kernel
theorem dX5_init_28 : decode cX5_init 28 = .ok (.invokespecial 22, 3) := by decide +kernel
theorem dX5_init_31 : decode cX5_init 31 = .ok (.putfield 23, 3) := by decide +kernel
theorem dX5_init_34 : decode cX5_init 34 = .ok (.aload_n 0, 1) := by decide +kernel
theorem dX5_init_35 : decode cX5_init 35 = .ok (.new 27, 3) := by decide +kernel
theorem dX5_init_38 : decode cX5_init 38 = .ok (.dup, 1) := by decide +kernel
theorem dX5_init_39 : decode cX5_init 39 = .ok (.invokespecial 29, 3) := by decide +kernel
theorem dX5_init_42 : decode cX5_init 42 = .ok (.putfield 30, 3) := by decide +kernel
theorem dX5_init_45 : decode cX5_init 45 = .ok (.aload_n 0, 1) := by decide +kernel
theorem dX5_init_46 : decode cX5_init 46 = .ok (.new 34, 3) := by decide +kernel
theorem dX5_init_49 : decode cX5_init 49 = .ok (.dup, 1) := by decide +kernel
theorem dX5_init_50 : decode cX5_init 50 = .ok (.invokespecial 36, 3) := by decide +kernel
theorem dX5_init_53 : decode cX5_init 53 = .ok (.putfield 37, 3) := by decide +kernel
theorem dX5_init_56 : decode cX5_init 56 = .ok (.aload_n 0, 1) := by decide +kernel
theorem dX5_init_57 : decode cX5_init 57 = .ok (.new 41, 3) := by decide +kernel
theorem dX5_init_60 : decode cX5_init 60 = .ok (.dup, 1) := by decide +kernel
theorem dX5_init_61 : decode cX5_init 61 = .ok (.invokespecial 43, 3) := by decide +kernel
theorem dX5_init_64 : decode cX5_init 64 = .ok (.putfield 44, 3) := by decide +kernel
theorem dX5_init_67 : decode cX5_init 67 = .ok (.aload_n 0, 1) := by decide +kernel
theorem dX5_init_68 : decode cX5_init 68 = .ok (.bipush 16, 2) := by decide +kernel
theorem dX5_init_70 : decode cX5_init 70 = .ok (.newarray .int, 2) := by decide +kernel
theorem dX5_init_72 : decode cX5_init 72 = .ok (.putfield 48, 3) := by decide +kernel
theorem dX5_init_75 : decode cX5_init 75 = .ok (.iconst 0, 1) := by decide +kernel
theorem dX5_init_76 : decode cX5_init 76 = .ok (.istore_n 1, 1) := by decide +kernel
theorem dX5_init_77 : decode cX5_init 77 = .ok (.iload_n 1, 1) := by decide +kernel
theorem dX5_init_78 : decode cX5_init 78 = .ok (.aload_n 0, 1) := by decide +kernel
theorem dX5_init_79 : decode cX5_init 79 = .ok (.getfield 16, 3) := by decide +kernel
theorem dX5_init_82 : decode cX5_init 82 = .ok (.arraylength, 1) := by decide +kernel
theorem dX5_init_83 : decode cX5_init 83 = .ok (.if_icmp .ge 22, 3) := by decide +kernel
theorem dX5_init_86 : decode cX5_init 86 = .ok (.aload_n 0, 1) := by decide +kernel
theorem dX5_init_87 : decode cX5_init 87 = .ok (.getfield 16, 3) := by decide +kernel
theorem dX5_init_90 : decode cX5_init 90 = .ok (.iload_n 1, 1) := by decide +kernel
theorem dX5_init_91 : decode cX5_init 91 = .ok (.new 7, 3) := by decide +kernel
theorem dX5_init_94 : decode cX5_init 94 = .ok (.dup, 1) := by decide +kernel
theorem dX5_init_95 : decode cX5_init 95 = .ok (.invokespecial 9, 3) := by decide +kernel
theorem dX5_init_98 : decode cX5_init 98 = .ok (.aastore, 1) := by decide +kernel
theorem dX5_init_99 : decode cX5_init 99 = .ok (.iinc 1 1, 3) := by decide +kernel
theorem dX5_init_102 : decode cX5_init 102 = .ok (.goto (-25), 3) := by decide +kernel
theorem dX5_init_105 : decode cX5_init 105 = .ok (.return_, 1) := by decide +kernel
theorem dX5_append_0 : decode cX5_append 0 = .ok (.iload_n 1, 1) := by decide +kernel
theorem dX5_append_1 : decode cX5_append 1 = .ok (.iconst 3, 1) := by decide +kernel
theorem dX5_append_2 : decode cX5_append 2 = .ok (.invokestatic 52, 3) := by decide +kernel
theorem dX5_append_5 : decode cX5_append 5 = .ok (.ifCond .ne 6, 3) := by decide +kernel
theorem dX5_append_8 : decode cX5_append 8 = .ok (.ldc 56, 2) := by decide +kernel
theorem dX5_append_10 : decode cX5_append 10 = .ok (.ireturn, 1) := by decide +kernel
theorem dX5_append_11 : decode cX5_append 11 = .ok (.aload_n 0, 1) := by decide +kernel
theorem dX5_append_12 : decode cX5_append 12 = .ok (.getfield 10, 3) := by decide +kernel
theorem dX5_append_15 : decode cX5_append 15 = .ok (.getfield 57, 3) := by decide +kernel
theorem dX5_append_18 : decode cX5_append 18 = .ok (.invokestatic 61, 3) := by decide +kernel
theorem dX5_append_21 : decode cX5_append 21 = .ok (.bipush 10, 2) := by decide +kernel
theorem dX5_append_23 : decode cX5_append 23 = .ok (.if_icmp .lt 6, 3) := by decide +kernel
theorem dX5_append_26 : decode cX5_append 26 = .ok (.ldc 65, 2) := by decide +kernel
theorem dX5_append_28 : decode cX5_append 28 = .ok (.ireturn, 1) := by decide +kernel
theorem dX5_append_29 : decode cX5_append 29 = .ok (.aload_n 0, 1) := by decide +kernel
theorem dX5_append_30 : decode cX5_append 30 = .ok (.invokevirtual 66, 3) := by decide +kernel
theorem dX5_append_33 : decode cX5_append 33 = .ok (.aload_n 0, 1) := by decide +kernel
theorem dX5_append_34 : decode cX5_append 34 = .ok (.getfield 10, 3) := by decide +kernel
theorem dX5_append_37 : decode cX5_append 37 = .ok (.aload_n 0, 1) := by decide +kernel
theorem dX5_append_38 : decode cX5_append 38 = .ok (.getfield 10, 3) := by decide +kernel
theorem dX5_append_41 : decode cX5_append 41 = .ok (.getfield 57, 3) := by decide +kernel
theorem dX5_append_44 : decode cX5_append 44 = .ok (.iload_n 1, 1) := by decide +kernel
theorem dX5_append_45 : decode cX5_append 45 = .ok (.invokestatic 69, 3) := by decide +kernel
theorem dX5_append_48 : decode cX5_append 48 = .ok (.putfield 57, 3) := by decide +kernel
theorem dX5_append_51 : decode cX5_append 51 = .ok (.aload_n 0, 1) := by decide +kernel
theorem dX5_append_52 : decode cX5_append 52 = .ok (.getfield 10, 3) := by decide +kernel
theorem dX5_append_55 : decode cX5_append 55 = .ok (.getfield 57, 3) := by decide +kernel
theorem dX5_append_58 : decode cX5_append 58 = .ok (.invokestatic 61, 3) := by decide +kernel
theorem dX5_append_61 : decode cX5_append 61 = .ok (.ireturn, 1) := by decide +kernel
theorem dX5_clear_0 : decode cX5_clear 0 = .ok (.aload_n 0, 1) := by decide +kernel
theorem dX5_clear_1 : decode cX5_clear 1 = .ok (.getfield 10, 3) := by decide +kernel
theorem dX5_clear_4 : decode cX5_clear 4 = .ok (.getfield 57, 3) := by decide +kernel
theorem dX5_clear_7 : decode cX5_clear 7 = .ok (.invokestatic 61, 3) := by decide +kernel
theorem dX5_clear_10 : decode cX5_clear 10 = .ok (.istore_n 1, 1) := by decide +kernel
theorem dX5_clear_11 : decode cX5_clear 11 = .ok (.aload_n 0, 1) := by decide +kernel
theorem dX5_clear_12 : decode cX5_clear 12 = .ok (.invokevirtual 66, 3) := by decide +kernel
theorem dX5_clear_15 : decode cX5_clear 15 = .ok (.aload_n 0, 1) := by decide +kernel
theorem dX5_clear_16 : decode cX5_clear 16 = .ok (.getfield 10, 3) := by decide +kernel
theorem dX5_clear_19 : decode cX5_clear 19 = .ok (.iconst 0, 1) := by decide +kernel
theorem dX5_clear_20 : decode cX5_clear 20 = .ok (.putfield 57, 3) := by decide +kernel
theorem dX5_clear_23 : decode cX5_clear 23 = .ok (.iload_n 1, 1) := by decide +kernel
theorem dX5_clear_24 : decode cX5_clear 24 = .ok (.ireturn, 1) := by decide +kernel
theorem dX5_code_0 : decode cX5_code 0 = .ok (.iload_n 1, 1) := by decide +kernel
theorem dX5_code_1 : decode cX5_code 1 = .ok (.iconst 3, 1) := by decide +kernel
theorem dX5_code_2 : decode cX5_code 2 = .ok (.invokestatic 52, 3) := by decide +kernel
theorem dX5_code_5 : decode cX5_code 5 = .ok (.ifCond .eq 19, 3) := by decide +kernel
theorem dX5_code_8 : decode cX5_code 8 = .ok (.iload_n 2, 1) := by decide +kernel
theorem dX5_code_9 : decode cX5_code 9 = .ok (.iconst 3, 1) := by decide +kernel
theorem dX5_code_10 : decode cX5_code 10 = .ok (.invokestatic 52, 3) := by decide +kernel
theorem dX5_code_13 : decode cX5_code 13 = .ok (.ifCond .eq 11, 3) := by decide +kernel
theorem dX5_code_16 : decode cX5_code 16 = .ok (.iload_n 3, 1) := by decide +kernel
theorem dX5_code_17 : decode cX5_code 17 = .ok (.iconst 3, 1) := by decide +kernel
theorem dX5_code_18 : decode cX5_code 18 = .ok (.invokestatic 52, 3) := by decide +kernel
theorem dX5_code_21 : decode cX5_code 21 = .ok (.ifCond .ne 6, 3) := by decide +kernel
theorem dX5_code_24 : decode cX5_code 24 = .ok (.ldc 56, 2) := by decide +kernel
theorem dX5_code_26 : decode cX5_code 26 = .ok (.ireturn, 1) := by decide +kernel
theorem dX5_code_27 : decode cX5_code 27 = .ok (.aload_n 0, 1) := by decide +kernel
theorem dX5_code_28 : decode cX5_code 28 = .ok (.getfield 10, 3) := by decide +kernel
theorem dX5_code_31 : decode cX5_code 31 = .ok (.getfield 73, 3) := by decide +kernel
theorem dX5_code_34 : decode cX5_code 34 = .ok (.iload_n 1, 1) := by decide +kernel
theorem dX5_code_35 : decode cX5_code 35 = .ok (.iload_n 2, 1) := by decide +kernel
theorem dX5_code_36 : decode cX5_code 36 = .ok (.invokestatic 76, 3) := by decide +kernel
theorem dX5_code_39 : decode cX5_code 39 = .ok (.istore 4, 2) := by decide +kernel
theorem dX5_code_41 : decode cX5_code 41 = .ok (.aload_n 0, 1) := by decide +kernel
theorem dX5_code_42 : decode cX5_code 42 = .ok (.invokevirtual 66, 3) := by decide +kernel
theorem dX5_code_45 : decode cX5_code 45 = .ok (.aload_n 0, 1) := by decide +kernel
theorem dX5_code_46 : decode cX5_code 46 = .ok (.getfield 10, 3) := by decide +kernel
theorem dX5_code_49 : decode cX5_code 49 = .ok (.aload_n 0, 1) := by decide +kernel
theorem dX5_code_50 : decode cX5_code 50 = .ok (.getfield 10, 3) := by decide +kernel
theorem dX5_code_53 : decode cX5_code 53 = .ok (.getfield 73, 3) := by decide +kernel
theorem dX5_code_56 : decode cX5_code 56 = .ok (.iload_n 1, 1) := by decide +kernel
theorem dX5_code_57 : decode cX5_code 57 = .ok (.iload_n 2, 1) := by decide +kernel
theorem dX5_code_58 : decode cX5_code 58 = .ok (.iload_n 3, 1) := by decide +kernel
theorem dX5_code_59 : decode cX5_code 59 = .ok (.invokestatic 80, 3) := by decide +kernel
theorem dX5_code_62 : decode cX5_code 62 = .ok (.putfield 73, 3) := by decide +kernel
theorem dX5_code_65 : decode cX5_code 65 = .ok (.iload 4, 2) := by decide +kernel
theorem dX5_code_67 : decode cX5_code 67 = .ok (.ireturn, 1) := by decide +kernel
theorem dX5_turn_0 : decode cX5_turn 0 = .ok (.aload_n 0, 1) := by decide +kernel
theorem dX5_turn_1 : decode cX5_turn 1 = .ok (.getfield 10, 3) := by decide +kernel
theorem dX5_turn_4 : decode cX5_turn 4 = .ok (.getfield 57, 3) := by decide +kernel
theorem dX5_turn_7 : decode cX5_turn 7 = .ok (.ifCond .ne 6, 3) := by decide +kernel
theorem dX5_turn_10 : decode cX5_turn 10 = .ok (.ldc 84, 2) := by decide +kernel
theorem dX5_turn_12 : decode cX5_turn 12 = .ok (.ireturn, 1) := by decide +kernel
theorem dX5_turn_13 : decode cX5_turn 13 = .ok (.aload_n 0, 1) := by decide +kernel
theorem dX5_turn_14 : decode cX5_turn 14 = .ok (.invokevirtual 66, 3) := by decide +kernel
theorem dX5_turn_17 : decode cX5_turn 17 = .ok (.aload_n 0, 1) := by decide +kernel
theorem dX5_turn_18 : decode cX5_turn 18 = .ok (.getfield 10, 3) := by decide +kernel
theorem dX5_turn_21 : decode cX5_turn 21 = .ok (.aload_n 0, 1) := by decide +kernel
theorem dX5_turn_22 : decode cX5_turn 22 = .ok (.getfield 10, 3) := by decide +kernel
theorem dX5_turn_25 : decode cX5_turn 25 = .ok (.getfield 57, 3) := by decide +kernel
theorem dX5_turn_28 : decode cX5_turn 28 = .ok (.invokestatic 85, 3) := by decide +kernel
theorem dX5_turn_31 : decode cX5_turn 31 = .ok (.putfield 57, 3) := by decide +kernel
theorem dX5_turn_34 : decode cX5_turn 34 = .ok (.aload_n 0, 1) := by decide +kernel
theorem dX5_turn_35 : decode cX5_turn 35 = .ok (.getfield 10, 3) := by decide +kernel
theorem dX5_turn_38 : decode cX5_turn 38 = .ok (.getfield 57, 3) := by decide +kernel
theorem dX5_turn_41 : decode cX5_turn 41 = .ok (.iconst 0, 1) := by decide +kernel
theorem dX5_turn_42 : decode cX5_turn 42 = .ok (.invokestatic 88, 3) := by decide +kernel
theorem dX5_turn_45 : decode cX5_turn 45 = .ok (.ireturn, 1) := by decide +kernel
theorem dX5_letterAt_0 : decode cX5_letterAt 0 = .ok (.iload_n 1, 1) := by decide +kernel
theorem dX5_letterAt_1 : decode cX5_letterAt 1 = .ok (.ifCond .ge 6, 3) := by decide +kernel
theorem dX5_letterAt_4 : decode cX5_letterAt 4 = .ok (.ldc 56, 2) := by decide +kernel
theorem dX5_letterAt_6 : decode cX5_letterAt 6 = .ok (.ireturn, 1) := by decide +kernel
theorem dX5_letterAt_7 : decode cX5_letterAt 7 = .ok (.iload_n 1, 1) := by decide +kernel
theorem dX5_letterAt_8 : decode cX5_letterAt 8 = .ok (.aload_n 0, 1) := by decide +kernel
theorem dX5_letterAt_9 : decode cX5_letterAt 9 = .ok (.getfield 10, 3) := by decide +kernel
theorem dX5_letterAt_12 : decode cX5_letterAt 12 = .ok (.getfield 57, 3) := by decide +kernel
theorem dX5_letterAt_15 : decode cX5_letterAt 15 = .ok (.invokestatic 61, 3) := by decide +kernel
theorem dX5_letterAt_18 : decode cX5_letterAt 18 = .ok (.if_icmp .ge 17, 3) := by decide +kernel
theorem dX5_letterAt_21 : decode cX5_letterAt 21 = .ok (.aload_n 0, 1) := by decide +kernel
theorem dX5_letterAt_22 : decode cX5_letterAt 22 = .ok (.getfield 10, 3) := by decide +kernel
theorem dX5_letterAt_25 : decode cX5_letterAt 25 = .ok (.getfield 57, 3) := by decide +kernel
theorem dX5_letterAt_28 : decode cX5_letterAt 28 = .ok (.iload_n 1, 1) := by decide +kernel
theorem dX5_letterAt_29 : decode cX5_letterAt 29 = .ok (.invokestatic 88, 3) := by decide +kernel
theorem dX5_letterAt_32 : decode cX5_letterAt 32 = .ok (.goto 5, 3) := by decide +kernel
theorem dX5_letterAt_35 : decode cX5_letterAt 35 = .ok (.ldc 91, 2) := by decide +kernel
theorem dX5_letterAt_37 : decode cX5_letterAt 37 = .ok (.ireturn, 1) := by decide +kernel
theorem dX5_codeOf_0 : decode cX5_codeOf 0 = .ok (.iload_n 1, 1) := by decide +kernel
theorem dX5_codeOf_1 : decode cX5_codeOf 1 = .ok (.iconst 3, 1) := by decide +kernel
theorem dX5_codeOf_2 : decode cX5_codeOf 2 = .ok (.invokestatic 52, 3) := by decide +kernel
theorem dX5_codeOf_5 : decode cX5_codeOf 5 = .ok (.ifCond .eq 11, 3) := by decide +kernel
theorem dX5_codeOf_8 : decode cX5_codeOf 8 = .ok (.iload_n 2, 1) := by decide +kernel
theorem dX5_codeOf_9 : decode cX5_codeOf 9 = .ok (.iconst 3, 1) := by decide +kernel
theorem dX5_codeOf_10 : decode cX5_codeOf 10 = .ok (.invokestatic 52, 3) := by decide +kernel
theorem dX5_codeOf_13 : decode cX5_codeOf 13 = .ok (.ifCond .ne 6, 3) := by decide +kernel
theorem dX5_codeOf_16 : decode cX5_codeOf 16 = .ok (.ldc 56, 2) := by decide +kernel
theorem dX5_codeOf_18 : decode cX5_codeOf 18 = .ok (.ireturn, 1) := by decide +kernel
theorem dX5_codeOf_19 : decode cX5_codeOf 19 = .ok (.aload_n 0, 1) := by decide +kernel
theorem dX5_codeOf_20 : decode cX5_codeOf 20 = .ok (.getfield 10, 3) := by decide +kernel
theorem dX5_codeOf_23 : decode cX5_codeOf 23 = .ok (.getfield 73, 3) := by decide +kernel
theorem dX5_codeOf_26 : decode cX5_codeOf 26 = .ok (.iload_n 1, 1) := by decide +kernel
theorem dX5_codeOf_27 : decode cX5_codeOf 27 = .ok (.iload_n 2, 1) := by decide +kernel
theorem dX5_codeOf_28 : decode cX5_codeOf 28 = .ok (.invokestatic 76, 3) := by decide +kernel
theorem dX5_codeOf_31 : decode cX5_codeOf 31 = .ok (.ireturn, 1) := by decide +kernel
theorem dX5_pairAt_0 : decode cX5_pairAt 0 = .ok (.iload_n 1, 1) := by decide +kernel
theorem dX5_pairAt_1 : decode cX5_pairAt 1 = .ok (.bipush 15, 2) := by decide +kernel
theorem dX5_pairAt_3 : decode cX5_pairAt 3 = .ok (.invokestatic 52, 3) := by decide +kernel
theorem dX5_pairAt_6 : decode cX5_pairAt 6 = .ok (.ifCond .eq 11, 3) := by decide +kernel
theorem dX5_pairAt_9 : decode cX5_pairAt 9 = .ok (.iload_n 2, 1) := by decide +kernel
theorem dX5_pairAt_10 : decode cX5_pairAt 10 = .ok (.iconst 1, 1) := by decide +kernel
theorem dX5_pairAt_11 : decode cX5_pairAt 11 = .ok (.invokestatic 52, 3) := by decide +kernel
theorem dX5_pairAt_14 : decode cX5_pairAt 14 = .ok (.ifCond .ne 6, 3) := by decide +kernel
theorem dX5_pairAt_17 : decode cX5_pairAt 17 = .ok (.ldc 56, 2) := by decide +kernel
theorem dX5_pairAt_19 : decode cX5_pairAt 19 = .ok (.ireturn, 1) := by decide +kernel
theorem dX5_pairAt_20 : decode cX5_pairAt 20 = .ok (.iconst 0, 1) := by decide +kernel
theorem dX5_pairAt_21 : decode cX5_pairAt 21 = .ok (.istore_n 3, 1) := by decide +kernel
theorem dX5_pairAt_22 : decode cX5_pairAt 22 = .ok (.iload_n 3, 1) := by decide +kernel
theorem dX5_pairAt_23 : decode cX5_pairAt 23 = .ok (.aload_n 0, 1) := by decide +kernel
theorem dX5_pairAt_24 : decode cX5_pairAt 24 = .ok (.getfield 48, 3) := by decide +kernel
theorem dX5_pairAt_27 : decode cX5_pairAt 27 = .ok (.arraylength, 1) := by decide +kernel
theorem dX5_pairAt_28 : decode cX5_pairAt 28 = .ok (.if_icmp .ge 31, 3) := by decide +kernel
theorem dX5_pairAt_31 : decode cX5_pairAt 31 = .ok (.aload_n 0, 1) := by decide +kernel
theorem dX5_pairAt_32 : decode cX5_pairAt 32 = .ok (.getfield 48, 3) := by decide +kernel
theorem dX5_pairAt_35 : decode cX5_pairAt 35 = .ok (.iload_n 3, 1) := by decide +kernel
theorem dX5_pairAt_36 : decode cX5_pairAt 36 = .ok (.aload_n 0, 1) := by decide +kernel
theorem dX5_pairAt_37 : decode cX5_pairAt 37 = .ok (.getfield 10, 3) := by decide +kernel
theorem dX5_pairAt_40 : decode cX5_pairAt 40 = .ok (.getfield 57, 3) := by decide +kernel
theorem dX5_pairAt_43 : decode cX5_pairAt 43 = .ok (.iload_n 3, 1) := by decide +kernel
theorem dX5_pairAt_44 : decode cX5_pairAt 44 = .ok (.iconst 4, 1) := by decide +kernel
theorem dX5_pairAt_45 : decode cX5_pairAt 45 = .ok (.idiv, 1) := by decide +kernel
theorem dX5_pairAt_46 : decode cX5_pairAt 46 = .ok (.iload_n 3, 1) := by decide +kernel
theorem dX5_pairAt_47 : decode cX5_pairAt 47 = .ok (.iconst 4, 1) := by decide +kernel
theorem dX5_pairAt_48 : decode cX5_pairAt 48 = .ok (.irem, 1) := by decide +kernel
theorem dX5_pairAt_49 : decode cX5_pairAt 49 = .ok (.invokestatic 92, 3) := by decide +kernel
theorem dX5_pairAt_52 : decode cX5_pairAt 52 = .ok (.iastore, 1) := by decide +kernel
theorem dX5_pairAt_53 : decode cX5_pairAt 53 = .ok (.iinc 3 1, 3) := by decide +kernel
theorem dX5_pairAt_56 : decode cX5_pairAt 56 = .ok (.goto (-34), 3) := by decide +kernel
theorem dX5_pairAt_59 : decode cX5_pairAt 59 = .ok (.iconst 0, 1) := by decide +kernel
theorem dX5_pairAt_60 : decode cX5_pairAt 60 = .ok (.istore_n 3, 1) := by decide +kernel
theorem dX5_pairAt_61 : decode cX5_pairAt 61 = .ok (.iload_n 3, 1) := by decide +kernel
theorem dX5_pairAt_62 : decode cX5_pairAt 62 = .ok (.aload_n 0, 1) := by decide +kernel
theorem dX5_pairAt_63 : decode cX5_pairAt 63 = .ok (.getfield 48, 3) := by decide +kernel
theorem dX5_pairAt_66 : decode cX5_pairAt 66 = .ok (.arraylength, 1) := by decide +kernel
theorem dX5_pairAt_67 : decode cX5_pairAt 67 = .ok (.if_icmp .ge 39, 3) := by decide +kernel
theorem dX5_pairAt_70 : decode cX5_pairAt 70 = .ok (.aload_n 0, 1) := by decide +kernel
theorem dX5_pairAt_71 : decode cX5_pairAt 71 = .ok (.iload_n 3, 1) := by decide +kernel
theorem dX5_pairAt_72 : decode cX5_pairAt 72 = .ok (.aload_n 0, 1) := by decide +kernel
theorem dX5_pairAt_73 : decode cX5_pairAt 73 = .ok (.getfield 48, 3) := by decide +kernel
theorem dX5_pairAt_76 : decode cX5_pairAt 76 = .ok (.iload_n 3, 1) := by decide +kernel
theorem dX5_pairAt_77 : decode cX5_pairAt 77 = .ok (.iaload, 1) := by decide +kernel
theorem dX5_pairAt_78 : decode cX5_pairAt 78 = .ok (.invokevirtual 95, 3) := by decide +kernel
theorem dX5_pairAt_81 : decode cX5_pairAt 81 = .ok (.iload_n 1, 1) := by decide +kernel
theorem dX5_pairAt_82 : decode cX5_pairAt 82 = .ok (.if_icmp .ne 18, 3) := by decide +kernel
theorem dX5_pairAt_85 : decode cX5_pairAt 85 = .ok (.iload_n 2, 1) := by decide +kernel
theorem dX5_pairAt_86 : decode cX5_pairAt 86 = .ok (.ifCond .ne 7, 3) := by decide +kernel
theorem dX5_pairAt_89 : decode cX5_pairAt 89 = .ok (.iload_n 3, 1) := by decide +kernel
theorem dX5_pairAt_90 : decode cX5_pairAt 90 = .ok (.goto 9, 3) := by decide +kernel
theorem dX5_pairAt_93 : decode cX5_pairAt 93 = .ok (.aload_n 0, 1) := by decide +kernel
theorem dX5_pairAt_94 : decode cX5_pairAt 94 = .ok (.getfield 48, 3) := by decide +kernel
theorem dX5_pairAt_97 : decode cX5_pairAt 97 = .ok (.iload_n 3, 1) := by decide +kernel
theorem dX5_pairAt_98 : decode cX5_pairAt 98 = .ok (.iaload, 1) := by decide +kernel
theorem dX5_pairAt_99 : decode cX5_pairAt 99 = .ok (.ireturn, 1) := by decide +kernel
theorem dX5_pairAt_100 : decode cX5_pairAt 100 = .ok (.iinc 3 1, 3) := by decide +kernel
theorem dX5_pairAt_103 : decode cX5_pairAt 103 = .ok (.goto (-42), 3) := by decide +kernel
theorem dX5_pairAt_106 : decode cX5_pairAt 106 = .ok (.ldc 91, 2) := by decide +kernel
theorem dX5_pairAt_108 : decode cX5_pairAt 108 = .ok (.ireturn, 1) := by decide +kernel
theorem dX5_bias_0 : decode cX5_bias 0 = .ok (.iload_n 1, 1) := by decide +kernel
theorem dX5_bias_1 : decode cX5_bias 1 = .ok (.iconst 3, 1) := by decide +kernel
theorem dX5_bias_2 : decode cX5_bias 2 = .ok (.invokestatic 52, 3) := by decide +kernel
theorem dX5_bias_5 : decode cX5_bias 5 = .ok (.ifCond .eq 19, 3) := by decide +kernel
theorem dX5_bias_8 : decode cX5_bias 8 = .ok (.iload_n 2, 1) := by decide +kernel
theorem dX5_bias_9 : decode cX5_bias 9 = .ok (.iconst 3, 1) := by decide +kernel
theorem dX5_bias_10 : decode cX5_bias 10 = .ok (.invokestatic 52, 3) := by decide +kernel
theorem dX5_bias_13 : decode cX5_bias 13 = .ok (.ifCond .eq 11, 3) := by decide +kernel
theorem dX5_bias_16 : decode cX5_bias 16 = .ok (.iload_n 3, 1) := by decide +kernel
theorem dX5_bias_17 : decode cX5_bias 17 = .ok (.iconst 1, 1) := by decide +kernel
theorem dX5_bias_18 : decode cX5_bias 18 = .ok (.invokestatic 52, 3) := by decide +kernel
theorem dX5_bias_21 : decode cX5_bias 21 = .ok (.ifCond .ne 6, 3) := by decide +kernel
theorem dX5_bias_24 : decode cX5_bias 24 = .ok (.ldc 56, 2) := by decide +kernel
theorem dX5_bias_26 : decode cX5_bias 26 = .ok (.ireturn, 1) := by decide +kernel
theorem dX5_bias_27 : decode cX5_bias 27 = .ok (.aload_n 0, 1) := by decide +kernel
theorem dX5_bias_28 : decode cX5_bias 28 = .ok (.getfield 10, 3) := by decide +kernel
theorem dX5_bias_31 : decode cX5_bias 31 = .ok (.getfield 57, 3) := by decide +kernel
theorem dX5_bias_34 : decode cX5_bias 34 = .ok (.iload_n 1, 1) := by decide +kernel
theorem dX5_bias_35 : decode cX5_bias 35 = .ok (.invokestatic 98, 3) := by decide +kernel
theorem dX5_bias_38 : decode cX5_bias 38 = .ok (.aload_n 0, 1) := by decide +kernel
theorem dX5_bias_39 : decode cX5_bias 39 = .ok (.getfield 10, 3) := by decide +kernel
theorem dX5_bias_42 : decode cX5_bias 42 = .ok (.getfield 57, 3) := by decide +kernel
theorem dX5_bias_45 : decode cX5_bias 45 = .ok (.iload_n 2, 1) := by decide +kernel
theorem dX5_bias_46 : decode cX5_bias 46 = .ok (.invokestatic 98, 3) := by decide +kernel
theorem dX5_bias_49 : decode cX5_bias 49 = .ok (.imul, 1) := by decide +kernel
theorem dX5_bias_50 : decode cX5_bias 50 = .ok (.istore 4, 2) := by decide +kernel
theorem dX5_bias_52 : decode cX5_bias 52 = .ok (.iload 4, 2) := by decide +kernel
theorem dX5_bias_54 : decode cX5_bias 54 = .ok (.ifCond .ne 6, 3) := by decide +kernel
theorem dX5_bias_57 : decode cX5_bias 57 = .ok (.ldc 91, 2) := by decide +kernel
theorem dX5_bias_59 : decode cX5_bias 59 = .ok (.ireturn, 1) := by decide +kernel
theorem dX5_bias_60 : decode cX5_bias 60 = .ok (.aload_n 0, 1) := by decide +kernel
theorem dX5_bias_61 : decode cX5_bias 61 = .ok (.getfield 10, 3) := by decide +kernel
theorem dX5_bias_64 : decode cX5_bias 64 = .ok (.getfield 57, 3) := by decide +kernel
theorem dX5_bias_67 : decode cX5_bias 67 = .ok (.iload_n 1, 1) := by decide +kernel
theorem dX5_bias_68 : decode cX5_bias 68 = .ok (.iload_n 2, 1) := by decide +kernel
theorem dX5_bias_69 : decode cX5_bias 69 = .ok (.invokestatic 92, 3) := by decide +kernel
theorem dX5_bias_72 : decode cX5_bias 72 = .ok (.aload_n 0, 1) := by decide +kernel
theorem dX5_bias_73 : decode cX5_bias 73 = .ok (.getfield 10, 3) := by decide +kernel
theorem dX5_bias_76 : decode cX5_bias 76 = .ok (.getfield 57, 3) := by decide +kernel
theorem dX5_bias_79 : decode cX5_bias 79 = .ok (.invokestatic 61, 3) := by decide +kernel
theorem dX5_bias_82 : decode cX5_bias 82 = .ok (.imul, 1) := by decide +kernel
theorem dX5_bias_83 : decode cX5_bias 83 = .ok (.istore 5, 2) := by decide +kernel
theorem dX5_bias_85 : decode cX5_bias 85 = .ok (.iload 5, 2) := by decide +kernel
theorem dX5_bias_87 : decode cX5_bias 87 = .ok (.iload 4, 2) := by decide +kernel
theorem dX5_bias_89 : decode cX5_bias 89 = .ok (.invokestatic 101, 3) := by decide +kernel
theorem dX5_bias_92 : decode cX5_bias 92 = .ok (.istore 6, 2) := by decide +kernel
theorem dX5_bias_94 : decode cX5_bias 94 = .ok (.iload 6, 2) := by decide +kernel
theorem dX5_bias_96 : decode cX5_bias 96 = .ok (.iconst 1, 1) := by decide +kernel
theorem dX5_bias_97 : decode cX5_bias 97 = .ok (.if_icmp .ge 6, 3) := by decide +kernel
theorem dX5_bias_100 : decode cX5_bias 100 = .ok (.ldc 91, 2) := by decide +kernel
theorem dX5_bias_102 : decode cX5_bias 102 = .ok (.ireturn, 1) := by decide +kernel
theorem dX5_bias_103 : decode cX5_bias 103 = .ok (.iload_n 3, 1) := by decide +kernel
theorem dX5_bias_104 : decode cX5_bias 104 = .ok (.ifCond .ne 8, 3) := by decide +kernel
theorem dX5_bias_107 : decode cX5_bias 107 = .ok (.iload 5, 2) := by decide +kernel
theorem dX5_bias_109 : decode cX5_bias 109 = .ok (.goto 5, 3) := by decide +kernel
theorem dX5_bias_112 : decode cX5_bias 112 = .ok (.iload 4, 2) := by decide +kernel
theorem dX5_bias_114 : decode cX5_bias 114 = .ok (.iload 6, 2) := by decide +kernel
theorem dX5_bias_116 : decode cX5_bias 116 = .ok (.idiv, 1) := by decide +kernel
theorem dX5_bias_117 : decode cX5_bias 117 = .ok (.ireturn, 1) := by decide +kernel
theorem dX5_shuffles_0 : decode cX5_shuffles 0 = .ok (.iload_n 1, 1) := by decide +kernel
theorem dX5_shuffles_1 : decode cX5_shuffles 1 = .ok (.iconst 3, 1) := by decide +kernel
theorem dX5_shuffles_2 : decode cX5_shuffles 2 = .ok (.invokestatic 52, 3) := by decide +kernel
theorem dX5_shuffles_5 : decode cX5_shuffles 5 = .ok (.ifCond .ne 6, 3) := by decide +kernel
theorem dX5_shuffles_8 : decode cX5_shuffles 8 = .ok (.ldc 56, 2) := by decide +kernel
theorem dX5_shuffles_10 : decode cX5_shuffles 10 = .ok (.ireturn, 1) := by decide +kernel
theorem dX5_shuffles_11 : decode cX5_shuffles 11 = .ok (.aload_n 0, 1) := by decide +kernel
theorem dX5_shuffles_12 : decode cX5_shuffles 12 = .ok (.getfield 37, 3) := by decide +kernel
theorem dX5_shuffles_15 : decode cX5_shuffles 15 = .ok (.aload_n 0, 1) := by decide +kernel
theorem dX5_shuffles_16 : decode cX5_shuffles 16 = .ok (.getfield 10, 3) := by decide +kernel
theorem dX5_shuffles_19 : decode cX5_shuffles 19 = .ok (.iload_n 1, 1) := by decide +kernel
theorem dX5_shuffles_20 : decode cX5_shuffles 20 = .ok (.invokevirtual 104, 3) := by decide +kernel
theorem dX5_shuffles_23 : decode cX5_shuffles 23 = .ok (.aload_n 0, 1) := by decide +kernel
theorem dX5_shuffles_24 : decode cX5_shuffles 24 = .ok (.getfield 37, 3) := by decide +kernel
theorem dX5_shuffles_27 : decode cX5_shuffles 27 = .ok (.invokevirtual 108, 3) := by decide +kernel
theorem dX5_shuffles_30 : decode cX5_shuffles 30 = .ok (.ireturn, 1) := by decide +kernel
theorem dX5_placeOf_0 : decode cX5_placeOf 0 = .ok (.iload_n 1, 1) := by decide +kernel
theorem dX5_placeOf_1 : decode cX5_placeOf 1 = .ok (.iconst 3, 1) := by decide +kernel
theorem dX5_placeOf_2 : decode cX5_placeOf 2 = .ok (.invokestatic 52, 3) := by decide +kernel
theorem dX5_placeOf_5 : decode cX5_placeOf 5 = .ok (.ifCond .ne 6, 3) := by decide +kernel
theorem dX5_placeOf_8 : decode cX5_placeOf 8 = .ok (.ldc 56, 2) := by decide +kernel
theorem dX5_placeOf_10 : decode cX5_placeOf 10 = .ok (.ireturn, 1) := by decide +kernel
theorem dX5_placeOf_11 : decode cX5_placeOf 11 = .ok (.aload_n 0, 1) := by decide +kernel
theorem dX5_placeOf_12 : decode cX5_placeOf 12 = .ok (.getfield 37, 3) := by decide +kernel
theorem dX5_placeOf_15 : decode cX5_placeOf 15 = .ok (.aload_n 0, 1) := by decide +kernel
theorem dX5_placeOf_16 : decode cX5_placeOf 16 = .ok (.getfield 10, 3) := by decide +kernel
theorem dX5_placeOf_19 : decode cX5_placeOf 19 = .ok (.iload_n 1, 1) := by decide +kernel
theorem dX5_placeOf_20 : decode cX5_placeOf 20 = .ok (.invokevirtual 104, 3) := by decide +kernel
theorem dX5_placeOf_23 : decode cX5_placeOf 23 = .ok (.aload_n 0, 1) := by decide +kernel
theorem dX5_placeOf_24 : decode cX5_placeOf 24 = .ok (.getfield 37, 3) := by decide +kernel
theorem dX5_placeOf_27 : decode cX5_placeOf 27 = .ok (.invokevirtual 112, 3) := by decide +kernel
theorem dX5_placeOf_30 : decode cX5_placeOf 30 = .ok (.ireturn, 1) := by decide +kernel
theorem dX5_shuffleAt_0 : decode cX5_shuffleAt 0 = .ok (.iload_n 1, 1) := by decide +kernel
theorem dX5_shuffleAt_1 : decode cX5_shuffleAt 1 = .ok (.iconst 3, 1) := by decide +kernel
theorem dX5_shuffleAt_2 : decode cX5_shuffleAt 2 = .ok (.invokestatic 52, 3) := by decide +kernel
theorem dX5_shuffleAt_5 : decode cX5_shuffleAt 5 = .ok (.ifCond .eq 11, 3) := by decide +kernel
theorem dX5_shuffleAt_8 : decode cX5_shuffleAt 8 = .ok (.iload_n 2, 1) := by decide +kernel
theorem dX5_shuffleAt_9 : decode cX5_shuffleAt 9 = .ok (.ifCond .lt 7, 3) := by decide +kernel
theorem dX5_shuffleAt_12 : decode cX5_shuffleAt 12 = .ok (.iload_n 3, 1) := by decide +kernel
theorem dX5_shuffleAt_13 : decode cX5_shuffleAt 13 = .ok (.ifCond .ge 6, 3) := by decide +kernel
theorem dX5_shuffleAt_16 : decode cX5_shuffleAt 16 = .ok (.ldc 56, 2) := by decide +kernel
theorem dX5_shuffleAt_18 : decode cX5_shuffleAt 18 = .ok (.ireturn, 1) := by decide +kernel
theorem dX5_shuffleAt_19 : decode cX5_shuffleAt 19 = .ok (.iload_n 3, 1) := by decide +kernel
theorem dX5_shuffleAt_20 : decode cX5_shuffleAt 20 = .ok (.aload_n 0, 1) := by decide +kernel
theorem dX5_shuffleAt_21 : decode cX5_shuffleAt 21 = .ok (.getfield 10, 3) := by decide +kernel
theorem dX5_shuffleAt_24 : decode cX5_shuffleAt 24 = .ok (.getfield 57, 3) := by decide +kernel
theorem dX5_shuffleAt_27 : decode cX5_shuffleAt 27 = .ok (.invokestatic 61, 3) := by decide +kernel
theorem dX5_shuffleAt_30 : decode cX5_shuffleAt 30 = .ok (.if_icmp .lt 6, 3) := by decide +kernel
theorem dX5_shuffleAt_33 : decode cX5_shuffleAt 33 = .ok (.ldc 91, 2) := by decide +kernel
theorem dX5_shuffleAt_35 : decode cX5_shuffleAt 35 = .ok (.ireturn, 1) := by decide +kernel
theorem dX5_shuffleAt_36 : decode cX5_shuffleAt 36 = .ok (.aload_n 0, 1) := by decide +kernel
theorem dX5_shuffleAt_37 : decode cX5_shuffleAt 37 = .ok (.getfield 37, 3) := by decide +kernel
theorem dX5_shuffleAt_40 : decode cX5_shuffleAt 40 = .ok (.aload_n 0, 1) := by decide +kernel
theorem dX5_shuffleAt_41 : decode cX5_shuffleAt 41 = .ok (.getfield 10, 3) := by decide +kernel
theorem dX5_shuffleAt_44 : decode cX5_shuffleAt 44 = .ok (.iload_n 1, 1) := by decide +kernel
theorem dX5_shuffleAt_45 : decode cX5_shuffleAt 45 = .ok (.invokevirtual 104, 3) := by decide +kernel
theorem dX5_shuffleAt_48 : decode cX5_shuffleAt 48 = .ok (.iload_n 2, 1) := by decide +kernel
theorem dX5_shuffleAt_49 : decode cX5_shuffleAt 49 = .ok (.aload_n 0, 1) := by decide +kernel
theorem dX5_shuffleAt_50 : decode cX5_shuffleAt 50 = .ok (.getfield 37, 3) := by decide +kernel
theorem dX5_shuffleAt_53 : decode cX5_shuffleAt 53 = .ok (.invokevirtual 108, 3) := by decide +kernel
theorem dX5_shuffleAt_56 : decode cX5_shuffleAt 56 = .ok (.if_icmp .ge 18, 3) := by decide +kernel
theorem dX5_shuffleAt_59 : decode cX5_shuffleAt 59 = .ok (.aload_n 0, 1) := by decide +kernel
theorem dX5_shuffleAt_60 : decode cX5_shuffleAt 60 = .ok (.getfield 37, 3) := by decide +kernel
theorem dX5_shuffleAt_63 : decode cX5_shuffleAt 63 = .ok (.iload_n 2, 1) := by decide +kernel
theorem dX5_shuffleAt_64 : decode cX5_shuffleAt 64 = .ok (.invokevirtual 115, 3) := by decide +kernel
theorem dX5_shuffleAt_67 : decode cX5_shuffleAt 67 = .ok (.iload_n 3, 1) := by decide +kernel
theorem dX5_shuffleAt_68 : decode cX5_shuffleAt 68 = .ok (.invokestatic 88, 3) := by decide +kernel
theorem dX5_shuffleAt_71 : decode cX5_shuffleAt 71 = .ok (.goto 5, 3) := by decide +kernel
theorem dX5_shuffleAt_74 : decode cX5_shuffleAt 74 = .ok (.ldc 91, 2) := by decide +kernel
theorem dX5_shuffleAt_76 : decode cX5_shuffleAt 76 = .ok (.ireturn, 1) := by decide +kernel
theorem dX5_next_0 : decode cX5_next 0 = .ok (.aload_n 0, 1) := by decide +kernel
theorem dX5_next_1 : decode cX5_next 1 = .ok (.iload_n 1, 1) := by decide +kernel
theorem dX5_next_2 : decode cX5_next 2 = .ok (.iconst 1, 1) := by decide +kernel
theorem dX5_next_3 : decode cX5_next 3 = .ok (.invokevirtual 118, 3) := by decide +kernel
theorem dX5_next_6 : decode cX5_next 6 = .ok (.ireturn, 1) := by decide +kernel
theorem dX5_back_0 : decode cX5_back 0 = .ok (.aload_n 0, 1) := by decide +kernel
theorem dX5_back_1 : decode cX5_back 1 = .ok (.iload_n 1, 1) := by decide +kernel
theorem dX5_back_2 : decode cX5_back 2 = .ok (.iconst (-1), 1) := by decide +kernel
theorem dX5_back_3 : decode cX5_back 3 = .ok (.invokevirtual 118, 3) := by decide +kernel
theorem dX5_back_6 : decode cX5_back 6 = .ok (.ireturn, 1) := by decide +kernel
theorem dX5_at_0 : decode cX5_at 0 = .ok (.iload_n 1, 1) := by decide +kernel
theorem dX5_at_1 : decode cX5_at 1 = .ok (.iconst 3, 1) := by decide +kernel
theorem dX5_at_2 : decode cX5_at 2 = .ok (.invokestatic 52, 3) := by decide +kernel
theorem dX5_at_5 : decode cX5_at 5 = .ok (.ifCond .eq 7, 3) := by decide +kernel
theorem dX5_at_8 : decode cX5_at 8 = .ok (.iload_n 2, 1) := by decide +kernel
theorem dX5_at_9 : decode cX5_at 9 = .ok (.ifCond .ge 6, 3) := by decide +kernel
theorem dX5_at_12 : decode cX5_at 12 = .ok (.ldc 56, 2) := by decide +kernel
theorem dX5_at_14 : decode cX5_at 14 = .ok (.ireturn, 1) := by decide +kernel
theorem dX5_at_15 : decode cX5_at 15 = .ok (.aload_n 0, 1) := by decide +kernel
theorem dX5_at_16 : decode cX5_at 16 = .ok (.getfield 37, 3) := by decide +kernel
theorem dX5_at_19 : decode cX5_at 19 = .ok (.aload_n 0, 1) := by decide +kernel
theorem dX5_at_20 : decode cX5_at 20 = .ok (.getfield 10, 3) := by decide +kernel
theorem dX5_at_23 : decode cX5_at 23 = .ok (.iload_n 1, 1) := by decide +kernel
theorem dX5_at_24 : decode cX5_at 24 = .ok (.invokevirtual 104, 3) := by decide +kernel
theorem dX5_at_27 : decode cX5_at 27 = .ok (.iload_n 2, 1) := by decide +kernel
theorem dX5_at_28 : decode cX5_at 28 = .ok (.aload_n 0, 1) := by decide +kernel
theorem dX5_at_29 : decode cX5_at 29 = .ok (.getfield 37, 3) := by decide +kernel
theorem dX5_at_32 : decode cX5_at 32 = .ok (.invokevirtual 108, 3) := by decide +kernel
theorem dX5_at_35 : decode cX5_at 35 = .ok (.if_icmp .lt 6, 3) := by decide +kernel
theorem dX5_at_38 : decode cX5_at 38 = .ok (.ldc 84, 2) := by decide +kernel
theorem dX5_at_40 : decode cX5_at 40 = .ok (.ireturn, 1) := by decide +kernel
theorem dX5_at_41 : decode cX5_at 41 = .ok (.aload_n 0, 1) := by decide +kernel
theorem dX5_at_42 : decode cX5_at 42 = .ok (.getfield 10, 3) := by decide +kernel
theorem dX5_at_45 : decode cX5_at 45 = .ok (.getfield 57, 3) := by decide +kernel
theorem dX5_at_48 : decode cX5_at 48 = .ok (.istore_n 3, 1) := by decide +kernel
theorem dX5_at_49 : decode cX5_at 49 = .ok (.aload_n 0, 1) := by decide +kernel
theorem dX5_at_50 : decode cX5_at 50 = .ok (.invokevirtual 66, 3) := by decide +kernel
theorem dX5_at_53 : decode cX5_at 53 = .ok (.aload_n 0, 1) := by decide +kernel
theorem dX5_at_54 : decode cX5_at 54 = .ok (.getfield 10, 3) := by decide +kernel
theorem dX5_at_57 : decode cX5_at 57 = .ok (.aload_n 0, 1) := by decide +kernel
theorem dX5_at_58 : decode cX5_at 58 = .ok (.getfield 37, 3) := by decide +kernel
theorem dX5_at_61 : decode cX5_at 61 = .ok (.iload_n 2, 1) := by decide +kernel
theorem dX5_at_62 : decode cX5_at 62 = .ok (.invokevirtual 115, 3) := by decide +kernel
theorem dX5_at_65 : decode cX5_at 65 = .ok (.putfield 57, 3) := by decide +kernel
theorem dX5_at_68 : decode cX5_at 68 = .ok (.iload_n 3, 1) := by decide +kernel
theorem dX5_at_69 : decode cX5_at 69 = .ok (.aload_n 0, 1) := by decide +kernel
theorem dX5_at_70 : decode cX5_at 70 = .ok (.getfield 10, 3) := by decide +kernel
theorem dX5_at_73 : decode cX5_at 73 = .ok (.getfield 57, 3) := by decide +kernel
theorem dX5_at_76 : decode cX5_at 76 = .ok (.invokestatic 121, 3) := by decide +kernel
theorem dX5_at_79 : decode cX5_at 79 = .ok (.ireturn, 1) := by decide +kernel
theorem dX5_measure_0 : decode cX5_measure 0 = .ok (.iload_n 1, 1) := by decide +kernel
theorem dX5_measure_1 : decode cX5_measure 1 = .ok (.iconst 3, 1) := by decide +kernel
theorem dX5_measure_2 : decode cX5_measure 2 = .ok (.invokestatic 52, 3) := by decide +kernel
theorem dX5_measure_5 : decode cX5_measure 5 = .ok (.ifCond .eq 19, 3) := by decide +kernel
theorem dX5_measure_8 : decode cX5_measure 8 = .ok (.iload_n 2, 1) := by decide +kernel
theorem dX5_measure_9 : decode cX5_measure 9 = .ok (.iconst 3, 1) := by decide +kernel
theorem dX5_measure_10 : decode cX5_measure 10 = .ok (.invokestatic 52, 3) := by decide +kernel
theorem dX5_measure_13 : decode cX5_measure 13 = .ok (.ifCond .eq 11, 3) := by decide +kernel
theorem dX5_measure_16 : decode cX5_measure 16 = .ok (.iload_n 3, 1) := by decide +kernel
theorem dX5_measure_17 : decode cX5_measure 17 = .ok (.iconst 3, 1) := by decide +kernel
theorem dX5_measure_18 : decode cX5_measure 18 = .ok (.invokestatic 52, 3) := by decide +kernel
theorem dX5_measure_21 : decode cX5_measure 21 = .ok (.ifCond .ne 6, 3) := by decide +kernel
theorem dX5_measure_24 : decode cX5_measure 24 = .ok (.ldc 56, 2) := by decide +kernel
theorem dX5_measure_26 : decode cX5_measure 26 = .ok (.ireturn, 1) := by decide +kernel
theorem dX5_measure_27 : decode cX5_measure 27 = .ok (.aload_n 0, 1) := by decide +kernel
theorem dX5_measure_28 : decode cX5_measure 28 = .ok (.getfield 44, 3) := by decide +kernel
theorem dX5_measure_31 : decode cX5_measure 31 = .ok (.iload_n 1, 1) := by decide +kernel
theorem dX5_measure_32 : decode cX5_measure 32 = .ok (.iload_n 2, 1) := by decide +kernel
theorem dX5_measure_33 : decode cX5_measure 33 = .ok (.iload_n 3, 1) := by decide +kernel
theorem dX5_measure_34 : decode cX5_measure 34 = .ok (.aload_n 0, 1) := by decide +kernel
theorem dX5_measure_35 : decode cX5_measure 35 = .ok (.getfield 10, 3) := by decide +kernel
theorem dX5_measure_38 : decode cX5_measure 38 = .ok (.invokevirtual 124, 3) := by decide +kernel
theorem dX5_measure_41 : decode cX5_measure 41 = .ok (.aload_n 0, 1) := by decide +kernel
theorem dX5_measure_42 : decode cX5_measure 42 = .ok (.getfield 44, 3) := by decide +kernel
theorem dX5_measure_45 : decode cX5_measure 45 = .ok (.invokevirtual 128, 3) := by decide +kernel
theorem dX5_measure_48 : decode cX5_measure 48 = .ok (.ireturn, 1) := by decide +kernel
theorem dX5_surprise_0 : decode cX5_surprise 0 = .ok (.iload_n 1, 1) := by decide +kernel
theorem dX5_surprise_1 : decode cX5_surprise 1 = .ok (.iconst 3, 1) := by decide +kernel
theorem dX5_surprise_2 : decode cX5_surprise 2 = .ok (.invokestatic 52, 3) := by decide +kernel
theorem dX5_surprise_5 : decode cX5_surprise 5 = .ok (.ifCond .eq 37, 3) := by decide +kernel
theorem dX5_surprise_8 : decode cX5_surprise 8 = .ok (.iload_n 2, 1) := by decide +kernel
theorem dX5_surprise_9 : decode cX5_surprise 9 = .ok (.iconst 3, 1) := by decide +kernel
theorem dX5_surprise_10 : decode cX5_surprise 10 = .ok (.invokestatic 52, 3) := by decide +kernel
theorem dX5_surprise_13 : decode cX5_surprise 13 = .ok (.ifCond .eq 29, 3) := by decide +kernel
theorem dX5_surprise_16 : decode cX5_surprise 16 = .ok (.iload_n 3, 1) := by decide +kernel
theorem dX5_surprise_17 : decode cX5_surprise 17 = .ok (.iconst 3, 1) := by decide +kernel
theorem dX5_surprise_18 : decode cX5_surprise 18 = .ok (.invokestatic 52, 3) := by decide +kernel
theorem dX5_surprise_21 : decode cX5_surprise 21 = .ok (.ifCond .eq 21, 3) := by decide +kernel
theorem dX5_surprise_24 : decode cX5_surprise 24 = .ok (.iload 4, 2) := by decide +kernel
theorem dX5_surprise_26 : decode cX5_surprise 26 = .ok (.iconst 3, 1) := by decide +kernel
theorem dX5_surprise_27 : decode cX5_surprise 27 = .ok (.invokestatic 52, 3) := by decide +kernel
theorem dX5_surprise_30 : decode cX5_surprise 30 = .ok (.ifCond .eq 12, 3) := by decide +kernel
theorem dX5_surprise_33 : decode cX5_surprise 33 = .ok (.iload 5, 2) := by decide +kernel
theorem dX5_surprise_35 : decode cX5_surprise 35 = .ok (.iconst 4, 1) := by decide +kernel
theorem dX5_surprise_36 : decode cX5_surprise 36 = .ok (.invokestatic 52, 3) := by decide +kernel
theorem dX5_surprise_39 : decode cX5_surprise 39 = .ok (.ifCond .ne 6, 3) := by decide +kernel
theorem dX5_surprise_42 : decode cX5_surprise 42 = .ok (.ldc 56, 2) := by decide +kernel
theorem dX5_surprise_44 : decode cX5_surprise 44 = .ok (.ireturn, 1) := by decide +kernel
theorem dX5_surprise_45 : decode cX5_surprise 45 = .ok (.aload_n 0, 1) := by decide +kernel
theorem dX5_surprise_46 : decode cX5_surprise 46 = .ok (.getfield 44, 3) := by decide +kernel
theorem dX5_surprise_49 : decode cX5_surprise 49 = .ok (.iload_n 2, 1) := by decide +kernel
theorem dX5_surprise_50 : decode cX5_surprise 50 = .ok (.iload_n 3, 1) := by decide +kernel
theorem dX5_surprise_51 : decode cX5_surprise 51 = .ok (.iload 4, 2) := by decide +kernel
theorem dX5_surprise_53 : decode cX5_surprise 53 = .ok (.aload_n 0, 1) := by decide +kernel
theorem dX5_surprise_54 : decode cX5_surprise 54 = .ok (.getfield 10, 3) := by decide +kernel
theorem dX5_surprise_57 : decode cX5_surprise 57 = .ok (.invokevirtual 124, 3) := by decide +kernel
theorem dX5_surprise_60 : decode cX5_surprise 60 = .ok (.aload_n 0, 1) := by decide +kernel
theorem dX5_surprise_61 : decode cX5_surprise 61 = .ok (.getfield 37, 3) := by decide +kernel
theorem dX5_surprise_64 : decode cX5_surprise 64 = .ok (.aload_n 0, 1) := by decide +kernel
theorem dX5_surprise_65 : decode cX5_surprise 65 = .ok (.getfield 10, 3) := by decide +kernel
theorem dX5_surprise_68 : decode cX5_surprise 68 = .ok (.iload_n 1, 1) := by decide +kernel
theorem dX5_surprise_69 : decode cX5_surprise 69 = .ok (.aload_n 0, 1) := by decide +kernel
theorem dX5_surprise_70 : decode cX5_surprise 70 = .ok (.getfield 44, 3) := by decide +kernel
theorem dX5_surprise_73 : decode cX5_surprise 73 = .ok (.invokevirtual 131, 3) := by decide +kernel
theorem dX5_surprise_76 : decode cX5_surprise 76 = .ok (.iload 5, 2) := by decide +kernel
theorem dX5_surprise_78 : decode cX5_surprise 78 = .ok (.tableswitch 69 0 3 #[30, 45, 53, 61], 30) := by decide +kernel
theorem dX5_surprise_108 : decode cX5_surprise 108 = .ok (.aload_n 0, 1) := by decide +kernel
theorem dX5_surprise_109 : decode cX5_surprise 109 = .ok (.getfield 37, 3) := by decide +kernel
theorem dX5_surprise_112 : decode cX5_surprise 112 = .ok (.aload_n 0, 1) := by decide +kernel
theorem dX5_surprise_113 : decode cX5_surprise 113 = .ok (.getfield 44, 3) := by decide +kernel
theorem dX5_surprise_116 : decode cX5_surprise 116 = .ok (.invokevirtual 128, 3) := by decide +kernel
theorem dX5_surprise_119 : decode cX5_surprise 119 = .ok (.invokevirtual 135, 3) := by decide +kernel
theorem dX5_surprise_122 : decode cX5_surprise 122 = .ok (.ireturn, 1) := by decide +kernel
theorem dX5_surprise_123 : decode cX5_surprise 123 = .ok (.aload_n 0, 1) := by decide +kernel
theorem dX5_surprise_124 : decode cX5_surprise 124 = .ok (.getfield 37, 3) := by decide +kernel
theorem dX5_surprise_127 : decode cX5_surprise 127 = .ok (.invokevirtual 138, 3) := by decide +kernel
theorem dX5_surprise_130 : decode cX5_surprise 130 = .ok (.ireturn, 1) := by decide +kernel
theorem dX5_surprise_131 : decode cX5_surprise 131 = .ok (.aload_n 0, 1) := by decide +kernel
theorem dX5_surprise_132 : decode cX5_surprise 132 = .ok (.getfield 37, 3) := by decide +kernel
theorem dX5_surprise_135 : decode cX5_surprise 135 = .ok (.invokevirtual 141, 3) := by decide +kernel
theorem dX5_surprise_138 : decode cX5_surprise 138 = .ok (.ireturn, 1) := by decide +kernel
theorem dX5_surprise_139 : decode cX5_surprise 139 = .ok (.aload_n 0, 1) := by decide +kernel
theorem dX5_surprise_140 : decode cX5_surprise 140 = .ok (.getfield 37, 3) := by decide +kernel
theorem dX5_surprise_143 : decode cX5_surprise 143 = .ok (.invokevirtual 144, 3) := by decide +kernel
theorem dX5_surprise_146 : decode cX5_surprise 146 = .ok (.ireturn, 1) := by decide +kernel
theorem dX5_surprise_147 : decode cX5_surprise 147 = .ok (.aload_n 0, 1) := by decide +kernel
theorem dX5_surprise_148 : decode cX5_surprise 148 = .ok (.getfield 37, 3) := by decide +kernel
theorem dX5_surprise_151 : decode cX5_surprise 151 = .ok (.aload_n 0, 1) := by decide +kernel
theorem dX5_surprise_152 : decode cX5_surprise 152 = .ok (.getfield 37, 3) := by decide +kernel
theorem dX5_surprise_155 : decode cX5_surprise 155 = .ok (.invokevirtual 141, 3) := by decide +kernel
theorem dX5_surprise_158 : decode cX5_surprise 158 = .ok (.invokevirtual 147, 3) := by decide +kernel
theorem dX5_surprise_161 : decode cX5_surprise 161 = .ok (.ireturn, 1) := by decide +kernel
theorem dX5_common_0 : decode cX5_common 0 = .ok (.iload_n 1, 1) := by decide +kernel
theorem dX5_common_1 : decode cX5_common 1 = .ok (.iconst 3, 1) := by decide +kernel
theorem dX5_common_2 : decode cX5_common 2 = .ok (.invokestatic 52, 3) := by decide +kernel
theorem dX5_common_5 : decode cX5_common 5 = .ok (.ifCond .eq 11, 3) := by decide +kernel
theorem dX5_common_8 : decode cX5_common 8 = .ok (.iload_n 2, 1) := by decide +kernel
theorem dX5_common_9 : decode cX5_common 9 = .ok (.iconst 3, 1) := by decide +kernel
theorem dX5_common_10 : decode cX5_common 10 = .ok (.invokestatic 52, 3) := by decide +kernel
theorem dX5_common_13 : decode cX5_common 13 = .ok (.ifCond .ne 6, 3) := by decide +kernel
theorem dX5_common_16 : decode cX5_common 16 = .ok (.ldc 56, 2) := by decide +kernel
theorem dX5_common_18 : decode cX5_common 18 = .ok (.ireturn, 1) := by decide +kernel
theorem dX5_common_19 : decode cX5_common 19 = .ok (.aload_n 0, 1) := by decide +kernel
theorem dX5_common_20 : decode cX5_common 20 = .ok (.getfield 37, 3) := by decide +kernel
theorem dX5_common_23 : decode cX5_common 23 = .ok (.aload_n 0, 1) := by decide +kernel
theorem dX5_common_24 : decode cX5_common 24 = .ok (.getfield 10, 3) := by decide +kernel
theorem dX5_common_27 : decode cX5_common 27 = .ok (.iload_n 1, 1) := by decide +kernel
theorem dX5_common_28 : decode cX5_common 28 = .ok (.iload_n 2, 1) := by decide +kernel
theorem dX5_common_29 : decode cX5_common 29 = .ok (.invokevirtual 150, 3) := by decide +kernel
theorem dX5_common_32 : decode cX5_common 32 = .ok (.aload_n 0, 1) := by decide +kernel
theorem dX5_common_33 : decode cX5_common 33 = .ok (.getfield 37, 3) := by decide +kernel
theorem dX5_common_36 : decode cX5_common 36 = .ok (.invokevirtual 108, 3) := by decide +kernel
theorem dX5_common_39 : decode cX5_common 39 = .ok (.ireturn, 1) := by decide +kernel
theorem dX5_keep_0 : decode cX5_keep 0 = .ok (.aload_n 0, 1) := by decide +kernel
theorem dX5_keep_1 : decode cX5_keep 1 = .ok (.getfield 10, 3) := by decide +kernel
theorem dX5_keep_4 : decode cX5_keep 4 = .ok (.getfield 57, 3) := by decide +kernel
theorem dX5_keep_7 : decode cX5_keep 7 = .ok (.ifCond .ne 6, 3) := by decide +kernel
theorem dX5_keep_10 : decode cX5_keep 10 = .ok (.ldc 84, 2) := by decide +kernel
theorem dX5_keep_12 : decode cX5_keep 12 = .ok (.ireturn, 1) := by decide +kernel
theorem dX5_keep_13 : decode cX5_keep 13 = .ok (.aload_n 0, 1) := by decide +kernel
theorem dX5_keep_14 : decode cX5_keep 14 = .ok (.getfield 10, 3) := by decide +kernel
theorem dX5_keep_17 : decode cX5_keep 17 = .ok (.getfield 154, 3) := by decide +kernel
theorem dX5_keep_20 : decode cX5_keep 20 = .ok (.bipush 8, 2) := by decide +kernel
theorem dX5_keep_22 : decode cX5_keep 22 = .ok (.if_icmp .lt 6, 3) := by decide +kernel
theorem dX5_keep_25 : decode cX5_keep 25 = .ok (.ldc 65, 2) := by decide +kernel
theorem dX5_keep_27 : decode cX5_keep 27 = .ok (.ireturn, 1) := by decide +kernel
theorem dX5_keep_28 : decode cX5_keep 28 = .ok (.aload_n 0, 1) := by decide +kernel
theorem dX5_keep_29 : decode cX5_keep 29 = .ok (.invokevirtual 66, 3) := by decide +kernel
theorem dX5_keep_32 : decode cX5_keep 32 = .ok (.aload_n 0, 1) := by decide +kernel
theorem dX5_keep_33 : decode cX5_keep 33 = .ok (.getfield 10, 3) := by decide +kernel
theorem dX5_keep_36 : decode cX5_keep 36 = .ok (.invokevirtual 157, 3) := by decide +kernel
theorem dX5_keep_39 : decode cX5_keep 39 = .ok (.aload_n 0, 1) := by decide +kernel
theorem dX5_keep_40 : decode cX5_keep 40 = .ok (.getfield 10, 3) := by decide +kernel
theorem dX5_keep_43 : decode cX5_keep 43 = .ok (.getfield 154, 3) := by decide +kernel
theorem dX5_keep_46 : decode cX5_keep 46 = .ok (.ireturn, 1) := by decide +kernel
theorem dX5_recall_0 : decode cX5_recall 0 = .ok (.iload_n 1, 1) := by decide +kernel
theorem dX5_recall_1 : decode cX5_recall 1 = .ok (.ifCond .ge 6, 3) := by decide +kernel
theorem dX5_recall_4 : decode cX5_recall 4 = .ok (.ldc 56, 2) := by decide +kernel
theorem dX5_recall_6 : decode cX5_recall 6 = .ok (.ireturn, 1) := by decide +kernel
theorem dX5_recall_7 : decode cX5_recall 7 = .ok (.iload_n 1, 1) := by decide +kernel
theorem dX5_recall_8 : decode cX5_recall 8 = .ok (.aload_n 0, 1) := by decide +kernel
theorem dX5_recall_9 : decode cX5_recall 9 = .ok (.getfield 10, 3) := by decide +kernel
theorem dX5_recall_12 : decode cX5_recall 12 = .ok (.getfield 154, 3) := by decide +kernel
theorem dX5_recall_15 : decode cX5_recall 15 = .ok (.if_icmp .lt 6, 3) := by decide +kernel
theorem dX5_recall_18 : decode cX5_recall 18 = .ok (.ldc 84, 2) := by decide +kernel
theorem dX5_recall_20 : decode cX5_recall 20 = .ok (.ireturn, 1) := by decide +kernel
theorem dX5_recall_21 : decode cX5_recall 21 = .ok (.aload_n 0, 1) := by decide +kernel
theorem dX5_recall_22 : decode cX5_recall 22 = .ok (.invokevirtual 66, 3) := by decide +kernel
theorem dX5_recall_25 : decode cX5_recall 25 = .ok (.aload_n 0, 1) := by decide +kernel
theorem dX5_recall_26 : decode cX5_recall 26 = .ok (.getfield 10, 3) := by decide +kernel
theorem dX5_recall_29 : decode cX5_recall 29 = .ok (.aload_n 0, 1) := by decide +kernel
theorem dX5_recall_30 : decode cX5_recall 30 = .ok (.getfield 10, 3) := by decide +kernel
theorem dX5_recall_33 : decode cX5_recall 33 = .ok (.iload_n 1, 1) := by decide +kernel
theorem dX5_recall_34 : decode cX5_recall 34 = .ok (.invokevirtual 160, 3) := by decide +kernel
theorem dX5_recall_37 : decode cX5_recall 37 = .ok (.putfield 57, 3) := by decide +kernel
theorem dX5_recall_40 : decode cX5_recall 40 = .ok (.aload_n 0, 1) := by decide +kernel
theorem dX5_recall_41 : decode cX5_recall 41 = .ok (.getfield 10, 3) := by decide +kernel
theorem dX5_recall_44 : decode cX5_recall 44 = .ok (.getfield 57, 3) := by decide +kernel
theorem dX5_recall_47 : decode cX5_recall 47 = .ok (.invokestatic 61, 3) := by decide +kernel
theorem dX5_recall_50 : decode cX5_recall 50 = .ok (.ireturn, 1) := by decide +kernel
theorem dX5_kinship_0 : decode cX5_kinship 0 = .ok (.iload_n 1, 1) := by decide +kernel
theorem dX5_kinship_1 : decode cX5_kinship 1 = .ok (.ifCond .ge 6, 3) := by decide +kernel
theorem dX5_kinship_4 : decode cX5_kinship 4 = .ok (.ldc 56, 2) := by decide +kernel
theorem dX5_kinship_6 : decode cX5_kinship 6 = .ok (.ireturn, 1) := by decide +kernel
theorem dX5_kinship_7 : decode cX5_kinship 7 = .ok (.iload_n 1, 1) := by decide +kernel
theorem dX5_kinship_8 : decode cX5_kinship 8 = .ok (.aload_n 0, 1) := by decide +kernel
theorem dX5_kinship_9 : decode cX5_kinship 9 = .ok (.getfield 10, 3) := by decide +kernel
theorem dX5_kinship_12 : decode cX5_kinship 12 = .ok (.getfield 154, 3) := by decide +kernel
theorem dX5_kinship_15 : decode cX5_kinship 15 = .ok (.if_icmp .lt 6, 3) := by decide +kernel
theorem dX5_kinship_18 : decode cX5_kinship 18 = .ok (.ldc 91, 2) := by decide +kernel
theorem dX5_kinship_20 : decode cX5_kinship 20 = .ok (.ireturn, 1) := by decide +kernel
theorem dX5_kinship_21 : decode cX5_kinship 21 = .ok (.aload_n 0, 1) := by decide +kernel
theorem dX5_kinship_22 : decode cX5_kinship 22 = .ok (.getfield 10, 3) := by decide +kernel
theorem dX5_kinship_25 : decode cX5_kinship 25 = .ok (.iload_n 1, 1) := by decide +kernel
theorem dX5_kinship_26 : decode cX5_kinship 26 = .ok (.invokevirtual 160, 3) := by decide +kernel
theorem dX5_kinship_29 : decode cX5_kinship 29 = .ok (.istore_n 2, 1) := by decide +kernel
theorem dX5_kinship_30 : decode cX5_kinship 30 = .ok (.iconst 0, 1) := by decide +kernel
theorem dX5_kinship_31 : decode cX5_kinship 31 = .ok (.istore_n 3, 1) := by decide +kernel
theorem dX5_kinship_32 : decode cX5_kinship 32 = .ok (.iload_n 3, 1) := by decide +kernel
theorem dX5_kinship_33 : decode cX5_kinship 33 = .ok (.getstatic 163, 3) := by decide +kernel
theorem dX5_kinship_36 : decode cX5_kinship 36 = .ok (.arraylength, 1) := by decide +kernel
theorem dX5_kinship_37 : decode cX5_kinship 37 = .ok (.if_icmp .ge 28, 3) := by decide +kernel
theorem dX5_kinship_40 : decode cX5_kinship 40 = .ok (.aload_n 0, 1) := by decide +kernel
theorem dX5_kinship_41 : decode cX5_kinship 41 = .ok (.getstatic 163, 3) := by decide +kernel
theorem dX5_kinship_44 : decode cX5_kinship 44 = .ok (.iload_n 3, 1) := by decide +kernel
theorem dX5_kinship_45 : decode cX5_kinship 45 = .ok (.iaload, 1) := by decide +kernel
theorem dX5_kinship_46 : decode cX5_kinship 46 = .ok (.iload_n 2, 1) := by decide +kernel
theorem dX5_kinship_47 : decode cX5_kinship 47 = .ok (.invokevirtual 166, 3) := by decide +kernel
theorem dX5_kinship_50 : decode cX5_kinship 50 = .ok (.ifCond .eq 9, 3) := by decide +kernel
theorem dX5_kinship_53 : decode cX5_kinship 53 = .ok (.getstatic 163, 3) := by decide +kernel
theorem dX5_kinship_56 : decode cX5_kinship 56 = .ok (.iload_n 3, 1) := by decide +kernel
theorem dX5_kinship_57 : decode cX5_kinship 57 = .ok (.iaload, 1) := by decide +kernel
theorem dX5_kinship_58 : decode cX5_kinship 58 = .ok (.ireturn, 1) := by decide +kernel
theorem dX5_kinship_59 : decode cX5_kinship 59 = .ok (.iinc 3 1, 3) := by decide +kernel
theorem dX5_kinship_62 : decode cX5_kinship 62 = .ok (.goto (-30), 3) := by decide +kernel
theorem dX5_kinship_65 : decode cX5_kinship 65 = .ok (.ldc 91, 2) := by decide +kernel
theorem dX5_kinship_67 : decode cX5_kinship 67 = .ok (.ireturn, 1) := by decide +kernel
theorem dX5_count_0 : decode cX5_count 0 = .ok (.iload_n 1, 1) := by decide +kernel
theorem dX5_count_1 : decode cX5_count 1 = .ok (.tableswitch 124 0 7 #[47, 58, 63, 68, 90, 103, 111, 116], 47) := by decide +kernel
theorem dX5_count_48 : decode cX5_count 48 = .ok (.aload_n 0, 1) := by decide +kernel
theorem dX5_count_49 : decode cX5_count 49 = .ok (.getfield 10, 3) := by decide +kernel
theorem dX5_count_52 : decode cX5_count 52 = .ok (.getfield 57, 3) := by decide +kernel
theorem dX5_count_55 : decode cX5_count 55 = .ok (.invokestatic 61, 3) := by decide +kernel
theorem dX5_count_58 : decode cX5_count 58 = .ok (.ireturn, 1) := by decide +kernel
theorem dX5_count_59 : decode cX5_count 59 = .ok (.aload_n 0, 1) := by decide +kernel
theorem dX5_count_60 : decode cX5_count 60 = .ok (.invokevirtual 169, 3) := by decide +kernel
theorem dX5_count_63 : decode cX5_count 63 = .ok (.ireturn, 1) := by decide +kernel
theorem dX5_count_64 : decode cX5_count 64 = .ok (.aload_n 0, 1) := by decide +kernel
theorem dX5_count_65 : decode cX5_count 65 = .ok (.invokevirtual 172, 3) := by decide +kernel
theorem dX5_count_68 : decode cX5_count 68 = .ok (.ireturn, 1) := by decide +kernel
theorem dX5_count_69 : decode cX5_count 69 = .ok (.aload_n 0, 1) := by decide +kernel
theorem dX5_count_70 : decode cX5_count 70 = .ok (.getfield 44, 3) := by decide +kernel
theorem dX5_count_73 : decode cX5_count 73 = .ok (.iconst 1, 1) := by decide +kernel
theorem dX5_count_74 : decode cX5_count 74 = .ok (.iconst 0, 1) := by decide +kernel
theorem dX5_count_75 : decode cX5_count 75 = .ok (.iconst 0, 1) := by decide +kernel
theorem dX5_count_76 : decode cX5_count 76 = .ok (.aload_n 0, 1) := by decide +kernel
theorem dX5_count_77 : decode cX5_count 77 = .ok (.getfield 10, 3) := by decide +kernel
theorem dX5_count_80 : decode cX5_count 80 = .ok (.invokevirtual 124, 3) := by decide +kernel
theorem dX5_count_83 : decode cX5_count 83 = .ok (.aload_n 0, 1) := by decide +kernel
theorem dX5_count_84 : decode cX5_count 84 = .ok (.getfield 44, 3) := by decide +kernel
theorem dX5_count_87 : decode cX5_count 87 = .ok (.invokevirtual 128, 3) := by decide +kernel
theorem dX5_count_90 : decode cX5_count 90 = .ok (.ireturn, 1) := by decide +kernel
theorem dX5_count_91 : decode cX5_count 91 = .ok (.aload_n 0, 1) := by decide +kernel
theorem dX5_count_92 : decode cX5_count 92 = .ok (.getfield 10, 3) := by decide +kernel
theorem dX5_count_95 : decode cX5_count 95 = .ok (.getfield 57, 3) := by decide +kernel
theorem dX5_count_98 : decode cX5_count 98 = .ok (.invokestatic 61, 3) := by decide +kernel
theorem dX5_count_101 : decode cX5_count 101 = .ok (.iconst 2, 1) := by decide +kernel
theorem dX5_count_102 : decode cX5_count 102 = .ok (.idiv, 1) := by decide +kernel
theorem dX5_count_103 : decode cX5_count 103 = .ok (.ireturn, 1) := by decide +kernel
theorem dX5_count_104 : decode cX5_count 104 = .ok (.aload_n 0, 1) := by decide +kernel
theorem dX5_count_105 : decode cX5_count 105 = .ok (.getfield 10, 3) := by decide +kernel
theorem dX5_count_108 : decode cX5_count 108 = .ok (.getfield 154, 3) := by decide +kernel
theorem dX5_count_111 : decode cX5_count 111 = .ok (.ireturn, 1) := by decide +kernel
theorem dX5_count_112 : decode cX5_count 112 = .ok (.aload_n 0, 1) := by decide +kernel
theorem dX5_count_113 : decode cX5_count 113 = .ok (.getfield 175, 3) := by decide +kernel
theorem dX5_count_116 : decode cX5_count 116 = .ok (.ireturn, 1) := by decide +kernel
theorem dX5_count_117 : decode cX5_count 117 = .ok (.aload_n 0, 1) := by decide +kernel
theorem dX5_count_118 : decode cX5_count 118 = .ok (.getfield 23, 3) := by decide +kernel
theorem dX5_count_121 : decode cX5_count 121 = .ok (.getfield 178, 3) := by decide +kernel
theorem dX5_count_124 : decode cX5_count 124 = .ok (.ireturn, 1) := by decide +kernel
theorem dX5_count_125 : decode cX5_count 125 = .ok (.ldc 56, 2) := by decide +kernel
theorem dX5_count_127 : decode cX5_count 127 = .ok (.ireturn, 1) := by decide +kernel
theorem dX5_undo_0 : decode cX5_undo 0 = .ok (.aload_n 0, 1) := by decide +kernel
theorem dX5_undo_1 : decode cX5_undo 1 = .ok (.getfield 175, 3) := by decide +kernel
theorem dX5_undo_4 : decode cX5_undo 4 = .ok (.iconst 1, 1) := by decide +kernel
theorem dX5_undo_5 : decode cX5_undo 5 = .ok (.if_icmp .lt 15, 3) := by decide +kernel
theorem dX5_undo_8 : decode cX5_undo 8 = .ok (.aload_n 0, 1) := by decide +kernel
theorem dX5_undo_9 : decode cX5_undo 9 = .ok (.getfield 175, 3) := by decide +kernel
theorem dX5_undo_12 : decode cX5_undo 12 = .ok (.aload_n 0, 1) := by decide +kernel
theorem dX5_undo_13 : decode cX5_undo 13 = .ok (.getfield 16, 3) := by decide +kernel
theorem dX5_undo_16 : decode cX5_undo 16 = .ok (.arraylength, 1) := by decide +kernel
theorem dX5_undo_17 : decode cX5_undo 17 = .ok (.if_icmp .le 6, 3) := by decide +kernel
theorem dX5_undo_20 : decode cX5_undo 20 = .ok (.ldc 84, 2) := by decide +kernel
theorem dX5_undo_22 : decode cX5_undo 22 = .ok (.ireturn, 1) := by decide +kernel
theorem dX5_undo_23 : decode cX5_undo 23 = .ok (.aload_n 0, 1) := by decide +kernel
theorem dX5_undo_24 : decode cX5_undo 24 = .ok (.dup, 1) := by decide +kernel
theorem dX5_undo_25 : decode cX5_undo 25 = .ok (.getfield 175, 3) := by decide +kernel
theorem dX5_undo_28 : decode cX5_undo 28 = .ok (.iconst 1, 1) := by decide +kernel
theorem dX5_undo_29 : decode cX5_undo 29 = .ok (.isub, 1) := by decide +kernel
theorem dX5_undo_30 : decode cX5_undo 30 = .ok (.putfield 175, 3) := by decide +kernel
theorem dX5_undo_33 : decode cX5_undo 33 = .ok (.aload_n 0, 1) := by decide +kernel
theorem dX5_undo_34 : decode cX5_undo 34 = .ok (.getfield 10, 3) := by decide +kernel
theorem dX5_undo_37 : decode cX5_undo 37 = .ok (.aload_n 0, 1) := by decide +kernel
theorem dX5_undo_38 : decode cX5_undo 38 = .ok (.getfield 16, 3) := by decide +kernel
theorem dX5_undo_41 : decode cX5_undo 41 = .ok (.aload_n 0, 1) := by decide +kernel
theorem dX5_undo_42 : decode cX5_undo 42 = .ok (.getfield 175, 3) := by decide +kernel
theorem dX5_undo_45 : decode cX5_undo 45 = .ok (.aaload, 1) := by decide +kernel
theorem dX5_undo_46 : decode cX5_undo 46 = .ok (.invokevirtual 181, 3) := by decide +kernel
theorem dX5_undo_49 : decode cX5_undo 49 = .ok (.aload_n 0, 1) := by decide +kernel
theorem dX5_undo_50 : decode cX5_undo 50 = .ok (.getfield 175, 3) := by decide +kernel
theorem dX5_undo_53 : decode cX5_undo 53 = .ok (.ireturn, 1) := by decide +kernel
theorem dX5_type_0 : decode cX5_type 0 = .ok (.iload_n 1, 1) := by decide +kernel
theorem dX5_type_1 : decode cX5_type 1 = .ok (.bipush 32, 2) := by decide +kernel
theorem dX5_type_3 : decode cX5_type 3 = .ok (.if_icmp .lt 9, 3) := by decide +kernel
theorem dX5_type_6 : decode cX5_type 6 = .ok (.iload_n 1, 1) := by decide +kernel
theorem dX5_type_7 : decode cX5_type 7 = .ok (.bipush 126, 2) := by decide +kernel
theorem dX5_type_9 : decode cX5_type 9 = .ok (.if_icmp .le 6, 3) := by decide +kernel
theorem dX5_type_12 : decode cX5_type 12 = .ok (.ldc 56, 2) := by decide +kernel
theorem dX5_type_14 : decode cX5_type 14 = .ok (.ireturn, 1) := by decide +kernel
theorem dX5_type_15 : decode cX5_type 15 = .ok (.aload_n 0, 1) := by decide +kernel
theorem dX5_type_16 : decode cX5_type 16 = .ok (.getfield 23, 3) := by decide +kernel
theorem dX5_type_19 : decode cX5_type 19 = .ok (.getfield 178, 3) := by decide +kernel
theorem dX5_type_22 : decode cX5_type 22 = .ok (.bipush 60, 2) := by decide +kernel
theorem dX5_type_24 : decode cX5_type 24 = .ok (.if_icmp .lt 6, 3) := by decide +kernel
theorem dX5_type_27 : decode cX5_type 27 = .ok (.ldc 65, 2) := by decide +kernel
theorem dX5_type_29 : decode cX5_type 29 = .ok (.ireturn, 1) := by decide +kernel
theorem dX5_type_30 : decode cX5_type 30 = .ok (.aload_n 0, 1) := by decide +kernel
theorem dX5_type_31 : decode cX5_type 31 = .ok (.getfield 23, 3) := by decide +kernel
theorem dX5_type_34 : decode cX5_type 34 = .ok (.iload_n 1, 1) := by decide +kernel
theorem dX5_type_35 : decode cX5_type 35 = .ok (.invokevirtual 185, 3) := by decide +kernel
theorem dX5_type_38 : decode cX5_type 38 = .ok (.aload_n 0, 1) := by decide +kernel
theorem dX5_type_39 : decode cX5_type 39 = .ok (.getfield 23, 3) := by decide +kernel
theorem dX5_type_42 : decode cX5_type 42 = .ok (.getfield 178, 3) := by decide +kernel
theorem dX5_type_45 : decode cX5_type 45 = .ok (.ireturn, 1) := by decide +kernel
theorem dX5_clearText_0 : decode cX5_clearText 0 = .ok (.aload_n 0, 1) := by decide +kernel
theorem dX5_clearText_1 : decode cX5_clearText 1 = .ok (.getfield 23, 3) := by decide +kernel
theorem dX5_clearText_4 : decode cX5_clearText 4 = .ok (.getfield 178, 3) := by decide +kernel
theorem dX5_clearText_7 : decode cX5_clearText 7 = .ok (.istore_n 1, 1) := by decide +kernel
theorem dX5_clearText_8 : decode cX5_clearText 8 = .ok (.aload_n 0, 1) := by decide +kernel
theorem dX5_clearText_9 : decode cX5_clearText 9 = .ok (.getfield 23, 3) := by decide +kernel
theorem dX5_clearText_12 : decode cX5_clearText 12 = .ok (.iconst 0, 1) := by decide +kernel
theorem dX5_clearText_13 : decode cX5_clearText 13 = .ok (.putfield 178, 3) := by decide +kernel
theorem dX5_clearText_16 : decode cX5_clearText 16 = .ok (.iload_n 1, 1) := by decide +kernel
theorem dX5_clearText_17 : decode cX5_clearText 17 = .ok (.ireturn, 1) := by decide +kernel
theorem dX5_fault_0 : decode cX5_fault 0 = .ok (.iload_n 1, 1) := by decide +kernel
theorem dX5_fault_1 : decode cX5_fault 1 = .ok (.iconst 2, 1) := by decide +kernel
theorem dX5_fault_2 : decode cX5_fault 2 = .ok (.invokestatic 52, 3) := by decide +kernel
theorem dX5_fault_5 : decode cX5_fault 5 = .ok (.ifCond .ne 6, 3) := by decide +kernel
theorem dX5_fault_8 : decode cX5_fault 8 = .ok (.ldc 56, 2) := by decide +kernel
theorem dX5_fault_10 : decode cX5_fault 10 = .ok (.ireturn, 1) := by decide +kernel
theorem dX5_fault_11 : decode cX5_fault 11 = .ok (.aload_n 0, 1) := by decide +kernel
theorem dX5_fault_12 : decode cX5_fault 12 = .ok (.getfield 30, 3) := by decide +kernel
theorem dX5_fault_15 : decode cX5_fault 15 = .ok (.aload_n 0, 1) := by decide +kernel
theorem dX5_fault_16 : decode cX5_fault 16 = .ok (.getfield 10, 3) := by decide +kernel
theorem dX5_fault_19 : decode cX5_fault 19 = .ok (.aload_n 0, 1) := by decide +kernel
theorem dX5_fault_20 : decode cX5_fault 20 = .ok (.getfield 23, 3) := by decide +kernel
theorem dX5_fault_23 : decode cX5_fault 23 = .ok (.aload_n 0, 1) := by decide +kernel
theorem dX5_fault_24 : decode cX5_fault 24 = .ok (.getfield 37, 3) := by decide +kernel
theorem dX5_fault_27 : decode cX5_fault 27 = .ok (.invokevirtual 189, 3) := by decide +kernel
theorem dX5_fault_30 : decode cX5_fault 30 = .ok (.aload_n 0, 1) := by decide +kernel
theorem dX5_fault_31 : decode cX5_fault 31 = .ok (.getfield 30, 3) := by decide +kernel
theorem dX5_fault_34 : decode cX5_fault 34 = .ok (.getfield 193, 3) := by decide +kernel
theorem dX5_fault_37 : decode cX5_fault 37 = .ok (.ifCond .eq 19, 3) := by decide +kernel
theorem dX5_fault_40 : decode cX5_fault 40 = .ok (.iload_n 1, 1) := by decide +kernel
theorem dX5_fault_41 : decode cX5_fault 41 = .ok (.iconst 2, 1) := by decide +kernel
theorem dX5_fault_42 : decode cX5_fault 42 = .ok (.if_icmp .ne 17, 3) := by decide +kernel
theorem dX5_fault_45 : decode cX5_fault 45 = .ok (.aload_n 0, 1) := by decide +kernel
theorem dX5_fault_46 : decode cX5_fault 46 = .ok (.getfield 30, 3) := by decide +kernel
theorem dX5_fault_49 : decode cX5_fault 49 = .ok (.getfield 193, 3) := by decide +kernel
theorem dX5_fault_52 : decode cX5_fault 52 = .ok (.iconst 2, 1) := by decide +kernel
theorem dX5_fault_53 : decode cX5_fault 53 = .ok (.if_icmp .ne 6, 3) := by decide +kernel
theorem dX5_fault_56 : decode cX5_fault 56 = .ok (.ldc 91, 2) := by decide +kernel
theorem dX5_fault_58 : decode cX5_fault 58 = .ok (.ireturn, 1) := by decide +kernel
theorem dX5_fault_59 : decode cX5_fault 59 = .ok (.iload_n 1, 1) := by decide +kernel
theorem dX5_fault_60 : decode cX5_fault 60 = .ok (.ifCond .ne 11, 3) := by decide +kernel
theorem dX5_fault_63 : decode cX5_fault 63 = .ok (.aload_n 0, 1) := by decide +kernel
theorem dX5_fault_64 : decode cX5_fault 64 = .ok (.getfield 30, 3) := by decide +kernel
theorem dX5_fault_67 : decode cX5_fault 67 = .ok (.getfield 196, 3) := by decide +kernel
theorem dX5_fault_70 : decode cX5_fault 70 = .ok (.ireturn, 1) := by decide +kernel
theorem dX5_fault_71 : decode cX5_fault 71 = .ok (.iload_n 1, 1) := by decide +kernel
theorem dX5_fault_72 : decode cX5_fault 72 = .ok (.iconst 1, 1) := by decide +kernel
theorem dX5_fault_73 : decode cX5_fault 73 = .ok (.if_icmp .ne 13, 3) := by decide +kernel
theorem dX5_fault_76 : decode cX5_fault 76 = .ok (.aload_n 0, 1) := by decide +kernel
theorem dX5_fault_77 : decode cX5_fault 77 = .ok (.getfield 30, 3) := by decide +kernel
theorem dX5_fault_80 : decode cX5_fault 80 = .ok (.getfield 193, 3) := by decide +kernel
theorem dX5_fault_83 : decode cX5_fault 83 = .ok (.goto 10, 3) := by decide +kernel
theorem dX5_fault_86 : decode cX5_fault 86 = .ok (.aload_n 0, 1) := by decide +kernel
theorem dX5_fault_87 : decode cX5_fault 87 = .ok (.getfield 30, 3) := by decide +kernel
theorem dX5_fault_90 : decode cX5_fault 90 = .ok (.getfield 199, 3) := by decide +kernel
theorem dX5_fault_93 : decode cX5_fault 93 = .ok (.ireturn, 1) := by decide +kernel
theorem dX5_play_0 : decode cX5_play 0 = .ok (.aload_n 0, 1) := by decide +kernel
theorem dX5_play_1 : decode cX5_play 1 = .ok (.getfield 30, 3) := by decide +kernel
theorem dX5_play_4 : decode cX5_play 4 = .ok (.aload_n 0, 1) := by decide +kernel
theorem dX5_play_5 : decode cX5_play 5 = .ok (.getfield 10, 3) := by decide +kernel
theorem dX5_play_8 : decode cX5_play 8 = .ok (.aload_n 0, 1) := by decide +kernel
theorem dX5_play_9 : decode cX5_play 9 = .ok (.getfield 23, 3) := by decide +kernel
theorem dX5_play_12 : decode cX5_play 12 = .ok (.aload_n 0, 1) := by decide +kernel
theorem dX5_play_13 : decode cX5_play 13 = .ok (.getfield 37, 3) := by decide +kernel
theorem dX5_play_16 : decode cX5_play 16 = .ok (.invokevirtual 189, 3) := by decide +kernel
theorem dX5_play_19 : decode cX5_play 19 = .ok (.aload_n 0, 1) := by decide +kernel
theorem dX5_play_20 : decode cX5_play 20 = .ok (.getfield 30, 3) := by decide +kernel
theorem dX5_play_23 : decode cX5_play 23 = .ok (.getfield 193, 3) := by decide +kernel
theorem dX5_play_26 : decode cX5_play 26 = .ok (.ifCond .eq 6, 3) := by decide +kernel
theorem dX5_play_29 : decode cX5_play 29 = .ok (.ldc 84, 2) := by decide +kernel
theorem dX5_play_31 : decode cX5_play 31 = .ok (.ireturn, 1) := by decide +kernel
theorem dX5_play_32 : decode cX5_play 32 = .ok (.aload_n 0, 1) := by decide +kernel
theorem dX5_play_33 : decode cX5_play 33 = .ok (.invokevirtual 66, 3) := by decide +kernel
theorem dX5_play_36 : decode cX5_play 36 = .ok (.aload_n 0, 1) := by decide +kernel
theorem dX5_play_37 : decode cX5_play 37 = .ok (.getfield 10, 3) := by decide +kernel
theorem dX5_play_40 : decode cX5_play 40 = .ok (.aload_n 0, 1) := by decide +kernel
theorem dX5_play_41 : decode cX5_play 41 = .ok (.getfield 30, 3) := by decide +kernel
theorem dX5_play_44 : decode cX5_play 44 = .ok (.getfield 202, 3) := by decide +kernel
theorem dX5_play_47 : decode cX5_play 47 = .ok (.invokevirtual 181, 3) := by decide +kernel
theorem dX5_play_50 : decode cX5_play 50 = .ok (.aload_n 0, 1) := by decide +kernel
theorem dX5_play_51 : decode cX5_play 51 = .ok (.getfield 30, 3) := by decide +kernel
theorem dX5_play_54 : decode cX5_play 54 = .ok (.getfield 205, 3) := by decide +kernel
theorem dX5_play_57 : decode cX5_play 57 = .ok (.ireturn, 1) := by decide +kernel
theorem dX5_within_0 : decode cX5_within 0 = .ok (.iload_n 0, 1) := by decide +kernel
theorem dX5_within_1 : decode cX5_within 1 = .ok (.ifCond .lt 12, 3) := by decide +kernel
theorem dX5_within_4 : decode cX5_within 4 = .ok (.iload_n 0, 1) := by decide +kernel
theorem dX5_within_5 : decode cX5_within 5 = .ok (.iload_n 1, 1) := by decide +kernel
theorem dX5_within_6 : decode cX5_within 6 = .ok (.if_icmp .gt 7, 3) := by decide +kernel
theorem dX5_within_9 : decode cX5_within 9 = .ok (.iconst 1, 1) := by decide +kernel
theorem dX5_within_10 : decode cX5_within 10 = .ok (.goto 4, 3) := by decide +kernel
theorem dX5_within_13 : decode cX5_within 13 = .ok (.iconst 0, 1) := by decide +kernel
theorem dX5_within_14 : decode cX5_within 14 = .ok (.ireturn, 1) := by decide +kernel
theorem dX5_record_0 : decode cX5_record 0 = .ok (.aload_n 0, 1) := by decide +kernel
theorem dX5_record_1 : decode cX5_record 1 = .ok (.getfield 175, 3) := by decide +kernel
theorem dX5_record_4 : decode cX5_record 4 = .ok (.aload_n 0, 1) := by decide +kernel
theorem dX5_record_5 : decode cX5_record 5 = .ok (.getfield 16, 3) := by decide +kernel
theorem dX5_record_8 : decode cX5_record 8 = .ok (.arraylength, 1) := by decide +kernel
theorem dX5_record_9 : decode cX5_record 9 = .ok (.if_icmp .lt 7, 3) := by decide +kernel
theorem dX5_record_12 : decode cX5_record 12 = .ok (.aload_n 0, 1) := by decide +kernel
theorem dX5_record_13 : decode cX5_record 13 = .ok (.invokevirtual 208, 3) := by decide +kernel
theorem dX5_record_16 : decode cX5_record 16 = .ok (.aload_n 0, 1) := by decide +kernel
theorem dX5_record_17 : decode cX5_record 17 = .ok (.getfield 175, 3) := by decide +kernel
theorem dX5_record_20 : decode cX5_record 20 = .ok (.ifCond .lt 53, 3) := by decide +kernel
theorem dX5_record_23 : decode cX5_record 23 = .ok (.aload_n 0, 1) := by decide +kernel
theorem dX5_record_24 : decode cX5_record 24 = .ok (.getfield 175, 3) := by decide +kernel
theorem dX5_record_27 : decode cX5_record 27 = .ok (.aload_n 0, 1) := by decide +kernel
theorem dX5_record_28 : decode cX5_record 28 = .ok (.getfield 16, 3) := by decide +kernel
theorem dX5_record_31 : decode cX5_record 31 = .ok (.arraylength, 1) := by decide +kernel
theorem dX5_record_32 : decode cX5_record 32 = .ok (.if_icmp .ge 41, 3) := by decide +kernel
theorem dX5_record_35 : decode cX5_record 35 = .ok (.aload_n 0, 1) := by decide +kernel
theorem dX5_record_36 : decode cX5_record 36 = .ok (.getfield 16, 3) := by decide +kernel
theorem dX5_record_39 : decode cX5_record 39 = .ok (.aload_n 0, 1) := by decide +kernel
theorem dX5_record_40 : decode cX5_record 40 = .ok (.getfield 175, 3) := by decide +kernel
theorem dX5_record_43 : decode cX5_record 43 = .ok (.aaload, 1) := by decide +kernel
theorem dX5_record_44 : decode cX5_record 44 = .ok (.ifnull 29, 3) := by decide +kernel
theorem dX5_record_47 : decode cX5_record 47 = .ok (.aload_n 0, 1) := by decide +kernel
theorem dX5_record_48 : decode cX5_record 48 = .ok (.getfield 16, 3) := by decide +kernel
theorem dX5_record_51 : decode cX5_record 51 = .ok (.aload_n 0, 1) := by decide +kernel
theorem dX5_record_52 : decode cX5_record 52 = .ok (.getfield 175, 3) := by decide +kernel
theorem dX5_record_55 : decode cX5_record 55 = .ok (.aaload, 1) := by decide +kernel
theorem dX5_record_56 : decode cX5_record 56 = .ok (.aload_n 0, 1) := by decide +kernel
theorem dX5_record_57 : decode cX5_record 57 = .ok (.getfield 10, 3) := by decide +kernel
theorem dX5_record_60 : decode cX5_record 60 = .ok (.invokevirtual 181, 3) := by decide +kernel
theorem dX5_record_63 : decode cX5_record 63 = .ok (.aload_n 0, 1) := by decide +kernel
theorem dX5_record_64 : decode cX5_record 64 = .ok (.dup, 1) := by decide +kernel
theorem dX5_record_65 : decode cX5_record 65 = .ok (.getfield 175, 3) := by decide +kernel
theorem dX5_record_68 : decode cX5_record 68 = .ok (.iconst 1, 1) := by decide +kernel
theorem dX5_record_69 : decode cX5_record 69 = .ok (.iadd, 1) := by decide +kernel
theorem dX5_record_70 : decode cX5_record 70 = .ok (.putfield 175, 3) := by decide +kernel
theorem dX5_record_73 : decode cX5_record 73 = .ok (.return_, 1) := by decide +kernel
theorem dX5_dropOldest_0 : decode cX5_dropOldest 0 = .ok (.aload_n 0, 1) := by decide +kernel
theorem dX5_dropOldest_1 : decode cX5_dropOldest 1 = .ok (.getfield 16, 3) := by decide +kernel
theorem dX5_dropOldest_4 : decode cX5_dropOldest 4 = .ok (.arraylength, 1) := by decide +kernel
theorem dX5_dropOldest_5 : decode cX5_dropOldest 5 = .ok (.iconst 1, 1) := by decide +kernel
theorem dX5_dropOldest_6 : decode cX5_dropOldest 6 = .ok (.if_icmp .ge 4, 3) := by decide +kernel
theorem dX5_dropOldest_9 : decode cX5_dropOldest 9 = .ok (.return_, 1) := by decide +kernel
theorem dX5_dropOldest_10 : decode cX5_dropOldest 10 = .ok (.aload_n 0, 1) := by decide +kernel
theorem dX5_dropOldest_11 : decode cX5_dropOldest 11 = .ok (.getfield 16, 3) := by decide +kernel
theorem dX5_dropOldest_14 : decode cX5_dropOldest 14 = .ok (.iconst 0, 1) := by decide +kernel
theorem dX5_dropOldest_15 : decode cX5_dropOldest 15 = .ok (.aaload, 1) := by decide +kernel
theorem dX5_dropOldest_16 : decode cX5_dropOldest 16 = .ok (.astore_n 1, 1) := by decide +kernel
theorem dX5_dropOldest_17 : decode cX5_dropOldest 17 = .ok (.iconst 1, 1) := by decide +kernel
theorem dX5_dropOldest_18 : decode cX5_dropOldest 18 = .ok (.istore_n 2, 1) := by decide +kernel
theorem dX5_dropOldest_19 : decode cX5_dropOldest 19 = .ok (.iload_n 2, 1) := by decide +kernel
theorem dX5_dropOldest_20 : decode cX5_dropOldest 20 = .ok (.aload_n 0, 1) := by decide +kernel
theorem dX5_dropOldest_21 : decode cX5_dropOldest 21 = .ok (.getfield 16, 3) := by decide +kernel
theorem dX5_dropOldest_24 : decode cX5_dropOldest 24 = .ok (.arraylength, 1) := by decide +kernel
theorem dX5_dropOldest_25 : decode cX5_dropOldest 25 = .ok (.if_icmp .ge 23, 3) := by decide +kernel
theorem dX5_dropOldest_28 : decode cX5_dropOldest 28 = .ok (.aload_n 0, 1) := by decide +kernel
theorem dX5_dropOldest_29 : decode cX5_dropOldest 29 = .ok (.getfield 16, 3) := by decide +kernel
theorem dX5_dropOldest_32 : decode cX5_dropOldest 32 = .ok (.iload_n 2, 1) := by decide +kernel
theorem dX5_dropOldest_33 : decode cX5_dropOldest 33 = .ok (.iconst 1, 1) := by decide +kernel
theorem dX5_dropOldest_34 : decode cX5_dropOldest 34 = .ok (.isub, 1) := by decide +kernel
theorem dX5_dropOldest_35 : decode cX5_dropOldest 35 = .ok (.aload_n 0, 1) := by decide +kernel
theorem dX5_dropOldest_36 : decode cX5_dropOldest 36 = .ok (.getfield 16, 3) := by decide +kernel
theorem dX5_dropOldest_39 : decode cX5_dropOldest 39 = .ok (.iload_n 2, 1) := by decide +kernel
theorem dX5_dropOldest_40 : decode cX5_dropOldest 40 = .ok (.aaload, 1) := by decide +kernel
theorem dX5_dropOldest_41 : decode cX5_dropOldest 41 = .ok (.aastore, 1) := by decide +kernel
theorem dX5_dropOldest_42 : decode cX5_dropOldest 42 = .ok (.iinc 2 1, 3) := by decide +kernel
theorem dX5_dropOldest_45 : decode cX5_dropOldest 45 = .ok (.goto (-26), 3) := by decide +kernel
theorem dX5_dropOldest_48 : decode cX5_dropOldest 48 = .ok (.aload_n 0, 1) := by decide +kernel
theorem dX5_dropOldest_49 : decode cX5_dropOldest 49 = .ok (.getfield 16, 3) := by decide +kernel
theorem dX5_dropOldest_52 : decode cX5_dropOldest 52 = .ok (.aload_n 0, 1) := by decide +kernel
theorem dX5_dropOldest_53 : decode cX5_dropOldest 53 = .ok (.getfield 16, 3) := by decide +kernel
theorem dX5_dropOldest_56 : decode cX5_dropOldest 56 = .ok (.arraylength, 1) := by decide +kernel
theorem dX5_dropOldest_57 : decode cX5_dropOldest 57 = .ok (.iconst 1, 1) := by decide +kernel
theorem dX5_dropOldest_58 : decode cX5_dropOldest 58 = .ok (.isub, 1) := by decide +kernel
theorem dX5_dropOldest_59 : decode cX5_dropOldest 59 = .ok (.aload_n 1, 1) := by decide +kernel
theorem dX5_dropOldest_60 : decode cX5_dropOldest 60 = .ok (.aastore, 1) := by decide +kernel
theorem dX5_dropOldest_61 : decode cX5_dropOldest 61 = .ok (.aload_n 0, 1) := by decide +kernel
theorem dX5_dropOldest_62 : decode cX5_dropOldest 62 = .ok (.aload_n 0, 1) := by decide +kernel
theorem dX5_dropOldest_63 : decode cX5_dropOldest 63 = .ok (.getfield 16, 3) := by decide +kernel
theorem dX5_dropOldest_66 : decode cX5_dropOldest 66 = .ok (.arraylength, 1) := by decide +kernel
theorem dX5_dropOldest_67 : decode cX5_dropOldest 67 = .ok (.iconst 1, 1) := by decide +kernel
theorem dX5_dropOldest_68 : decode cX5_dropOldest 68 = .ok (.isub, 1) := by decide +kernel
theorem dX5_dropOldest_69 : decode cX5_dropOldest 69 = .ok (.putfield 175, 3) := by decide +kernel
theorem dX5_dropOldest_72 : decode cX5_dropOldest 72 = .ok (.return_, 1) := by decide +kernel
theorem dX5_moveBy_0 : decode cX5_moveBy 0 = .ok (.iload_n 1, 1) := by decide +kernel
theorem dX5_moveBy_1 : decode cX5_moveBy 1 = .ok (.iconst 3, 1) := by decide +kernel
theorem dX5_moveBy_2 : decode cX5_moveBy 2 = .ok (.invokestatic 52, 3) := by decide +kernel
theorem dX5_moveBy_5 : decode cX5_moveBy 5 = .ok (.ifCond .ne 6, 3) := by decide +kernel
theorem dX5_moveBy_8 : decode cX5_moveBy 8 = .ok (.ldc 56, 2) := by decide +kernel
theorem dX5_moveBy_10 : decode cX5_moveBy 10 = .ok (.ireturn, 1) := by decide +kernel
theorem dX5_moveBy_11 : decode cX5_moveBy 11 = .ok (.aload_n 0, 1) := by decide +kernel
theorem dX5_moveBy_12 : decode cX5_moveBy 12 = .ok (.getfield 37, 3) := by decide +kernel
theorem dX5_moveBy_15 : decode cX5_moveBy 15 = .ok (.aload_n 0, 1) := by decide +kernel
theorem dX5_moveBy_16 : decode cX5_moveBy 16 = .ok (.getfield 10, 3) := by decide +kernel
theorem dX5_moveBy_19 : decode cX5_moveBy 19 = .ok (.iload_n 1, 1) := by decide +kernel
theorem dX5_moveBy_20 : decode cX5_moveBy 20 = .ok (.invokevirtual 104, 3) := by decide +kernel
theorem dX5_moveBy_23 : decode cX5_moveBy 23 = .ok (.aload_n 0, 1) := by decide +kernel
theorem dX5_moveBy_24 : decode cX5_moveBy 24 = .ok (.getfield 37, 3) := by decide +kernel
theorem dX5_moveBy_27 : decode cX5_moveBy 27 = .ok (.invokevirtual 112, 3) := by decide +kernel
theorem dX5_moveBy_30 : decode cX5_moveBy 30 = .ok (.iload_n 2, 1) := by decide +kernel
theorem dX5_moveBy_31 : decode cX5_moveBy 31 = .ok (.iadd, 1) := by decide +kernel
theorem dX5_moveBy_32 : decode cX5_moveBy 32 = .ok (.istore_n 3, 1) := by decide +kernel
theorem dX5_moveBy_33 : decode cX5_moveBy 33 = .ok (.iload_n 3, 1) := by decide +kernel
theorem dX5_moveBy_34 : decode cX5_moveBy 34 = .ok (.ifCond .lt 14, 3) := by decide +kernel
theorem dX5_moveBy_37 : decode cX5_moveBy 37 = .ok (.iload_n 3, 1) := by decide +kernel
theorem dX5_moveBy_38 : decode cX5_moveBy 38 = .ok (.aload_n 0, 1) := by decide +kernel
theorem dX5_moveBy_39 : decode cX5_moveBy 39 = .ok (.getfield 37, 3) := by decide +kernel
theorem dX5_moveBy_42 : decode cX5_moveBy 42 = .ok (.invokevirtual 108, 3) := by decide +kernel
theorem dX5_moveBy_45 : decode cX5_moveBy 45 = .ok (.if_icmp .lt 6, 3) := by decide +kernel
theorem dX5_moveBy_48 : decode cX5_moveBy 48 = .ok (.ldc 84, 2) := by decide +kernel
theorem dX5_moveBy_50 : decode cX5_moveBy 50 = .ok (.ireturn, 1) := by decide +kernel
theorem dX5_moveBy_51 : decode cX5_moveBy 51 = .ok (.aload_n 0, 1) := by decide +kernel
theorem dX5_moveBy_52 : decode cX5_moveBy 52 = .ok (.invokevirtual 66, 3) := by decide +kernel
theorem dX5_moveBy_55 : decode cX5_moveBy 55 = .ok (.aload_n 0, 1) := by decide +kernel
theorem dX5_moveBy_56 : decode cX5_moveBy 56 = .ok (.getfield 10, 3) := by decide +kernel
theorem dX5_moveBy_59 : decode cX5_moveBy 59 = .ok (.aload_n 0, 1) := by decide +kernel
theorem dX5_moveBy_60 : decode cX5_moveBy 60 = .ok (.getfield 37, 3) := by decide +kernel
theorem dX5_moveBy_63 : decode cX5_moveBy 63 = .ok (.iload_n 3, 1) := by decide +kernel
theorem dX5_moveBy_64 : decode cX5_moveBy 64 = .ok (.invokevirtual 115, 3) := by decide +kernel
theorem dX5_moveBy_67 : decode cX5_moveBy 67 = .ok (.putfield 57, 3) := by decide +kernel
theorem dX5_moveBy_70 : decode cX5_moveBy 70 = .ok (.iload_n 3, 1) := by decide +kernel
theorem dX5_moveBy_71 : decode cX5_moveBy 71 = .ok (.ireturn, 1) := by decide +kernel
theorem dX5_pairsAheadOf_0 : decode cX5_pairsAheadOf 0 = .ok (.iconst 0, 1) := by decide +kernel
theorem dX5_pairsAheadOf_1 : decode cX5_pairsAheadOf 1 = .ok (.istore_n 3, 1) := by decide +kernel
theorem dX5_pairsAheadOf_2 : decode cX5_pairsAheadOf 2 = .ok (.iconst 0, 1) := by decide +kernel
theorem dX5_pairsAheadOf_3 : decode cX5_pairsAheadOf 3 = .ok (.istore 4, 2) := by decide +kernel
theorem dX5_pairsAheadOf_5 : decode cX5_pairsAheadOf 5 = .ok (.iload 4, 2) := by decide +kernel
theorem dX5_pairsAheadOf_7 : decode cX5_pairsAheadOf 7 = .ok (.aload_n 0, 1) := by decide +kernel
theorem dX5_pairsAheadOf_8 : decode cX5_pairsAheadOf 8 = .ok (.getfield 48, 3) := by decide +kernel
theorem dX5_pairsAheadOf_11 : decode cX5_pairsAheadOf 11 = .ok (.arraylength, 1) := by decide +kernel
theorem dX5_pairsAheadOf_12 : decode cX5_pairsAheadOf 12 = .ok (.if_icmp .ge 52, 3) := by decide +kernel
theorem dX5_pairsAheadOf_15 : decode cX5_pairsAheadOf 15 = .ok (.aload_n 0, 1) := by decide +kernel
theorem dX5_pairsAheadOf_16 : decode cX5_pairsAheadOf 16 = .ok (.getfield 48, 3) := by decide +kernel
theorem dX5_pairsAheadOf_19 : decode cX5_pairsAheadOf 19 = .ok (.iload 4, 2) := by decide +kernel
theorem dX5_pairsAheadOf_21 : decode cX5_pairsAheadOf 21 = .ok (.iaload, 1) := by decide +kernel
theorem dX5_pairsAheadOf_22 : decode cX5_pairsAheadOf 22 = .ok (.iload_n 2, 1) := by decide +kernel
theorem dX5_pairsAheadOf_23 : decode cX5_pairsAheadOf 23 = .ok (.if_icmp .ne 7, 3) := by decide +kernel
theorem dX5_pairsAheadOf_26 : decode cX5_pairsAheadOf 26 = .ok (.iconst 1, 1) := by decide +kernel
theorem dX5_pairsAheadOf_27 : decode cX5_pairsAheadOf 27 = .ok (.goto 4, 3) := by decide +kernel
theorem dX5_pairsAheadOf_30 : decode cX5_pairsAheadOf 30 = .ok (.iconst 0, 1) := by decide +kernel
theorem dX5_pairsAheadOf_31 : decode cX5_pairsAheadOf 31 = .ok (.istore 5, 2) := by decide +kernel
theorem dX5_pairsAheadOf_33 : decode cX5_pairsAheadOf 33 = .ok (.aload_n 0, 1) := by decide +kernel
theorem dX5_pairsAheadOf_34 : decode cX5_pairsAheadOf 34 = .ok (.getfield 48, 3) := by decide +kernel
theorem dX5_pairsAheadOf_37 : decode cX5_pairsAheadOf 37 = .ok (.iload 4, 2) := by decide +kernel
theorem dX5_pairsAheadOf_39 : decode cX5_pairsAheadOf 39 = .ok (.iaload, 1) := by decide +kernel
theorem dX5_pairsAheadOf_40 : decode cX5_pairsAheadOf 40 = .ok (.iload_n 2, 1) := by decide +kernel
theorem dX5_pairsAheadOf_41 : decode cX5_pairsAheadOf 41 = .ok (.if_icmp .gt 14, 3) := by decide +kernel
theorem dX5_pairsAheadOf_44 : decode cX5_pairsAheadOf 44 = .ok (.iload 5, 2) := by decide +kernel
theorem dX5_pairsAheadOf_46 : decode cX5_pairsAheadOf 46 = .ok (.ifCond .eq 12, 3) := by decide +kernel
theorem dX5_pairsAheadOf_49 : decode cX5_pairsAheadOf 49 = .ok (.iload 4, 2) := by decide +kernel
theorem dX5_pairsAheadOf_51 : decode cX5_pairsAheadOf 51 = .ok (.iload_n 1, 1) := by decide +kernel
theorem dX5_pairsAheadOf_52 : decode cX5_pairsAheadOf 52 = .ok (.if_icmp .ge 6, 3) := by decide +kernel
theorem dX5_pairsAheadOf_55 : decode cX5_pairsAheadOf 55 = .ok (.iinc 3 1, 3) := by decide +kernel
theorem dX5_pairsAheadOf_58 : decode cX5_pairsAheadOf 58 = .ok (.iinc 4 1, 3) := by decide +kernel
theorem dX5_pairsAheadOf_61 : decode cX5_pairsAheadOf 61 = .ok (.goto (-56), 3) := by decide +kernel
theorem dX5_pairsAheadOf_64 : decode cX5_pairsAheadOf 64 = .ok (.iload_n 3, 1) := by decide +kernel
theorem dX5_pairsAheadOf_65 : decode cX5_pairsAheadOf 65 = .ok (.ireturn, 1) := by decide +kernel
theorem dX5_unlikeLetters_0 : decode cX5_unlikeLetters 0 = .ok (.iconst 0, 1) := by decide +kernel
theorem dX5_unlikeLetters_1 : decode cX5_unlikeLetters 1 = .ok (.istore_n 1, 1) := by decide +kernel
theorem dX5_unlikeLetters_2 : decode cX5_unlikeLetters 2 = .ok (.iconst 0, 1) := by decide +kernel
theorem dX5_unlikeLetters_3 : decode cX5_unlikeLetters 3 = .ok (.istore_n 2, 1) := by decide +kernel
theorem dX5_unlikeLetters_4 : decode cX5_unlikeLetters 4 = .ok (.iload_n 2, 1) := by decide +kernel
theorem dX5_unlikeLetters_5 : decode cX5_unlikeLetters 5 = .ok (.iconst 4, 1) := by decide +kernel
theorem dX5_unlikeLetters_6 : decode cX5_unlikeLetters 6 = .ok (.if_icmp .ge 26, 3) := by decide +kernel
theorem dX5_unlikeLetters_9 : decode cX5_unlikeLetters 9 = .ok (.aload_n 0, 1) := by decide +kernel
theorem dX5_unlikeLetters_10 : decode cX5_unlikeLetters 10 = .ok (.getfield 10, 3) := by decide +kernel
theorem dX5_unlikeLetters_13 : decode cX5_unlikeLetters 13 = .ok (.getfield 57, 3) := by decide +kernel
theorem dX5_unlikeLetters_16 : decode cX5_unlikeLetters 16 = .ok (.iload_n 2, 1) := by decide +kernel
theorem dX5_unlikeLetters_17 : decode cX5_unlikeLetters 17 = .ok (.invokestatic 98, 3) := by decide +kernel
theorem dX5_unlikeLetters_20 : decode cX5_unlikeLetters 20 = .ok (.ifCond .le 6, 3) := by decide +kernel
theorem dX5_unlikeLetters_23 : decode cX5_unlikeLetters 23 = .ok (.iinc 1 1, 3) := by decide +kernel
theorem dX5_unlikeLetters_26 : decode cX5_unlikeLetters 26 = .ok (.iinc 2 1, 3) := by decide +kernel
theorem dX5_unlikeLetters_29 : decode cX5_unlikeLetters 29 = .ok (.goto (-25), 3) := by decide +kernel
theorem dX5_unlikeLetters_32 : decode cX5_unlikeLetters 32 = .ok (.iload_n 1, 1) := by decide +kernel
theorem dX5_unlikeLetters_33 : decode cX5_unlikeLetters 33 = .ok (.ireturn, 1) := by decide +kernel
theorem dX5_unlikePairs_0 : decode cX5_unlikePairs 0 = .ok (.iconst 0, 1) := by decide +kernel
theorem dX5_unlikePairs_1 : decode cX5_unlikePairs 1 = .ok (.istore_n 1, 1) := by decide +kernel
theorem dX5_unlikePairs_2 : decode cX5_unlikePairs 2 = .ok (.iconst 0, 1) := by decide +kernel
theorem dX5_unlikePairs_3 : decode cX5_unlikePairs 3 = .ok (.istore_n 2, 1) := by decide +kernel
theorem dX5_unlikePairs_4 : decode cX5_unlikePairs 4 = .ok (.iload_n 2, 1) := by decide +kernel
theorem dX5_unlikePairs_5 : decode cX5_unlikePairs 5 = .ok (.bipush 16, 2) := by decide +kernel
theorem dX5_unlikePairs_7 : decode cX5_unlikePairs 7 = .ok (.if_icmp .ge 31, 3) := by decide +kernel
theorem dX5_unlikePairs_10 : decode cX5_unlikePairs 10 = .ok (.aload_n 0, 1) := by decide +kernel
theorem dX5_unlikePairs_11 : decode cX5_unlikePairs 11 = .ok (.getfield 10, 3) := by decide +kernel
theorem dX5_unlikePairs_14 : decode cX5_unlikePairs 14 = .ok (.getfield 57, 3) := by decide +kernel
theorem dX5_unlikePairs_17 : decode cX5_unlikePairs 17 = .ok (.iload_n 2, 1) := by decide +kernel
theorem dX5_unlikePairs_18 : decode cX5_unlikePairs 18 = .ok (.iconst 4, 1) := by decide +kernel
theorem dX5_unlikePairs_19 : decode cX5_unlikePairs 19 = .ok (.idiv, 1) := by decide +kernel
theorem dX5_unlikePairs_20 : decode cX5_unlikePairs 20 = .ok (.iload_n 2, 1) := by decide +kernel
theorem dX5_unlikePairs_21 : decode cX5_unlikePairs 21 = .ok (.iconst 4, 1) := by decide +kernel
theorem dX5_unlikePairs_22 : decode cX5_unlikePairs 22 = .ok (.irem, 1) := by decide +kernel
theorem dX5_unlikePairs_23 : decode cX5_unlikePairs 23 = .ok (.invokestatic 92, 3) := by decide +kernel
theorem dX5_unlikePairs_26 : decode cX5_unlikePairs 26 = .ok (.ifCond .le 6, 3) := by decide +kernel
theorem dX5_unlikePairs_29 : decode cX5_unlikePairs 29 = .ok (.iinc 1 1, 3) := by decide +kernel
theorem dX5_unlikePairs_32 : decode cX5_unlikePairs 32 = .ok (.iinc 2 1, 3) := by decide +kernel
theorem dX5_unlikePairs_35 : decode cX5_unlikePairs 35 = .ok (.goto (-31), 3) := by decide +kernel
theorem dX5_unlikePairs_38 : decode cX5_unlikePairs 38 = .ok (.iload_n 1, 1) := by decide +kernel
theorem dX5_unlikePairs_39 : decode cX5_unlikePairs 39 = .ok (.ireturn, 1) := by decide +kernel
theorem dX5_isShuffle_0 : decode cX5_isShuffle 0 = .ok (.aload_n 0, 1) := by decide +kernel
theorem dX5_isShuffle_1 : decode cX5_isShuffle 1 = .ok (.getfield 10, 3) := by decide +kernel
theorem dX5_isShuffle_4 : decode cX5_isShuffle 4 = .ok (.getfield 57, 3) := by decide +kernel
theorem dX5_isShuffle_7 : decode cX5_isShuffle 7 = .ok (.iload_n 2, 1) := by decide +kernel
theorem dX5_isShuffle_8 : decode cX5_isShuffle 8 = .ok (.invokestatic 211, 3) := by decide +kernel
theorem dX5_isShuffle_11 : decode cX5_isShuffle 11 = .ok (.ifCond .ne 5, 3) := by decide +kernel
theorem dX5_isShuffle_14 : decode cX5_isShuffle 14 = .ok (.iconst 0, 1) := by decide +kernel
theorem dX5_isShuffle_15 : decode cX5_isShuffle 15 = .ok (.ireturn, 1) := by decide +kernel
theorem dX5_isShuffle_16 : decode cX5_isShuffle 16 = .ok (.iload_n 1, 1) := by decide +kernel
theorem dX5_isShuffle_17 : decode cX5_isShuffle 17 = .ok (.invokestatic 214, 3) := by decide +kernel
theorem dX5_isShuffle_20 : decode cX5_isShuffle 20 = .ok (.ifCond .eq 19, 3) := by decide +kernel
theorem dX5_isShuffle_23 : decode cX5_isShuffle 23 = .ok (.aload_n 0, 1) := by decide +kernel
theorem dX5_isShuffle_24 : decode cX5_isShuffle 24 = .ok (.getfield 10, 3) := by decide +kernel
theorem dX5_isShuffle_27 : decode cX5_isShuffle 27 = .ok (.getfield 57, 3) := by decide +kernel
theorem dX5_isShuffle_30 : decode cX5_isShuffle 30 = .ok (.iload_n 2, 1) := by decide +kernel
theorem dX5_isShuffle_31 : decode cX5_isShuffle 31 = .ok (.invokestatic 218, 3) := by decide +kernel
theorem dX5_isShuffle_34 : decode cX5_isShuffle 34 = .ok (.ifCond .ne 5, 3) := by decide +kernel
theorem dX5_isShuffle_37 : decode cX5_isShuffle 37 = .ok (.iconst 0, 1) := by decide +kernel
theorem dX5_isShuffle_38 : decode cX5_isShuffle 38 = .ok (.ireturn, 1) := by decide +kernel
theorem dX5_isShuffle_39 : decode cX5_isShuffle 39 = .ok (.iload_n 1, 1) := by decide +kernel
theorem dX5_isShuffle_40 : decode cX5_isShuffle 40 = .ok (.iconst 2, 1) := by decide +kernel
theorem dX5_isShuffle_41 : decode cX5_isShuffle 41 = .ok (.if_icmp .ne 24, 3) := by decide +kernel
theorem dX5_isShuffle_44 : decode cX5_isShuffle 44 = .ok (.aload_n 0, 1) := by decide +kernel
theorem dX5_isShuffle_45 : decode cX5_isShuffle 45 = .ok (.getfield 10, 3) := by decide +kernel
theorem dX5_isShuffle_48 : decode cX5_isShuffle 48 = .ok (.getfield 57, 3) := by decide +kernel
theorem dX5_isShuffle_51 : decode cX5_isShuffle 51 = .ok (.iconst 0, 1) := by decide +kernel
theorem dX5_isShuffle_52 : decode cX5_isShuffle 52 = .ok (.invokestatic 88, 3) := by decide +kernel
theorem dX5_isShuffle_55 : decode cX5_isShuffle 55 = .ok (.iload_n 2, 1) := by decide +kernel
theorem dX5_isShuffle_56 : decode cX5_isShuffle 56 = .ok (.iconst 0, 1) := by decide +kernel
theorem dX5_isShuffle_57 : decode cX5_isShuffle 57 = .ok (.invokestatic 88, 3) := by decide +kernel
theorem dX5_isShuffle_60 : decode cX5_isShuffle 60 = .ok (.if_icmp .eq 5, 3) := by decide +kernel
theorem dX5_isShuffle_63 : decode cX5_isShuffle 63 = .ok (.iconst 0, 1) := by decide +kernel
theorem dX5_isShuffle_64 : decode cX5_isShuffle 64 = .ok (.ireturn, 1) := by decide +kernel
theorem dX5_isShuffle_65 : decode cX5_isShuffle 65 = .ok (.iload_n 1, 1) := by decide +kernel
theorem dX5_isShuffle_66 : decode cX5_isShuffle 66 = .ok (.invokestatic 221, 3) := by decide +kernel
theorem dX5_isShuffle_69 : decode cX5_isShuffle 69 = .ok (.ifCond .eq 24, 3) := by decide +kernel
theorem dX5_isShuffle_72 : decode cX5_isShuffle 72 = .ok (.aload_n 0, 1) := by decide +kernel
theorem dX5_isShuffle_73 : decode cX5_isShuffle 73 = .ok (.getfield 10, 3) := by decide +kernel
theorem dX5_isShuffle_76 : decode cX5_isShuffle 76 = .ok (.getfield 73, 3) := by decide +kernel
theorem dX5_isShuffle_79 : decode cX5_isShuffle 79 = .ok (.aload_n 0, 1) := by decide +kernel
theorem dX5_isShuffle_80 : decode cX5_isShuffle 80 = .ok (.getfield 10, 3) := by decide +kernel
theorem dX5_isShuffle_83 : decode cX5_isShuffle 83 = .ok (.getfield 57, 3) := by decide +kernel
theorem dX5_isShuffle_86 : decode cX5_isShuffle 86 = .ok (.iload_n 2, 1) := by decide +kernel
theorem dX5_isShuffle_87 : decode cX5_isShuffle 87 = .ok (.invokestatic 224, 3) := by decide +kernel
theorem dX5_isShuffle_90 : decode cX5_isShuffle 90 = .ok (.ifCond .eq 7, 3) := by decide +kernel
theorem dX5_isShuffle_93 : decode cX5_isShuffle 93 = .ok (.iconst 1, 1) := by decide +kernel
theorem dX5_isShuffle_94 : decode cX5_isShuffle 94 = .ok (.goto 4, 3) := by decide +kernel
theorem dX5_isShuffle_97 : decode cX5_isShuffle 97 = .ok (.iconst 0, 1) := by decide +kernel
theorem dX5_isShuffle_98 : decode cX5_isShuffle 98 = .ok (.ireturn, 1) := by decide +kernel
theorem dX5_keepsPairs_0 : decode cX5_keepsPairs 0 = .ok (.iload_n 0, 1) := by decide +kernel
theorem dX5_keepsPairs_1 : decode cX5_keepsPairs 1 = .ok (.iconst 1, 1) := by decide +kernel
theorem dX5_keepsPairs_2 : decode cX5_keepsPairs 2 = .ok (.if_icmp .eq 8, 3) := by decide +kernel
theorem dX5_keepsPairs_5 : decode cX5_keepsPairs 5 = .ok (.iload_n 0, 1) := by decide +kernel
theorem dX5_keepsPairs_6 : decode cX5_keepsPairs 6 = .ok (.iconst 2, 1) := by decide +kernel
theorem dX5_keepsPairs_7 : decode cX5_keepsPairs 7 = .ok (.if_icmp .ne 7, 3) := by decide +kernel
theorem dX5_keepsPairs_10 : decode cX5_keepsPairs 10 = .ok (.iconst 1, 1) := by decide +kernel
theorem dX5_keepsPairs_11 : decode cX5_keepsPairs 11 = .ok (.goto 4, 3) := by decide +kernel
theorem dX5_keepsPairs_14 : decode cX5_keepsPairs 14 = .ok (.iconst 0, 1) := by decide +kernel
theorem dX5_keepsPairs_15 : decode cX5_keepsPairs 15 = .ok (.ireturn, 1) := by decide +kernel
theorem dX5_keepsCodes_0 : decode cX5_keepsCodes 0 = .ok (.iload_n 0, 1) := by decide +kernel
theorem dX5_keepsCodes_1 : decode cX5_keepsCodes 1 = .ok (.iconst 3, 1) := by decide +kernel
theorem dX5_keepsCodes_2 : decode cX5_keepsCodes 2 = .ok (.if_icmp .ne 7, 3) := by decide +kernel
theorem dX5_keepsCodes_5 : decode cX5_keepsCodes 5 = .ok (.iconst 1, 1) := by decide +kernel
theorem dX5_keepsCodes_6 : decode cX5_keepsCodes 6 = .ok (.goto 4, 3) := by decide +kernel
theorem dX5_keepsCodes_9 : decode cX5_keepsCodes 9 = .ok (.iconst 0, 1) := by decide +kernel
theorem dX5_keepsCodes_10 : decode cX5_keepsCodes 10 = .ok (.ireturn, 1) := by decide +kernel
theorem dX5_commonDivisor_0 : decode cX5_commonDivisor 0 = .ok (.iload_n 0, 1) := by decide +kernel
theorem dX5_commonDivisor_1 : decode cX5_commonDivisor 1 = .ok (.istore_n 2, 1) := by decide +kernel
theorem dX5_commonDivisor_2 : decode cX5_commonDivisor 2 = .ok (.iload_n 1, 1) := by decide +kernel
theorem dX5_commonDivisor_3 : decode cX5_commonDivisor 3 = .ok (.istore_n 3, 1) := by decide +kernel
theorem dX5_commonDivisor_4 : decode cX5_commonDivisor 4 = .ok (.iconst 0, 1) := by decide +kernel
theorem dX5_commonDivisor_5 : decode cX5_commonDivisor 5 = .ok (.istore 4, 2) := by decide +kernel
theorem dX5_commonDivisor_7 : decode cX5_commonDivisor 7 = .ok (.iload 4, 2) := by decide +kernel
theorem dX5_commonDivisor_9 : decode cX5_commonDivisor 9 = .ok (.bipush 64, 2) := by decide +kernel
theorem dX5_commonDivisor_11 : decode cX5_commonDivisor 11 = .ok (.if_icmp .ge 23, 3) := by decide +kernel
theorem dX5_commonDivisor_14 : decode cX5_commonDivisor 14 = .ok (.iload_n 3, 1) := by decide +kernel
theorem dX5_commonDivisor_15 : decode cX5_commonDivisor 15 = .ok (.ifCond .eq 19, 3) := by decide +kernel
theorem dX5_commonDivisor_18 : decode cX5_commonDivisor 18 = .ok (.iload_n 2, 1) := by decide +kernel
theorem dX5_commonDivisor_19 : decode cX5_commonDivisor 19 = .ok (.iload_n 3, 1) := by decide +kernel
theorem dX5_commonDivisor_20 : decode cX5_commonDivisor 20 = .ok (.irem, 1) := by decide +kernel
theorem dX5_commonDivisor_21 : decode cX5_commonDivisor 21 = .ok (.istore 5, 2) := by decide +kernel
theorem dX5_commonDivisor_23 : decode cX5_commonDivisor 23 = .ok (.iload_n 3, 1) := by decide +kernel
theorem dX5_commonDivisor_24 : decode cX5_commonDivisor 24 = .ok (.istore_n 2, 1) := by decide +kernel
theorem dX5_commonDivisor_25 : decode cX5_commonDivisor 25 = .ok (.iload 5, 2) := by decide +kernel
theorem dX5_commonDivisor_27 : decode cX5_commonDivisor 27 = .ok (.istore_n 3, 1) := by decide +kernel
theorem dX5_commonDivisor_28 : decode cX5_commonDivisor 28 = .ok (.iinc 4 1, 3) := by decide +kernel
theorem dX5_commonDivisor_31 : decode cX5_commonDivisor 31 = .ok (.goto (-24), 3) := by decide +kernel
theorem dX5_commonDivisor_34 : decode cX5_commonDivisor 34 = .ok (.iload_n 2, 1) := by decide +kernel
theorem dX5_commonDivisor_35 : decode cX5_commonDivisor 35 = .ok (.ireturn, 1) := by decide +kernel
theorem dX5_lengthOf_0 : decode cX5_lengthOf 0 = .ok (.iload_n 0, 1) := by decide +kernel
theorem dX5_lengthOf_1 : decode cX5_lengthOf 1 = .ok (.bipush 20, 2) := by decide +kernel
theorem dX5_lengthOf_3 : decode cX5_lengthOf 3 = .ok (.iushr, 1) := by decide +kernel
theorem dX5_lengthOf_4 : decode cX5_lengthOf 4 = .ok (.ireturn, 1) := by decide +kernel
theorem dX5_letterOf_0 : decode cX5_letterOf 0 = .ok (.iload_n 0, 1) := by decide +kernel
theorem dX5_letterOf_1 : decode cX5_letterOf 1 = .ok (.iconst 2, 1) := by decide +kernel
theorem dX5_letterOf_2 : decode cX5_letterOf 2 = .ok (.iload_n 1, 1) := by decide +kernel
theorem dX5_letterOf_3 : decode cX5_letterOf 3 = .ok (.imul, 1) := by decide +kernel
theorem dX5_letterOf_4 : decode cX5_letterOf 4 = .ok (.iushr, 1) := by decide +kernel
theorem dX5_letterOf_5 : decode cX5_letterOf 5 = .ok (.iconst 3, 1) := by decide +kernel
theorem dX5_letterOf_6 : decode cX5_letterOf 6 = .ok (.iand, 1) := by decide +kernel
theorem dX5_letterOf_7 : decode cX5_letterOf 7 = .ok (.ireturn, 1) := by decide +kernel
theorem dX5_longer_0 : decode cX5_longer 0 = .ok (.iload_n 0, 1) := by decide +kernel
theorem dX5_longer_1 : decode cX5_longer 1 = .ok (.invokestatic 61, 3) := by decide +kernel
theorem dX5_longer_4 : decode cX5_longer 4 = .ok (.istore_n 2, 1) := by decide +kernel
theorem dX5_longer_5 : decode cX5_longer 5 = .ok (.iload_n 2, 1) := by decide +kernel
theorem dX5_longer_6 : decode cX5_longer 6 = .ok (.bipush 10, 2) := by decide +kernel
theorem dX5_longer_8 : decode cX5_longer 8 = .ok (.if_icmp .lt 5, 3) := by decide +kernel
theorem dX5_longer_11 : decode cX5_longer 11 = .ok (.iload_n 0, 1) := by decide +kernel
theorem dX5_longer_12 : decode cX5_longer 12 = .ok (.ireturn, 1) := by decide +kernel
theorem dX5_longer_13 : decode cX5_longer 13 = .ok (.iload_n 0, 1) := by decide +kernel
theorem dX5_longer_14 : decode cX5_longer 14 = .ok (.ldc 228, 2) := by decide +kernel
theorem dX5_longer_16 : decode cX5_longer 16 = .ok (.iadd, 1) := by decide +kernel
theorem dX5_longer_17 : decode cX5_longer 17 = .ok (.iload_n 1, 1) := by decide +kernel
theorem dX5_longer_18 : decode cX5_longer 18 = .ok (.iconst 3, 1) := by decide +kernel
theorem dX5_longer_19 : decode cX5_longer 19 = .ok (.iand, 1) := by decide +kernel
theorem dX5_longer_20 : decode cX5_longer 20 = .ok (.iconst 2, 1) := by decide +kernel
theorem dX5_longer_21 : decode cX5_longer 21 = .ok (.iload_n 2, 1) := by decide +kernel
theorem dX5_longer_22 : decode cX5_longer 22 = .ok (.imul, 1) := by decide +kernel
theorem dX5_longer_23 : decode cX5_longer 23 = .ok (.ishl, 1) := by decide +kernel
theorem dX5_longer_24 : decode cX5_longer 24 = .ok (.ior, 1) := by decide +kernel
theorem dX5_longer_25 : decode cX5_longer 25 = .ok (.ireturn, 1) := by decide +kernel
theorem dX5_turned_0 : decode cX5_turned 0 = .ok (.iconst 0, 1) := by decide +kernel
theorem dX5_turned_1 : decode cX5_turned 1 = .ok (.istore_n 1, 1) := by decide +kernel
theorem dX5_turned_2 : decode cX5_turned 2 = .ok (.iload_n 0, 1) := by decide +kernel
theorem dX5_turned_3 : decode cX5_turned 3 = .ok (.invokestatic 61, 3) := by decide +kernel
theorem dX5_turned_6 : decode cX5_turned 6 = .ok (.iconst 1, 1) := by decide +kernel
theorem dX5_turned_7 : decode cX5_turned 7 = .ok (.isub, 1) := by decide +kernel
theorem dX5_turned_8 : decode cX5_turned 8 = .ok (.istore_n 2, 1) := by decide +kernel
theorem dX5_turned_9 : decode cX5_turned 9 = .ok (.iload_n 2, 1) := by decide +kernel
theorem dX5_turned_10 : decode cX5_turned 10 = .ok (.ifCond .lt 19, 3) := by decide +kernel
theorem dX5_turned_13 : decode cX5_turned 13 = .ok (.iload_n 1, 1) := by decide +kernel
theorem dX5_turned_14 : decode cX5_turned 14 = .ok (.iload_n 0, 1) := by decide +kernel
theorem dX5_turned_15 : decode cX5_turned 15 = .ok (.iload_n 2, 1) := by decide +kernel
theorem dX5_turned_16 : decode cX5_turned 16 = .ok (.invokestatic 88, 3) := by decide +kernel
theorem dX5_turned_19 : decode cX5_turned 19 = .ok (.invokestatic 69, 3) := by decide +kernel
theorem dX5_turned_22 : decode cX5_turned 22 = .ok (.istore_n 1, 1) := by decide +kernel
theorem dX5_turned_23 : decode cX5_turned 23 = .ok (.iinc 2 (-1), 3) := by decide +kernel
theorem dX5_turned_26 : decode cX5_turned 26 = .ok (.goto (-17), 3) := by decide +kernel
theorem dX5_turned_29 : decode cX5_turned 29 = .ok (.iload_n 1, 1) := by decide +kernel
theorem dX5_turned_30 : decode cX5_turned 30 = .ok (.ireturn, 1) := by decide +kernel
theorem dX5_lettersIn_0 : decode cX5_lettersIn 0 = .ok (.iconst 0, 1) := by decide +kernel
theorem dX5_lettersIn_1 : decode cX5_lettersIn 1 = .ok (.istore_n 2, 1) := by decide +kernel
theorem dX5_lettersIn_2 : decode cX5_lettersIn 2 = .ok (.iconst 0, 1) := by decide +kernel
theorem dX5_lettersIn_3 : decode cX5_lettersIn 3 = .ok (.istore_n 3, 1) := by decide +kernel
theorem dX5_lettersIn_4 : decode cX5_lettersIn 4 = .ok (.iload_n 3, 1) := by decide +kernel
theorem dX5_lettersIn_5 : decode cX5_lettersIn 5 = .ok (.iload_n 0, 1) := by decide +kernel
theorem dX5_lettersIn_6 : decode cX5_lettersIn 6 = .ok (.invokestatic 61, 3) := by decide +kernel
theorem dX5_lettersIn_9 : decode cX5_lettersIn 9 = .ok (.if_icmp .ge 21, 3) := by decide +kernel
theorem dX5_lettersIn_12 : decode cX5_lettersIn 12 = .ok (.iload_n 0, 1) := by decide +kernel
theorem dX5_lettersIn_13 : decode cX5_lettersIn 13 = .ok (.iload_n 3, 1) := by decide +kernel
theorem dX5_lettersIn_14 : decode cX5_lettersIn 14 = .ok (.invokestatic 88, 3) := by decide +kernel
theorem dX5_lettersIn_17 : decode cX5_lettersIn 17 = .ok (.iload_n 1, 1) := by decide +kernel
theorem dX5_lettersIn_18 : decode cX5_lettersIn 18 = .ok (.if_icmp .ne 6, 3) := by decide +kernel
theorem dX5_lettersIn_21 : decode cX5_lettersIn 21 = .ok (.iinc 2 1, 3) := by decide +kernel
theorem dX5_lettersIn_24 : decode cX5_lettersIn 24 = .ok (.iinc 3 1, 3) := by decide +kernel
theorem dX5_lettersIn_27 : decode cX5_lettersIn 27 = .ok (.goto (-23), 3) := by decide +kernel
theorem dX5_lettersIn_30 : decode cX5_lettersIn 30 = .ok (.iload_n 2, 1) := by decide +kernel
theorem dX5_lettersIn_31 : decode cX5_lettersIn 31 = .ok (.ireturn, 1) := by decide +kernel
theorem dX5_pairsIn_0 : decode cX5_pairsIn 0 = .ok (.iconst 0, 1) := by decide +kernel
theorem dX5_pairsIn_1 : decode cX5_pairsIn 1 = .ok (.istore_n 3, 1) := by decide +kernel
theorem dX5_pairsIn_2 : decode cX5_pairsIn 2 = .ok (.iconst 1, 1) := by decide +kernel
theorem dX5_pairsIn_3 : decode cX5_pairsIn 3 = .ok (.istore 4, 2) := by decide +kernel
theorem dX5_pairsIn_5 : decode cX5_pairsIn 5 = .ok (.iload 4, 2) := by decide +kernel
theorem dX5_pairsIn_7 : decode cX5_pairsIn 7 = .ok (.iload_n 0, 1) := by decide +kernel
theorem dX5_pairsIn_8 : decode cX5_pairsIn 8 = .ok (.invokestatic 61, 3) := by decide +kernel
theorem dX5_pairsIn_11 : decode cX5_pairsIn 11 = .ok (.if_icmp .ge 34, 3) := by decide +kernel
theorem dX5_pairsIn_14 : decode cX5_pairsIn 14 = .ok (.iload_n 0, 1) := by decide +kernel
theorem dX5_pairsIn_15 : decode cX5_pairsIn 15 = .ok (.iload 4, 2) := by decide +kernel
theorem dX5_pairsIn_17 : decode cX5_pairsIn 17 = .ok (.iconst 1, 1) := by decide +kernel
theorem dX5_pairsIn_18 : decode cX5_pairsIn 18 = .ok (.isub, 1) := by decide +kernel
theorem dX5_pairsIn_19 : decode cX5_pairsIn 19 = .ok (.invokestatic 88, 3) := by decide +kernel
theorem dX5_pairsIn_22 : decode cX5_pairsIn 22 = .ok (.iload_n 1, 1) := by decide +kernel
theorem dX5_pairsIn_23 : decode cX5_pairsIn 23 = .ok (.if_icmp .ne 16, 3) := by decide +kernel
theorem dX5_pairsIn_26 : decode cX5_pairsIn 26 = .ok (.iload_n 0, 1) := by decide +kernel
theorem dX5_pairsIn_27 : decode cX5_pairsIn 27 = .ok (.iload 4, 2) := by decide +kernel
theorem dX5_pairsIn_29 : decode cX5_pairsIn 29 = .ok (.invokestatic 88, 3) := by decide +kernel
theorem dX5_pairsIn_32 : decode cX5_pairsIn 32 = .ok (.iload_n 2, 1) := by decide +kernel
theorem dX5_pairsIn_33 : decode cX5_pairsIn 33 = .ok (.if_icmp .ne 6, 3) := by decide +kernel
theorem dX5_pairsIn_36 : decode cX5_pairsIn 36 = .ok (.iinc 3 1, 3) := by decide +kernel
theorem dX5_pairsIn_39 : decode cX5_pairsIn 39 = .ok (.iinc 4 1, 3) := by decide +kernel
theorem dX5_pairsIn_42 : decode cX5_pairsIn 42 = .ok (.goto (-37), 3) := by decide +kernel
theorem dX5_pairsIn_45 : decode cX5_pairsIn 45 = .ok (.iload_n 3, 1) := by decide +kernel
theorem dX5_pairsIn_46 : decode cX5_pairsIn 46 = .ok (.ireturn, 1) := by decide +kernel
theorem dX5_unlikePlaces_0 : decode cX5_unlikePlaces 0 = .ok (.iconst 0, 1) := by decide +kernel
theorem dX5_unlikePlaces_1 : decode cX5_unlikePlaces 1 = .ok (.istore_n 2, 1) := by decide +kernel
theorem dX5_unlikePlaces_2 : decode cX5_unlikePlaces 2 = .ok (.iconst 0, 1) := by decide +kernel
theorem dX5_unlikePlaces_3 : decode cX5_unlikePlaces 3 = .ok (.istore_n 3, 1) := by decide +kernel
theorem dX5_unlikePlaces_4 : decode cX5_unlikePlaces 4 = .ok (.iload_n 3, 1) := by decide +kernel
theorem dX5_unlikePlaces_5 : decode cX5_unlikePlaces 5 = .ok (.iload_n 0, 1) := by decide +kernel
theorem dX5_unlikePlaces_6 : decode cX5_unlikePlaces 6 = .ok (.invokestatic 61, 3) := by decide +kernel
theorem dX5_unlikePlaces_9 : decode cX5_unlikePlaces 9 = .ok (.if_icmp .ge 25, 3) := by decide +kernel
theorem dX5_unlikePlaces_12 : decode cX5_unlikePlaces 12 = .ok (.iload_n 0, 1) := by decide +kernel
theorem dX5_unlikePlaces_13 : decode cX5_unlikePlaces 13 = .ok (.iload_n 3, 1) := by decide +kernel
theorem dX5_unlikePlaces_14 : decode cX5_unlikePlaces 14 = .ok (.invokestatic 88, 3) := by decide +kernel
theorem dX5_unlikePlaces_17 : decode cX5_unlikePlaces 17 = .ok (.iload_n 1, 1) := by decide +kernel
theorem dX5_unlikePlaces_18 : decode cX5_unlikePlaces 18 = .ok (.iload_n 3, 1) := by decide +kernel
theorem dX5_unlikePlaces_19 : decode cX5_unlikePlaces 19 = .ok (.invokestatic 88, 3) := by decide +kernel
theorem dX5_unlikePlaces_22 : decode cX5_unlikePlaces 22 = .ok (.if_icmp .eq 6, 3) := by decide +kernel
theorem dX5_unlikePlaces_25 : decode cX5_unlikePlaces 25 = .ok (.iinc 2 1, 3) := by decide +kernel
theorem dX5_unlikePlaces_28 : decode cX5_unlikePlaces 28 = .ok (.iinc 3 1, 3) := by decide +kernel
theorem dX5_unlikePlaces_31 : decode cX5_unlikePlaces 31 = .ok (.goto (-27), 3) := by decide +kernel
theorem dX5_unlikePlaces_34 : decode cX5_unlikePlaces 34 = .ok (.iload_n 2, 1) := by decide +kernel
theorem dX5_unlikePlaces_35 : decode cX5_unlikePlaces 35 = .ok (.ireturn, 1) := by decide +kernel
theorem dX5_sameLetters_0 : decode cX5_sameLetters 0 = .ok (.iconst 0, 1) := by decide +kernel
theorem dX5_sameLetters_1 : decode cX5_sameLetters 1 = .ok (.istore_n 2, 1) := by decide +kernel
theorem dX5_sameLetters_2 : decode cX5_sameLetters 2 = .ok (.iload_n 2, 1) := by decide +kernel
theorem dX5_sameLetters_3 : decode cX5_sameLetters 3 = .ok (.iconst 4, 1) := by decide +kernel
theorem dX5_sameLetters_4 : decode cX5_sameLetters 4 = .ok (.if_icmp .ge 24, 3) := by decide +kernel
theorem dX5_sameLetters_7 : decode cX5_sameLetters 7 = .ok (.iload_n 0, 1) := by decide +kernel
theorem dX5_sameLetters_8 : decode cX5_sameLetters 8 = .ok (.iload_n 2, 1) := by decide +kernel
theorem dX5_sameLetters_9 : decode cX5_sameLetters 9 = .ok (.invokestatic 98, 3) := by decide +kernel
theorem dX5_sameLetters_12 : decode cX5_sameLetters 12 = .ok (.iload_n 1, 1) := by decide +kernel
theorem dX5_sameLetters_13 : decode cX5_sameLetters 13 = .ok (.iload_n 2, 1) := by decide +kernel
theorem dX5_sameLetters_14 : decode cX5_sameLetters 14 = .ok (.invokestatic 98, 3) := by decide +kernel
theorem dX5_sameLetters_17 : decode cX5_sameLetters 17 = .ok (.if_icmp .eq 5, 3) := by decide +kernel
theorem dX5_sameLetters_20 : decode cX5_sameLetters 20 = .ok (.iconst 0, 1) := by decide +kernel
theorem dX5_sameLetters_21 : decode cX5_sameLetters 21 = .ok (.ireturn, 1) := by decide +kernel
theorem dX5_sameLetters_22 : decode cX5_sameLetters 22 = .ok (.iinc 2 1, 3) := by decide +kernel
theorem dX5_sameLetters_25 : decode cX5_sameLetters 25 = .ok (.goto (-23), 3) := by decide +kernel
theorem dX5_sameLetters_28 : decode cX5_sameLetters 28 = .ok (.iconst 1, 1) := by decide +kernel
theorem dX5_sameLetters_29 : decode cX5_sameLetters 29 = .ok (.ireturn, 1) := by decide +kernel
theorem dX5_samePairs_0 : decode cX5_samePairs 0 = .ok (.iconst 0, 1) := by decide +kernel
theorem dX5_samePairs_1 : decode cX5_samePairs 1 = .ok (.istore_n 2, 1) := by decide +kernel
theorem dX5_samePairs_2 : decode cX5_samePairs 2 = .ok (.iload_n 2, 1) := by decide +kernel
theorem dX5_samePairs_3 : decode cX5_samePairs 3 = .ok (.bipush 16, 2) := by decide +kernel
theorem dX5_samePairs_5 : decode cX5_samePairs 5 = .ok (.if_icmp .ge 37, 3) := by decide +kernel
theorem dX5_samePairs_8 : decode cX5_samePairs 8 = .ok (.iload_n 2, 1) := by decide +kernel
theorem dX5_samePairs_9 : decode cX5_samePairs 9 = .ok (.iconst 4, 1) := by decide +kernel
theorem dX5_samePairs_10 : decode cX5_samePairs 10 = .ok (.idiv, 1) := by decide +kernel
theorem dX5_samePairs_11 : decode cX5_samePairs 11 = .ok (.istore_n 3, 1) := by decide +kernel
theorem dX5_samePairs_12 : decode cX5_samePairs 12 = .ok (.iload_n 2, 1) := by decide +kernel
theorem dX5_samePairs_13 : decode cX5_samePairs 13 = .ok (.iconst 4, 1) := by decide +kernel
theorem dX5_samePairs_14 : decode cX5_samePairs 14 = .ok (.irem, 1) := by decide +kernel
theorem dX5_samePairs_15 : decode cX5_samePairs 15 = .ok (.istore 4, 2) := by decide +kernel
theorem dX5_samePairs_17 : decode cX5_samePairs 17 = .ok (.iload_n 0, 1) := by decide +kernel
theorem dX5_samePairs_18 : decode cX5_samePairs 18 = .ok (.iload_n 3, 1) := by decide +kernel
theorem dX5_samePairs_19 : decode cX5_samePairs 19 = .ok (.iload 4, 2) := by decide +kernel
theorem dX5_samePairs_21 : decode cX5_samePairs 21 = .ok (.invokestatic 92, 3) := by decide +kernel
theorem dX5_samePairs_24 : decode cX5_samePairs 24 = .ok (.iload_n 1, 1) := by decide +kernel
theorem dX5_samePairs_25 : decode cX5_samePairs 25 = .ok (.iload_n 3, 1) := by decide +kernel
theorem dX5_samePairs_26 : decode cX5_samePairs 26 = .ok (.iload 4, 2) := by decide +kernel
theorem dX5_samePairs_28 : decode cX5_samePairs 28 = .ok (.invokestatic 92, 3) := by decide +kernel
theorem dX5_samePairs_31 : decode cX5_samePairs 31 = .ok (.if_icmp .eq 5, 3) := by decide +kernel
theorem dX5_samePairs_34 : decode cX5_samePairs 34 = .ok (.iconst 0, 1) := by decide +kernel
theorem dX5_samePairs_35 : decode cX5_samePairs 35 = .ok (.ireturn, 1) := by decide +kernel
theorem dX5_samePairs_36 : decode cX5_samePairs 36 = .ok (.iinc 2 1, 3) := by decide +kernel
theorem dX5_samePairs_39 : decode cX5_samePairs 39 = .ok (.goto (-37), 3) := by decide +kernel
theorem dX5_samePairs_42 : decode cX5_samePairs 42 = .ok (.iconst 1, 1) := by decide +kernel
theorem dX5_samePairs_43 : decode cX5_samePairs 43 = .ok (.ireturn, 1) := by decide +kernel
theorem dX5_sameCodes_0 : decode cX5_sameCodes 0 = .ok (.iconst 1, 1) := by decide +kernel
theorem dX5_sameCodes_1 : decode cX5_sameCodes 1 = .ok (.istore_n 3, 1) := by decide +kernel
theorem dX5_sameCodes_2 : decode cX5_sameCodes 2 = .ok (.iload_n 3, 1) := by decide +kernel
theorem dX5_sameCodes_3 : decode cX5_sameCodes 3 = .ok (.iload_n 1, 1) := by decide +kernel
theorem dX5_sameCodes_4 : decode cX5_sameCodes 4 = .ok (.invokestatic 61, 3) := by decide +kernel
theorem dX5_sameCodes_7 : decode cX5_sameCodes 7 = .ok (.if_icmp .ge 26, 3) := by decide +kernel
theorem dX5_sameCodes_10 : decode cX5_sameCodes 10 = .ok (.iload_n 0, 1) := by decide +kernel
theorem dX5_sameCodes_11 : decode cX5_sameCodes 11 = .ok (.iload_n 1, 1) := by decide +kernel
theorem dX5_sameCodes_12 : decode cX5_sameCodes 12 = .ok (.iload_n 3, 1) := by decide +kernel
theorem dX5_sameCodes_13 : decode cX5_sameCodes 13 = .ok (.invokestatic 229, 3) := by decide +kernel
theorem dX5_sameCodes_16 : decode cX5_sameCodes 16 = .ok (.iload_n 0, 1) := by decide +kernel
theorem dX5_sameCodes_17 : decode cX5_sameCodes 17 = .ok (.iload_n 2, 1) := by decide +kernel
theorem dX5_sameCodes_18 : decode cX5_sameCodes 18 = .ok (.iload_n 3, 1) := by decide +kernel
theorem dX5_sameCodes_19 : decode cX5_sameCodes 19 = .ok (.invokestatic 229, 3) := by decide +kernel
theorem dX5_sameCodes_22 : decode cX5_sameCodes 22 = .ok (.if_icmp .eq 5, 3) := by decide +kernel
theorem dX5_sameCodes_25 : decode cX5_sameCodes 25 = .ok (.iconst 0, 1) := by decide +kernel
theorem dX5_sameCodes_26 : decode cX5_sameCodes 26 = .ok (.ireturn, 1) := by decide +kernel
theorem dX5_sameCodes_27 : decode cX5_sameCodes 27 = .ok (.iinc 3 2, 3) := by decide +kernel
theorem dX5_sameCodes_30 : decode cX5_sameCodes 30 = .ok (.goto (-28), 3) := by decide +kernel
theorem dX5_sameCodes_33 : decode cX5_sameCodes 33 = .ok (.iconst 1, 1) := by decide +kernel
theorem dX5_sameCodes_34 : decode cX5_sameCodes 34 = .ok (.ireturn, 1) := by decide +kernel
theorem dX5_wordCode_0 : decode cX5_wordCode 0 = .ok (.iload_n 0, 1) := by decide +kernel
theorem dX5_wordCode_1 : decode cX5_wordCode 1 = .ok (.iload_n 1, 1) := by decide +kernel
theorem dX5_wordCode_2 : decode cX5_wordCode 2 = .ok (.iload_n 2, 1) := by decide +kernel
theorem dX5_wordCode_3 : decode cX5_wordCode 3 = .ok (.iconst 1, 1) := by decide +kernel
theorem dX5_wordCode_4 : decode cX5_wordCode 4 = .ok (.isub, 1) := by decide +kernel
theorem dX5_wordCode_5 : decode cX5_wordCode 5 = .ok (.invokestatic 88, 3) := by decide +kernel
theorem dX5_wordCode_8 : decode cX5_wordCode 8 = .ok (.iload_n 1, 1) := by decide +kernel
theorem dX5_wordCode_9 : decode cX5_wordCode 9 = .ok (.iload_n 2, 1) := by decide +kernel
theorem dX5_wordCode_10 : decode cX5_wordCode 10 = .ok (.invokestatic 88, 3) := by decide +kernel
theorem dX5_wordCode_13 : decode cX5_wordCode 13 = .ok (.invokestatic 76, 3) := by decide +kernel
theorem dX5_wordCode_16 : decode cX5_wordCode 16 = .ok (.ireturn, 1) := by decide +kernel
theorem dX5_codeIn_0 : decode cX5_codeIn 0 = .ok (.iload_n 0, 1) := by decide +kernel
theorem dX5_codeIn_1 : decode cX5_codeIn 1 = .ok (.iconst 2, 1) := by decide +kernel
theorem dX5_codeIn_2 : decode cX5_codeIn 2 = .ok (.iconst 4, 1) := by decide +kernel
theorem dX5_codeIn_3 : decode cX5_codeIn 3 = .ok (.iload_n 1, 1) := by decide +kernel
theorem dX5_codeIn_4 : decode cX5_codeIn 4 = .ok (.imul, 1) := by decide +kernel
theorem dX5_codeIn_5 : decode cX5_codeIn 5 = .ok (.iload_n 2, 1) := by decide +kernel
theorem dX5_codeIn_6 : decode cX5_codeIn 6 = .ok (.iadd, 1) := by decide +kernel
theorem dX5_codeIn_7 : decode cX5_codeIn 7 = .ok (.imul, 1) := by decide +kernel
theorem dX5_codeIn_8 : decode cX5_codeIn 8 = .ok (.iushr, 1) := by decide +kernel
theorem dX5_codeIn_9 : decode cX5_codeIn 9 = .ok (.iconst 3, 1) := by decide +kernel
theorem dX5_codeIn_10 : decode cX5_codeIn 10 = .ok (.iand, 1) := by decide +kernel
theorem dX5_codeIn_11 : decode cX5_codeIn 11 = .ok (.ireturn, 1) := by decide +kernel
theorem dX5_withCode_0 : decode cX5_withCode 0 = .ok (.iconst 2, 1) := by decide +kernel
theorem dX5_withCode_1 : decode cX5_withCode 1 = .ok (.iconst 4, 1) := by decide +kernel
theorem dX5_withCode_2 : decode cX5_withCode 2 = .ok (.iload_n 1, 1) := by decide +kernel
theorem dX5_withCode_3 : decode cX5_withCode 3 = .ok (.imul, 1) := by decide +kernel
theorem dX5_withCode_4 : decode cX5_withCode 4 = .ok (.iload_n 2, 1) := by decide +kernel
theorem dX5_withCode_5 : decode cX5_withCode 5 = .ok (.iadd, 1) := by decide +kernel
theorem dX5_withCode_6 : decode cX5_withCode 6 = .ok (.imul, 1) := by decide +kernel
theorem dX5_withCode_7 : decode cX5_withCode 7 = .ok (.istore 4, 2) := by decide +kernel
theorem dX5_withCode_9 : decode cX5_withCode 9 = .ok (.iload_n 0, 1) := by decide +kernel
theorem dX5_withCode_10 : decode cX5_withCode 10 = .ok (.iconst 3, 1) := by decide +kernel
theorem dX5_withCode_11 : decode cX5_withCode 11 = .ok (.iload 4, 2) := by decide +kernel
theorem dX5_withCode_13 : decode cX5_withCode 13 = .ok (.ishl, 1) := by decide +kernel
theorem dX5_withCode_14 : decode cX5_withCode 14 = .ok (.iconst (-1), 1) := by decide +kernel
theorem dX5_withCode_15 : decode cX5_withCode 15 = .ok (.ixor, 1) := by decide +kernel
theorem dX5_withCode_16 : decode cX5_withCode 16 = .ok (.iand, 1) := by decide +kernel
theorem dX5_withCode_17 : decode cX5_withCode 17 = .ok (.iload_n 3, 1) := by decide +kernel
theorem dX5_withCode_18 : decode cX5_withCode 18 = .ok (.iload 4, 2) := by decide +kernel
theorem dX5_withCode_20 : decode cX5_withCode 20 = .ok (.ishl, 1) := by decide +kernel
theorem dX5_withCode_21 : decode cX5_withCode 21 = .ok (.ior, 1) := by decide +kernel
theorem dX5_withCode_22 : decode cX5_withCode 22 = .ok (.ireturn, 1) := by decide +kernel
theorem dX6_init_0 : decode cX6_init 0 = .ok (.aload_n 0, 1) := by decide +kernel
theorem dX6_init_1 : decode cX6_init 1 = .ok (.invokespecial 1, 3) := by decide +kernel
theorem dX6_init_4 : decode cX6_init 4 = .ok (.aload_n 0, 1) := by decide +kernel
theorem dX6_init_5 : decode cX6_init 5 = .ok (.bipush 116, 2) := by decide +kernel
theorem dX6_init_7 : decode cX6_init 7 = .ok (.newarray .int, 2) := by decide +kernel
theorem dX6_init_9 : decode cX6_init 9 = .ok (.putfield 7, 3) := by decide +kernel
theorem dX6_init_12 : decode cX6_init 12 = .ok (.aload_n 0, 1) := by decide +kernel
theorem dX6_init_13 : decode cX6_init 13 = .ok (.sipush 464, 3) := by decide +kernel
theorem dX6_init_16 : decode cX6_init 16 = .ok (.newarray .int, 2) := by decide +kernel
theorem dX6_init_18 : decode cX6_init 18 = .ok (.putfield 13, 3) := by decide +kernel
theorem dX6_init_21 : decode cX6_init 21 = .ok (.aload_n 0, 1) := by decide +kernel
theorem dX6_init_22 : decode cX6_init 22 = .ok (.bipush 116, 2) := by decide +kernel
theorem dX6_init_24 : decode cX6_init 24 = .ok (.newarray .int, 2) := by decide +kernel
theorem dX6_init_26 : decode cX6_init 26 = .ok (.putfield 16, 3) := by decide +kernel
theorem dX6_init_29 : decode cX6_init 29 = .ok (.aload_n 0, 1) := by decide +kernel
theorem dX6_init_30 : decode cX6_init 30 = .ok (.bipush 60, 2) := by decide +kernel
theorem dX6_init_32 : decode cX6_init 32 = .ok (.newarray .int, 2) := by decide +kernel
theorem dX6_init_34 : decode cX6_init 34 = .ok (.putfield 19, 3) := by decide +kernel
theorem dX6_init_37 : decode cX6_init 37 = .ok (.aload_n 0, 1) := by decide +kernel
theorem dX6_init_38 : decode cX6_init 38 = .ok (.bipush 10, 2) := by decide +kernel
theorem dX6_init_40 : decode cX6_init 40 = .ok (.newarray .int, 2) := by decide +kernel
theorem dX6_init_42 : decode cX6_init 42 = .ok (.putfield 22, 3) := by decide +kernel
theorem dX6_init_45 : decode cX6_init 45 = .ok (.aload_n 0, 1) := by decide +kernel
theorem dX6_init_46 : decode cX6_init 46 = .ok (.bipush 16, 2) := by decide +kernel
theorem dX6_init_48 : decode cX6_init 48 = .ok (.newarray .int, 2) := by decide +kernel
theorem dX6_init_50 : decode cX6_init 50 = .ok (.putfield 25, 3) := by decide +kernel
theorem dX6_init_53 : decode cX6_init 53 = .ok (.iconst 0, 1) := by decide +kernel
theorem dX6_init_54 : decode cX6_init 54 = .ok (.istore_n 1, 1) := by decide +kernel
theorem dX6_init_55 : decode cX6_init 55 = .ok (.iload_n 1, 1) := by decide +kernel
theorem dX6_init_56 : decode cX6_init 56 = .ok (.bipush 16, 2) := by decide +kernel
theorem dX6_init_58 : decode cX6_init 58 = .ok (.if_icmp .ge 27, 3) := by decide +kernel
theorem dX6_init_61 : decode cX6_init 61 = .ok (.aload_n 0, 1) := by decide +kernel
theorem dX6_init_62 : decode cX6_init 62 = .ok (.getfield 7, 3) := by decide +kernel
theorem dX6_init_65 : decode cX6_init 65 = .ok (.bipush 11, 2) := by decide +kernel
theorem dX6_init_67 : decode cX6_init 67 = .ok (.iload_n 1, 1) := by decide +kernel
theorem dX6_init_68 : decode cX6_init 68 = .ok (.iadd, 1) := by decide +kernel
theorem dX6_init_69 : decode cX6_init 69 = .ok (.iload_n 1, 1) := by decide +kernel
theorem dX6_init_70 : decode cX6_init 70 = .ok (.iconst 4, 1) := by decide +kernel
theorem dX6_init_71 : decode cX6_init 71 = .ok (.idiv, 1) := by decide +kernel
theorem dX6_init_72 : decode cX6_init 72 = .ok (.iload_n 1, 1) := by decide +kernel
theorem dX6_init_73 : decode cX6_init 73 = .ok (.iconst 4, 1) := by decide +kernel
theorem dX6_init_74 : decode cX6_init 74 = .ok (.irem, 1) := by decide +kernel
theorem dX6_init_75 : decode cX6_init 75 = .ok (.iadd, 1) := by decide +kernel
theorem dX6_init_76 : decode cX6_init 76 = .ok (.iconst 4, 1) := by decide +kernel
theorem dX6_init_77 : decode cX6_init 77 = .ok (.irem, 1) := by decide +kernel
theorem dX6_init_78 : decode cX6_init 78 = .ok (.iastore, 1) := by decide +kernel
theorem dX6_init_79 : decode cX6_init 79 = .ok (.iinc 1 1, 3) := by decide +kernel
theorem dX6_init_82 : decode cX6_init 82 = .ok (.goto (-27), 3) := by decide +kernel
theorem dX6_init_85 : decode cX6_init 85 = .ok (.return_, 1) := by decide +kernel
theorem dX6_in_0 : decode cX6_in 0 = .ok (.iload_n 0, 1) := by decide +kernel
theorem dX6_in_1 : decode cX6_in 1 = .ok (.iload_n 1, 1) := by decide +kernel
theorem dX6_in_2 : decode cX6_in 2 = .ok (.if_icmp .lt 12, 3) := by decide +kernel
theorem dX6_in_5 : decode cX6_in 5 = .ok (.iload_n 0, 1) := by decide +kernel
theorem dX6_in_6 : decode cX6_in 6 = .ok (.iload_n 2, 1) := by decide +kernel
theorem dX6_in_7 : decode cX6_in 7 = .ok (.if_icmp .gt 7, 3) := by decide +kernel
theorem dX6_in_10 : decode cX6_in 10 = .ok (.iconst 1, 1) := by decide +kernel
theorem dX6_in_11 : decode cX6_in 11 = .ok (.goto 4, 3) := by decide +kernel
theorem dX6_in_14 : decode cX6_in 14 = .ok (.iconst 0, 1) := by decide +kernel
theorem dX6_in_15 : decode cX6_in 15 = .ok (.ireturn, 1) := by decide +kernel
theorem dX6_is4_0 : decode cX6_is4 0 = .ok (.iload_n 0, 1) := by decide +kernel
theorem dX6_is4_1 : decode cX6_is4 1 = .ok (.iconst 0, 1) := by decide +kernel
theorem dX6_is4_2 : decode cX6_is4 2 = .ok (.iconst 3, 1) := by decide +kernel
theorem dX6_is4_3 : decode cX6_is4 3 = .ok (.invokestatic 28, 3) := by decide +kernel
theorem dX6_is4_6 : decode cX6_is4 6 = .ok (.ireturn, 1) := by decide +kernel
theorem dX6_changes_0 : decode cX6_changes 0 = .ok (.aload_n 0, 1) := by decide +kernel
theorem dX6_changes_1 : decode cX6_changes 1 = .ok (.getfield 32, 3) := by decide +kernel
theorem dX6_changes_4 : decode cX6_changes 4 = .ok (.ifCond .eq 4, 3) := by decide +kernel
theorem dX6_changes_7 : decode cX6_changes 7 = .ok (.return_, 1) := by decide +kernel
theorem dX6_changes_8 : decode cX6_changes 8 = .ok (.aload_n 0, 1) := by decide +kernel
theorem dX6_changes_9 : decode cX6_changes 9 = .ok (.getfield 36, 3) := by decide +kernel
theorem dX6_changes_12 : decode cX6_changes 12 = .ok (.iconst 4, 1) := by decide +kernel
theorem dX6_changes_13 : decode cX6_changes 13 = .ok (.if_icmp .ne 43, 3) := by decide +kernel
theorem dX6_changes_16 : decode cX6_changes 16 = .ok (.iconst 0, 1) := by decide +kernel
theorem dX6_changes_17 : decode cX6_changes 17 = .ok (.istore_n 1, 1) := by decide +kernel
theorem dX6_changes_18 : decode cX6_changes 18 = .ok (.iload_n 1, 1) := by decide +kernel
theorem dX6_changes_19 : decode cX6_changes 19 = .ok (.sipush 348, 3) := by decide +kernel
theorem dX6_changes_22 : decode cX6_changes 22 = .ok (.if_icmp .ge 24, 3) := by decide +kernel
theorem dX6_changes_25 : decode cX6_changes 25 = .ok (.aload_n 0, 1) := by decide +kernel
theorem dX6_changes_26 : decode cX6_changes 26 = .ok (.getfield 13, 3) := by decide +kernel
theorem dX6_changes_29 : decode cX6_changes 29 = .ok (.iload_n 1, 1) := by decide +kernel
theorem dX6_changes_30 : decode cX6_changes 30 = .ok (.aload_n 0, 1) := by decide +kernel
theorem dX6_changes_31 : decode cX6_changes 31 = .ok (.getfield 13, 3) := by decide +kernel
theorem dX6_changes_34 : decode cX6_changes 34 = .ok (.iload_n 1, 1) := by decide +kernel
theorem dX6_changes_35 : decode cX6_changes 35 = .ok (.bipush 116, 2) := by decide +kernel
theorem dX6_changes_37 : decode cX6_changes 37 = .ok (.iadd, 1) := by decide +kernel
theorem dX6_changes_38 : decode cX6_changes 38 = .ok (.iaload, 1) := by decide +kernel
theorem dX6_changes_39 : decode cX6_changes 39 = .ok (.iastore, 1) := by decide +kernel
theorem dX6_changes_40 : decode cX6_changes 40 = .ok (.iinc 1 1, 3) := by decide +kernel
theorem dX6_changes_43 : decode cX6_changes 43 = .ok (.goto (-25), 3) := by decide +kernel
theorem dX6_changes_46 : decode cX6_changes 46 = .ok (.aload_n 0, 1) := by decide +kernel
theorem dX6_changes_47 : decode cX6_changes 47 = .ok (.dup, 1) := by decide +kernel
theorem dX6_changes_48 : decode cX6_changes 48 = .ok (.getfield 36, 3) := by decide +kernel
theorem dX6_changes_51 : decode cX6_changes 51 = .ok (.iconst 1, 1) := by decide +kernel
theorem dX6_changes_52 : decode cX6_changes 52 = .ok (.isub, 1) := by decide +kernel
theorem dX6_changes_53 : decode cX6_changes 53 = .ok (.putfield 36, 3) := by decide +kernel
theorem dX6_changes_56 : decode cX6_changes 56 = .ok (.iconst 0, 1) := by decide +kernel
theorem dX6_changes_57 : decode cX6_changes 57 = .ok (.istore_n 1, 1) := by decide +kernel
theorem dX6_changes_58 : decode cX6_changes 58 = .ok (.iload_n 1, 1) := by decide +kernel
theorem dX6_changes_59 : decode cX6_changes 59 = .ok (.bipush 116, 2) := by decide +kernel
theorem dX6_changes_61 : decode cX6_changes 61 = .ok (.if_icmp .ge 29, 3) := by decide +kernel
theorem dX6_changes_64 : decode cX6_changes 64 = .ok (.aload_n 0, 1) := by decide +kernel
theorem dX6_changes_65 : decode cX6_changes 65 = .ok (.getfield 13, 3) := by decide +kernel
theorem dX6_changes_68 : decode cX6_changes 68 = .ok (.bipush 116, 2) := by decide +kernel
theorem dX6_changes_70 : decode cX6_changes 70 = .ok (.aload_n 0, 1) := by decide +kernel
theorem dX6_changes_71 : decode cX6_changes 71 = .ok (.getfield 36, 3) := by decide +kernel
theorem dX6_changes_74 : decode cX6_changes 74 = .ok (.imul, 1) := by decide +kernel
theorem dX6_changes_75 : decode cX6_changes 75 = .ok (.iload_n 1, 1) := by decide +kernel
theorem dX6_changes_76 : decode cX6_changes 76 = .ok (.iadd, 1) := by decide +kernel
theorem dX6_changes_77 : decode cX6_changes 77 = .ok (.aload_n 0, 1) := by decide +kernel
theorem dX6_changes_78 : decode cX6_changes 78 = .ok (.getfield 7, 3) := by decide +kernel
theorem dX6_changes_81 : decode cX6_changes 81 = .ok (.iload_n 1, 1) := by decide +kernel
theorem dX6_changes_82 : decode cX6_changes 82 = .ok (.iaload, 1) := by decide +kernel
theorem dX6_changes_83 : decode cX6_changes 83 = .ok (.iastore, 1) := by decide +kernel
theorem dX6_changes_84 : decode cX6_changes 84 = .ok (.iinc 1 1, 3) := by decide +kernel
theorem dX6_changes_87 : decode cX6_changes 87 = .ok (.goto (-29), 3) := by decide +kernel
theorem dX6_changes_90 : decode cX6_changes 90 = .ok (.aload_n 0, 1) := by decide +kernel
theorem dX6_changes_91 : decode cX6_changes 91 = .ok (.dup, 1) := by decide +kernel
theorem dX6_changes_92 : decode cX6_changes 92 = .ok (.getfield 36, 3) := by decide +kernel
theorem dX6_changes_95 : decode cX6_changes 95 = .ok (.iconst 1, 1) := by decide +kernel
theorem dX6_changes_96 : decode cX6_changes 96 = .ok (.iadd, 1) := by decide +kernel
theorem dX6_changes_97 : decode cX6_changes 97 = .ok (.putfield 36, 3) := by decide +kernel
theorem dX6_changes_100 : decode cX6_changes 100 = .ok (.return_, 1) := by decide +kernel
theorem dX6_copies_0 : decode cX6_copies 0 = .ok (.iconst 0, 1) := by decide +kernel
theorem dX6_copies_1 : decode cX6_copies 1 = .ok (.istore_n 3, 1) := by decide +kernel
theorem dX6_copies_2 : decode cX6_copies 2 = .ok (.iload_n 3, 1) := by decide +kernel
theorem dX6_copies_3 : decode cX6_copies 3 = .ok (.bipush 116, 2) := by decide +kernel
theorem dX6_copies_5 : decode cX6_copies 5 = .ok (.if_icmp .ge 15, 3) := by decide +kernel
theorem dX6_copies_8 : decode cX6_copies 8 = .ok (.aload_n 2, 1) := by decide +kernel
theorem dX6_copies_9 : decode cX6_copies 9 = .ok (.iload_n 3, 1) := by decide +kernel
theorem dX6_copies_10 : decode cX6_copies 10 = .ok (.aload_n 1, 1) := by decide +kernel
theorem dX6_copies_11 : decode cX6_copies 11 = .ok (.iload_n 3, 1) := by decide +kernel
theorem dX6_copies_12 : decode cX6_copies 12 = .ok (.iaload, 1) := by decide +kernel
theorem dX6_copies_13 : decode cX6_copies 13 = .ok (.iastore, 1) := by decide +kernel
theorem dX6_copies_14 : decode cX6_copies 14 = .ok (.iinc 3 1, 3) := by decide +kernel
theorem dX6_copies_17 : decode cX6_copies 17 = .ok (.goto (-15), 3) := by decide +kernel
theorem dX6_copies_20 : decode cX6_copies 20 = .ok (.return_, 1) := by decide +kernel
theorem dX6_append_0 : decode cX6_append 0 = .ok (.iload_n 1, 1) := by decide +kernel
theorem dX6_append_1 : decode cX6_append 1 = .ok (.invokestatic 40, 3) := by decide +kernel
theorem dX6_append_4 : decode cX6_append 4 = .ok (.ifCond .ne 6, 3) := by decide +kernel
theorem dX6_append_7 : decode cX6_append 7 = .ok (.ldc 44, 2) := by decide +kernel
theorem dX6_append_9 : decode cX6_append 9 = .ok (.ireturn, 1) := by decide +kernel
theorem dX6_append_10 : decode cX6_append 10 = .ok (.aload_n 0, 1) := by decide +kernel
theorem dX6_append_11 : decode cX6_append 11 = .ok (.getfield 7, 3) := by decide +kernel
theorem dX6_append_14 : decode cX6_append 14 = .ok (.iconst 0, 1) := by decide +kernel
theorem dX6_append_15 : decode cX6_append 15 = .ok (.iaload, 1) := by decide +kernel
theorem dX6_append_16 : decode cX6_append 16 = .ok (.bipush 10, 2) := by decide +kernel
theorem dX6_append_18 : decode cX6_append 18 = .ok (.if_icmp .ne 6, 3) := by decide +kernel
theorem dX6_append_21 : decode cX6_append 21 = .ok (.ldc 45, 2) := by decide +kernel
theorem dX6_append_23 : decode cX6_append 23 = .ok (.ireturn, 1) := by decide +kernel
theorem dX6_append_24 : decode cX6_append 24 = .ok (.aload_n 0, 1) := by decide +kernel
theorem dX6_append_25 : decode cX6_append 25 = .ok (.invokevirtual 46, 3) := by decide +kernel
theorem dX6_append_28 : decode cX6_append 28 = .ok (.aload_n 0, 1) := by decide +kernel
theorem dX6_append_29 : decode cX6_append 29 = .ok (.getfield 7, 3) := by decide +kernel
theorem dX6_append_32 : decode cX6_append 32 = .ok (.iconst 1, 1) := by decide +kernel
theorem dX6_append_33 : decode cX6_append 33 = .ok (.aload_n 0, 1) := by decide +kernel
theorem dX6_append_34 : decode cX6_append 34 = .ok (.getfield 7, 3) := by decide +kernel
theorem dX6_append_37 : decode cX6_append 37 = .ok (.iconst 0, 1) := by decide +kernel
theorem dX6_append_38 : decode cX6_append 38 = .ok (.iaload, 1) := by decide +kernel
theorem dX6_append_39 : decode cX6_append 39 = .ok (.iadd, 1) := by decide +kernel
theorem dX6_append_40 : decode cX6_append 40 = .ok (.iload_n 1, 1) := by decide +kernel
theorem dX6_append_41 : decode cX6_append 41 = .ok (.iastore, 1) := by decide +kernel
theorem dX6_append_42 : decode cX6_append 42 = .ok (.aload_n 0, 1) := by decide +kernel
theorem dX6_append_43 : decode cX6_append 43 = .ok (.getfield 7, 3) := by decide +kernel
theorem dX6_append_46 : decode cX6_append 46 = .ok (.iconst 0, 1) := by decide +kernel
theorem dX6_append_47 : decode cX6_append 47 = .ok (.dup2, 1) := by decide +kernel
theorem dX6_append_48 : decode cX6_append 48 = .ok (.iaload, 1) := by decide +kernel
theorem dX6_append_49 : decode cX6_append 49 = .ok (.iconst 1, 1) := by decide +kernel
theorem dX6_append_50 : decode cX6_append 50 = .ok (.iadd, 1) := by decide +kernel
theorem dX6_append_51 : decode cX6_append 51 = .ok (.iastore, 1) := by decide +kernel
theorem dX6_append_52 : decode cX6_append 52 = .ok (.aload_n 0, 1) := by decide +kernel
theorem dX6_append_53 : decode cX6_append 53 = .ok (.getfield 7, 3) := by decide +kernel
theorem dX6_append_56 : decode cX6_append 56 = .ok (.iconst 0, 1) := by decide +kernel
theorem dX6_append_57 : decode cX6_append 57 = .ok (.iaload, 1) := by decide +kernel
theorem dX6_append_58 : decode cX6_append 58 = .ok (.ireturn, 1) := by decide +kernel
theorem dX6_clear_0 : decode cX6_clear 0 = .ok (.aload_n 0, 1) := by decide +kernel
theorem dX6_clear_1 : decode cX6_clear 1 = .ok (.invokevirtual 46, 3) := by decide +kernel
theorem dX6_clear_4 : decode cX6_clear 4 = .ok (.aload_n 0, 1) := by decide +kernel
theorem dX6_clear_5 : decode cX6_clear 5 = .ok (.getfield 7, 3) := by decide +kernel
theorem dX6_clear_8 : decode cX6_clear 8 = .ok (.iconst 0, 1) := by decide +kernel
theorem dX6_clear_9 : decode cX6_clear 9 = .ok (.iaload, 1) := by decide +kernel
theorem dX6_clear_10 : decode cX6_clear 10 = .ok (.istore_n 1, 1) := by decide +kernel
theorem dX6_clear_11 : decode cX6_clear 11 = .ok (.aload_n 0, 1) := by decide +kernel
theorem dX6_clear_12 : decode cX6_clear 12 = .ok (.getfield 7, 3) := by decide +kernel
theorem dX6_clear_15 : decode cX6_clear 15 = .ok (.iconst 0, 1) := by decide +kernel
theorem dX6_clear_16 : decode cX6_clear 16 = .ok (.iconst 0, 1) := by decide +kernel
theorem dX6_clear_17 : decode cX6_clear 17 = .ok (.iastore, 1) := by decide +kernel
theorem dX6_clear_18 : decode cX6_clear 18 = .ok (.iload_n 1, 1) := by decide +kernel
theorem dX6_clear_19 : decode cX6_clear 19 = .ok (.ireturn, 1) := by decide +kernel
theorem dX6_code_0 : decode cX6_code 0 = .ok (.iload_n 1, 1) := by decide +kernel
theorem dX6_code_1 : decode cX6_code 1 = .ok (.invokestatic 40, 3) := by decide +kernel
theorem dX6_code_4 : decode cX6_code 4 = .ok (.ifCond .eq 17, 3) := by decide +kernel
theorem dX6_code_7 : decode cX6_code 7 = .ok (.iload_n 2, 1) := by decide +kernel
theorem dX6_code_8 : decode cX6_code 8 = .ok (.invokestatic 40, 3) := by decide +kernel
theorem dX6_code_11 : decode cX6_code 11 = .ok (.ifCond .eq 10, 3) := by decide +kernel
theorem dX6_code_14 : decode cX6_code 14 = .ok (.iload_n 3, 1) := by decide +kernel
theorem dX6_code_15 : decode cX6_code 15 = .ok (.invokestatic 40, 3) := by decide +kernel
theorem dX6_code_18 : decode cX6_code 18 = .ok (.ifCond .ne 6, 3) := by decide +kernel
theorem dX6_code_21 : decode cX6_code 21 = .ok (.ldc 44, 2) := by decide +kernel
theorem dX6_code_23 : decode cX6_code 23 = .ok (.ireturn, 1) := by decide +kernel
theorem dX6_code_24 : decode cX6_code 24 = .ok (.aload_n 0, 1) := by decide +kernel
theorem dX6_code_25 : decode cX6_code 25 = .ok (.invokevirtual 46, 3) := by decide +kernel
theorem dX6_code_28 : decode cX6_code 28 = .ok (.aload_n 0, 1) := by decide +kernel
theorem dX6_code_29 : decode cX6_code 29 = .ok (.getfield 7, 3) := by decide +kernel
theorem dX6_code_32 : decode cX6_code 32 = .ok (.bipush 11, 2) := by decide +kernel
theorem dX6_code_34 : decode cX6_code 34 = .ok (.iconst 4, 1) := by decide +kernel
theorem dX6_code_35 : decode cX6_code 35 = .ok (.iload_n 1, 1) := by decide +kernel
theorem dX6_code_36 : decode cX6_code 36 = .ok (.imul, 1) := by decide +kernel
theorem dX6_code_37 : decode cX6_code 37 = .ok (.iadd, 1) := by decide +kernel
theorem dX6_code_38 : decode cX6_code 38 = .ok (.iload_n 2, 1) := by decide +kernel
theorem dX6_code_39 : decode cX6_code 39 = .ok (.iadd, 1) := by decide +kernel
theorem dX6_code_40 : decode cX6_code 40 = .ok (.iaload, 1) := by decide +kernel
theorem dX6_code_41 : decode cX6_code 41 = .ok (.istore 4, 2) := by decide +kernel
theorem dX6_code_43 : decode cX6_code 43 = .ok (.aload_n 0, 1) := by decide +kernel
theorem dX6_code_44 : decode cX6_code 44 = .ok (.getfield 7, 3) := by decide +kernel
theorem dX6_code_47 : decode cX6_code 47 = .ok (.bipush 11, 2) := by decide +kernel
theorem dX6_code_49 : decode cX6_code 49 = .ok (.iconst 4, 1) := by decide +kernel
theorem dX6_code_50 : decode cX6_code 50 = .ok (.iload_n 1, 1) := by decide +kernel
theorem dX6_code_51 : decode cX6_code 51 = .ok (.imul, 1) := by decide +kernel
theorem dX6_code_52 : decode cX6_code 52 = .ok (.iadd, 1) := by decide +kernel
theorem dX6_code_53 : decode cX6_code 53 = .ok (.iload_n 2, 1) := by decide +kernel
theorem dX6_code_54 : decode cX6_code 54 = .ok (.iadd, 1) := by decide +kernel
theorem dX6_code_55 : decode cX6_code 55 = .ok (.iload_n 3, 1) := by decide +kernel
theorem dX6_code_56 : decode cX6_code 56 = .ok (.iastore, 1) := by decide +kernel
theorem dX6_code_57 : decode cX6_code 57 = .ok (.iload 4, 2) := by decide +kernel
theorem dX6_code_59 : decode cX6_code 59 = .ok (.ireturn, 1) := by decide +kernel
theorem dX6_turn_0 : decode cX6_turn 0 = .ok (.aload_n 0, 1) := by decide +kernel
theorem dX6_turn_1 : decode cX6_turn 1 = .ok (.getfield 7, 3) := by decide +kernel
theorem dX6_turn_4 : decode cX6_turn 4 = .ok (.iconst 0, 1) := by decide +kernel
theorem dX6_turn_5 : decode cX6_turn 5 = .ok (.iaload, 1) := by decide +kernel
theorem dX6_turn_6 : decode cX6_turn 6 = .ok (.ifCond .ne 6, 3) := by decide +kernel
theorem dX6_turn_9 : decode cX6_turn 9 = .ok (.ldc 49, 2) := by decide +kernel
theorem dX6_turn_11 : decode cX6_turn 11 = .ok (.ireturn, 1) := by decide +kernel
theorem dX6_turn_12 : decode cX6_turn 12 = .ok (.aload_n 0, 1) := by decide +kernel
theorem dX6_turn_13 : decode cX6_turn 13 = .ok (.invokevirtual 46, 3) := by decide +kernel
theorem dX6_turn_16 : decode cX6_turn 16 = .ok (.iconst 0, 1) := by decide +kernel
theorem dX6_turn_17 : decode cX6_turn 17 = .ok (.istore_n 1, 1) := by decide +kernel
theorem dX6_turn_18 : decode cX6_turn 18 = .ok (.iconst 2, 1) := by decide +kernel
theorem dX6_turn_19 : decode cX6_turn 19 = .ok (.iload_n 1, 1) := by decide +kernel
theorem dX6_turn_20 : decode cX6_turn 20 = .ok (.imul, 1) := by decide +kernel
theorem dX6_turn_21 : decode cX6_turn 21 = .ok (.aload_n 0, 1) := by decide +kernel
theorem dX6_turn_22 : decode cX6_turn 22 = .ok (.getfield 7, 3) := by decide +kernel
theorem dX6_turn_25 : decode cX6_turn 25 = .ok (.iconst 0, 1) := by decide +kernel
theorem dX6_turn_26 : decode cX6_turn 26 = .ok (.iaload, 1) := by decide +kernel
theorem dX6_turn_27 : decode cX6_turn 27 = .ok (.iconst 1, 1) := by decide +kernel
theorem dX6_turn_28 : decode cX6_turn 28 = .ok (.isub, 1) := by decide +kernel
theorem dX6_turn_29 : decode cX6_turn 29 = .ok (.if_icmp .ge 61, 3) := by decide +kernel
theorem dX6_turn_32 : decode cX6_turn 32 = .ok (.aload_n 0, 1) := by decide +kernel
theorem dX6_turn_33 : decode cX6_turn 33 = .ok (.getfield 7, 3) := by decide +kernel
theorem dX6_turn_36 : decode cX6_turn 36 = .ok (.iconst 1, 1) := by decide +kernel
theorem dX6_turn_37 : decode cX6_turn 37 = .ok (.iload_n 1, 1) := by decide +kernel
theorem dX6_turn_38 : decode cX6_turn 38 = .ok (.iadd, 1) := by decide +kernel
theorem dX6_turn_39 : decode cX6_turn 39 = .ok (.iaload, 1) := by decide +kernel
theorem dX6_turn_40 : decode cX6_turn 40 = .ok (.istore_n 2, 1) := by decide +kernel
theorem dX6_turn_41 : decode cX6_turn 41 = .ok (.aload_n 0, 1) := by decide +kernel
theorem dX6_turn_42 : decode cX6_turn 42 = .ok (.getfield 7, 3) := by decide +kernel
theorem dX6_turn_45 : decode cX6_turn 45 = .ok (.iconst 1, 1) := by decide +kernel
theorem dX6_turn_46 : decode cX6_turn 46 = .ok (.iload_n 1, 1) := by decide +kernel
theorem dX6_turn_47 : decode cX6_turn 47 = .ok (.iadd, 1) := by decide +kernel
theorem dX6_turn_48 : decode cX6_turn 48 = .ok (.aload_n 0, 1) := by decide +kernel
theorem dX6_turn_49 : decode cX6_turn 49 = .ok (.getfield 7, 3) := by decide +kernel
theorem dX6_turn_52 : decode cX6_turn 52 = .ok (.iconst 1, 1) := by decide +kernel
theorem dX6_turn_53 : decode cX6_turn 53 = .ok (.aload_n 0, 1) := by decide +kernel
theorem dX6_turn_54 : decode cX6_turn 54 = .ok (.getfield 7, 3) := by decide +kernel
theorem dX6_turn_57 : decode cX6_turn 57 = .ok (.iconst 0, 1) := by decide +kernel
theorem dX6_turn_58 : decode cX6_turn 58 = .ok (.iaload, 1) := by decide +kernel
theorem dX6_turn_59 : decode cX6_turn 59 = .ok (.iadd, 1) := by decide +kernel
theorem dX6_turn_60 : decode cX6_turn 60 = .ok (.iconst 1, 1) := by decide +kernel
theorem dX6_turn_61 : decode cX6_turn 61 = .ok (.isub, 1) := by decide +kernel
theorem dX6_turn_62 : decode cX6_turn 62 = .ok (.iload_n 1, 1) := by decide +kernel
theorem dX6_turn_63 : decode cX6_turn 63 = .ok (.isub, 1) := by decide +kernel
theorem dX6_turn_64 : decode cX6_turn 64 = .ok (.iaload, 1) := by decide +kernel
theorem dX6_turn_65 : decode cX6_turn 65 = .ok (.iastore, 1) := by decide +kernel
theorem dX6_turn_66 : decode cX6_turn 66 = .ok (.aload_n 0, 1) := by decide +kernel
theorem dX6_turn_67 : decode cX6_turn 67 = .ok (.getfield 7, 3) := by decide +kernel
theorem dX6_turn_70 : decode cX6_turn 70 = .ok (.iconst 1, 1) := by decide +kernel
theorem dX6_turn_71 : decode cX6_turn 71 = .ok (.aload_n 0, 1) := by decide +kernel
theorem dX6_turn_72 : decode cX6_turn 72 = .ok (.getfield 7, 3) := by decide +kernel
theorem dX6_turn_75 : decode cX6_turn 75 = .ok (.iconst 0, 1) := by decide +kernel
theorem dX6_turn_76 : decode cX6_turn 76 = .ok (.iaload, 1) := by decide +kernel
theorem dX6_turn_77 : decode cX6_turn 77 = .ok (.iadd, 1) := by decide +kernel
theorem dX6_turn_78 : decode cX6_turn 78 = .ok (.iconst 1, 1) := by decide +kernel
theorem dX6_turn_79 : decode cX6_turn 79 = .ok (.isub, 1) := by decide +kernel
theorem dX6_turn_80 : decode cX6_turn 80 = .ok (.iload_n 1, 1) := by decide +kernel
theorem dX6_turn_81 : decode cX6_turn 81 = .ok (.isub, 1) := by decide +kernel
theorem dX6_turn_82 : decode cX6_turn 82 = .ok (.iload_n 2, 1) := by decide +kernel
theorem dX6_turn_83 : decode cX6_turn 83 = .ok (.iastore, 1) := by decide +kernel
theorem dX6_turn_84 : decode cX6_turn 84 = .ok (.iinc 1 1, 3) := by decide +kernel
theorem dX6_turn_87 : decode cX6_turn 87 = .ok (.goto (-69), 3) := by decide +kernel
theorem dX6_turn_90 : decode cX6_turn 90 = .ok (.aload_n 0, 1) := by decide +kernel
theorem dX6_turn_91 : decode cX6_turn 91 = .ok (.getfield 7, 3) := by decide +kernel
theorem dX6_turn_94 : decode cX6_turn 94 = .ok (.iconst 1, 1) := by decide +kernel
theorem dX6_turn_95 : decode cX6_turn 95 = .ok (.iaload, 1) := by decide +kernel
theorem dX6_turn_96 : decode cX6_turn 96 = .ok (.ireturn, 1) := by decide +kernel
theorem dX6_letterAt_0 : decode cX6_letterAt 0 = .ok (.iload_n 1, 1) := by decide +kernel
theorem dX6_letterAt_1 : decode cX6_letterAt 1 = .ok (.ifCond .ge 8, 3) := by decide +kernel
theorem dX6_letterAt_4 : decode cX6_letterAt 4 = .ok (.ldc 44, 2) := by decide +kernel
theorem dX6_letterAt_6 : decode cX6_letterAt 6 = .ok (.goto 26, 3) := by decide +kernel
theorem dX6_letterAt_9 : decode cX6_letterAt 9 = .ok (.iload_n 1, 1) := by decide +kernel
theorem dX6_letterAt_10 : decode cX6_letterAt 10 = .ok (.aload_n 0, 1) := by decide +kernel
theorem dX6_letterAt_11 : decode cX6_letterAt 11 = .ok (.getfield 7, 3) := by decide +kernel
theorem dX6_letterAt_14 : decode cX6_letterAt 14 = .ok (.iconst 0, 1) := by decide +kernel
theorem dX6_letterAt_15 : decode cX6_letterAt 15 = .ok (.iaload, 1) := by decide +kernel
theorem dX6_letterAt_16 : decode cX6_letterAt 16 = .ok (.if_icmp .ge 14, 3) := by decide +kernel
theorem dX6_letterAt_19 : decode cX6_letterAt 19 = .ok (.aload_n 0, 1) := by decide +kernel
theorem dX6_letterAt_20 : decode cX6_letterAt 20 = .ok (.getfield 7, 3) := by decide +kernel
theorem dX6_letterAt_23 : decode cX6_letterAt 23 = .ok (.iconst 1, 1) := by decide +kernel
theorem dX6_letterAt_24 : decode cX6_letterAt 24 = .ok (.iload_n 1, 1) := by decide +kernel
theorem dX6_letterAt_25 : decode cX6_letterAt 25 = .ok (.iadd, 1) := by decide +kernel
theorem dX6_letterAt_26 : decode cX6_letterAt 26 = .ok (.iaload, 1) := by decide +kernel
theorem dX6_letterAt_27 : decode cX6_letterAt 27 = .ok (.goto 5, 3) := by decide +kernel
theorem dX6_letterAt_30 : decode cX6_letterAt 30 = .ok (.ldc 50, 2) := by decide +kernel
theorem dX6_letterAt_32 : decode cX6_letterAt 32 = .ok (.ireturn, 1) := by decide +kernel
theorem dX6_codeOf_0 : decode cX6_codeOf 0 = .ok (.iload_n 1, 1) := by decide +kernel
theorem dX6_codeOf_1 : decode cX6_codeOf 1 = .ok (.invokestatic 40, 3) := by decide +kernel
theorem dX6_codeOf_4 : decode cX6_codeOf 4 = .ok (.ifCond .eq 26, 3) := by decide +kernel
theorem dX6_codeOf_7 : decode cX6_codeOf 7 = .ok (.iload_n 2, 1) := by decide +kernel
theorem dX6_codeOf_8 : decode cX6_codeOf 8 = .ok (.invokestatic 40, 3) := by decide +kernel
theorem dX6_codeOf_11 : decode cX6_codeOf 11 = .ok (.ifCond .eq 19, 3) := by decide +kernel
theorem dX6_codeOf_14 : decode cX6_codeOf 14 = .ok (.aload_n 0, 1) := by decide +kernel
theorem dX6_codeOf_15 : decode cX6_codeOf 15 = .ok (.getfield 7, 3) := by decide +kernel
theorem dX6_codeOf_18 : decode cX6_codeOf 18 = .ok (.bipush 11, 2) := by decide +kernel
theorem dX6_codeOf_20 : decode cX6_codeOf 20 = .ok (.iconst 4, 1) := by decide +kernel
theorem dX6_codeOf_21 : decode cX6_codeOf 21 = .ok (.iload_n 1, 1) := by decide +kernel
theorem dX6_codeOf_22 : decode cX6_codeOf 22 = .ok (.imul, 1) := by decide +kernel
theorem dX6_codeOf_23 : decode cX6_codeOf 23 = .ok (.iadd, 1) := by decide +kernel
theorem dX6_codeOf_24 : decode cX6_codeOf 24 = .ok (.iload_n 2, 1) := by decide +kernel
theorem dX6_codeOf_25 : decode cX6_codeOf 25 = .ok (.iadd, 1) := by decide +kernel
theorem dX6_codeOf_26 : decode cX6_codeOf 26 = .ok (.iaload, 1) := by decide +kernel
theorem dX6_codeOf_27 : decode cX6_codeOf 27 = .ok (.goto 5, 3) := by decide +kernel
theorem dX6_codeOf_30 : decode cX6_codeOf 30 = .ok (.ldc 44, 2) := by decide +kernel
theorem dX6_codeOf_32 : decode cX6_codeOf 32 = .ok (.ireturn, 1) := by decide +kernel
theorem dX6_often_0 : decode cX6_often 0 = .ok (.iconst 0, 1) := by decide +kernel
theorem dX6_often_1 : decode cX6_often 1 = .ok (.istore 4, 2) := by decide +kernel
theorem dX6_often_3 : decode cX6_often 3 = .ok (.iconst 1, 1) := by decide +kernel
theorem dX6_often_4 : decode cX6_often 4 = .ok (.istore 5, 2) := by decide +kernel
theorem dX6_often_6 : decode cX6_often 6 = .ok (.iload 5, 2) := by decide +kernel
theorem dX6_often_8 : decode cX6_often 8 = .ok (.iload_n 2, 1) := by decide +kernel
theorem dX6_often_9 : decode cX6_often 9 = .ok (.if_icmp .ge 40, 3) := by decide +kernel
theorem dX6_often_12 : decode cX6_often 12 = .ok (.iload 4, 2) := by decide +kernel
theorem dX6_often_14 : decode cX6_often 14 = .ok (.iconst 4, 1) := by decide +kernel
theorem dX6_often_15 : decode cX6_often 15 = .ok (.aload_n 0, 1) := by decide +kernel
theorem dX6_often_16 : decode cX6_often 16 = .ok (.iload_n 1, 1) := by decide +kernel
theorem dX6_often_17 : decode cX6_often 17 = .ok (.iload 5, 2) := by decide +kernel
theorem dX6_often_19 : decode cX6_often 19 = .ok (.iadd, 1) := by decide +kernel
theorem dX6_often_20 : decode cX6_often 20 = .ok (.iconst 1, 1) := by decide +kernel
theorem dX6_often_21 : decode cX6_often 21 = .ok (.isub, 1) := by decide +kernel
theorem dX6_often_22 : decode cX6_often 22 = .ok (.iaload, 1) := by decide +kernel
theorem dX6_often_23 : decode cX6_often 23 = .ok (.imul, 1) := by decide +kernel
theorem dX6_often_24 : decode cX6_often 24 = .ok (.aload_n 0, 1) := by decide +kernel
theorem dX6_often_25 : decode cX6_often 25 = .ok (.iload_n 1, 1) := by decide +kernel
theorem dX6_often_26 : decode cX6_often 26 = .ok (.iload 5, 2) := by decide +kernel
theorem dX6_often_28 : decode cX6_often 28 = .ok (.iadd, 1) := by decide +kernel
theorem dX6_often_29 : decode cX6_often 29 = .ok (.iaload, 1) := by decide +kernel
theorem dX6_often_30 : decode cX6_often 30 = .ok (.iadd, 1) := by decide +kernel
theorem dX6_often_31 : decode cX6_often 31 = .ok (.iload_n 3, 1) := by decide +kernel
theorem dX6_often_32 : decode cX6_often 32 = .ok (.if_icmp .ne 7, 3) := by decide +kernel
theorem dX6_often_35 : decode cX6_often 35 = .ok (.iconst 1, 1) := by decide +kernel
theorem dX6_often_36 : decode cX6_often 36 = .ok (.goto 4, 3) := by decide +kernel
theorem dX6_often_39 : decode cX6_often 39 = .ok (.iconst 0, 1) := by decide +kernel
theorem dX6_often_40 : decode cX6_often 40 = .ok (.iadd, 1) := by decide +kernel
theorem dX6_often_41 : decode cX6_often 41 = .ok (.istore 4, 2) := by decide +kernel
theorem dX6_often_43 : decode cX6_often 43 = .ok (.iinc 5 1, 3) := by decide +kernel
theorem dX6_often_46 : decode cX6_often 46 = .ok (.goto (-40), 3) := by decide +kernel
theorem dX6_often_49 : decode cX6_often 49 = .ok (.iload 4, 2) := by decide +kernel
theorem dX6_often_51 : decode cX6_often 51 = .ok (.ireturn, 1) := by decide +kernel
theorem dX6_letters_0 : decode cX6_letters 0 = .ok (.iconst 0, 1) := by decide +kernel
theorem dX6_letters_1 : decode cX6_letters 1 = .ok (.istore_n 2, 1) := by decide +kernel
theorem dX6_letters_2 : decode cX6_letters 2 = .ok (.iconst 0, 1) := by decide +kernel
theorem dX6_letters_3 : decode cX6_letters 3 = .ok (.istore_n 3, 1) := by decide +kernel
theorem dX6_letters_4 : decode cX6_letters 4 = .ok (.iload_n 3, 1) := by decide +kernel
theorem dX6_letters_5 : decode cX6_letters 5 = .ok (.aload_n 0, 1) := by decide +kernel
theorem dX6_letters_6 : decode cX6_letters 6 = .ok (.getfield 7, 3) := by decide +kernel
theorem dX6_letters_9 : decode cX6_letters 9 = .ok (.iconst 0, 1) := by decide +kernel
theorem dX6_letters_10 : decode cX6_letters 10 = .ok (.iaload, 1) := by decide +kernel
theorem dX6_letters_11 : decode cX6_letters 11 = .ok (.if_icmp .ge 29, 3) := by decide +kernel
theorem dX6_letters_14 : decode cX6_letters 14 = .ok (.iload_n 2, 1) := by decide +kernel
theorem dX6_letters_15 : decode cX6_letters 15 = .ok (.aload_n 0, 1) := by decide +kernel
theorem dX6_letters_16 : decode cX6_letters 16 = .ok (.getfield 7, 3) := by decide +kernel
theorem dX6_letters_19 : decode cX6_letters 19 = .ok (.iconst 1, 1) := by decide +kernel
theorem dX6_letters_20 : decode cX6_letters 20 = .ok (.iload_n 3, 1) := by decide +kernel
theorem dX6_letters_21 : decode cX6_letters 21 = .ok (.iadd, 1) := by decide +kernel
theorem dX6_letters_22 : decode cX6_letters 22 = .ok (.iaload, 1) := by decide +kernel
theorem dX6_letters_23 : decode cX6_letters 23 = .ok (.iload_n 1, 1) := by decide +kernel
theorem dX6_letters_24 : decode cX6_letters 24 = .ok (.if_icmp .ne 7, 3) := by decide +kernel
theorem dX6_letters_27 : decode cX6_letters 27 = .ok (.iconst 1, 1) := by decide +kernel
theorem dX6_letters_28 : decode cX6_letters 28 = .ok (.goto 4, 3) := by decide +kernel
theorem dX6_letters_31 : decode cX6_letters 31 = .ok (.iconst 0, 1) := by decide +kernel
theorem dX6_letters_32 : decode cX6_letters 32 = .ok (.iadd, 1) := by decide +kernel
theorem dX6_letters_33 : decode cX6_letters 33 = .ok (.istore_n 2, 1) := by decide +kernel
theorem dX6_letters_34 : decode cX6_letters 34 = .ok (.iinc 3 1, 3) := by decide +kernel
theorem dX6_letters_37 : decode cX6_letters 37 = .ok (.goto (-33), 3) := by decide +kernel
theorem dX6_letters_40 : decode cX6_letters 40 = .ok (.iload_n 2, 1) := by decide +kernel
theorem dX6_letters_41 : decode cX6_letters 41 = .ok (.ireturn, 1) := by decide +kernel
theorem dX6_pairs_0 : decode cX6_pairs 0 = .ok (.aload_n 0, 1) := by decide +kernel
theorem dX6_pairs_1 : decode cX6_pairs 1 = .ok (.getfield 7, 3) := by decide +kernel
theorem dX6_pairs_4 : decode cX6_pairs 4 = .ok (.iconst 1, 1) := by decide +kernel
theorem dX6_pairs_5 : decode cX6_pairs 5 = .ok (.aload_n 0, 1) := by decide +kernel
theorem dX6_pairs_6 : decode cX6_pairs 6 = .ok (.getfield 7, 3) := by decide +kernel
theorem dX6_pairs_9 : decode cX6_pairs 9 = .ok (.iconst 0, 1) := by decide +kernel
theorem dX6_pairs_10 : decode cX6_pairs 10 = .ok (.iaload, 1) := by decide +kernel
theorem dX6_pairs_11 : decode cX6_pairs 11 = .ok (.iload_n 1, 1) := by decide +kernel
theorem dX6_pairs_12 : decode cX6_pairs 12 = .ok (.invokestatic 51, 3) := by decide +kernel
theorem dX6_pairs_15 : decode cX6_pairs 15 = .ok (.ireturn, 1) := by decide +kernel
theorem dX6_pairAt_0 : decode cX6_pairAt 0 = .ok (.iload_n 1, 1) := by decide +kernel
theorem dX6_pairAt_1 : decode cX6_pairAt 1 = .ok (.iconst 0, 1) := by decide +kernel
theorem dX6_pairAt_2 : decode cX6_pairAt 2 = .ok (.bipush 15, 2) := by decide +kernel
theorem dX6_pairAt_4 : decode cX6_pairAt 4 = .ok (.invokestatic 28, 3) := by decide +kernel
theorem dX6_pairAt_7 : decode cX6_pairAt 7 = .ok (.ifCond .eq 12, 3) := by decide +kernel
theorem dX6_pairAt_10 : decode cX6_pairAt 10 = .ok (.iload_n 2, 1) := by decide +kernel
theorem dX6_pairAt_11 : decode cX6_pairAt 11 = .ok (.iconst 0, 1) := by decide +kernel
theorem dX6_pairAt_12 : decode cX6_pairAt 12 = .ok (.iconst 1, 1) := by decide +kernel
theorem dX6_pairAt_13 : decode cX6_pairAt 13 = .ok (.invokestatic 28, 3) := by decide +kernel
theorem dX6_pairAt_16 : decode cX6_pairAt 16 = .ok (.ifCond .ne 6, 3) := by decide +kernel
theorem dX6_pairAt_19 : decode cX6_pairAt 19 = .ok (.ldc 44, 2) := by decide +kernel
theorem dX6_pairAt_21 : decode cX6_pairAt 21 = .ok (.ireturn, 1) := by decide +kernel
theorem dX6_pairAt_22 : decode cX6_pairAt 22 = .ok (.iconst 0, 1) := by decide +kernel
theorem dX6_pairAt_23 : decode cX6_pairAt 23 = .ok (.istore_n 3, 1) := by decide +kernel
theorem dX6_pairAt_24 : decode cX6_pairAt 24 = .ok (.iconst 0, 1) := by decide +kernel
theorem dX6_pairAt_25 : decode cX6_pairAt 25 = .ok (.istore 4, 2) := by decide +kernel
theorem dX6_pairAt_27 : decode cX6_pairAt 27 = .ok (.iload 4, 2) := by decide +kernel
theorem dX6_pairAt_29 : decode cX6_pairAt 29 = .ok (.bipush 16, 2) := by decide +kernel
theorem dX6_pairAt_31 : decode cX6_pairAt 31 = .ok (.if_icmp .ge 88, 3) := by decide +kernel
theorem dX6_pairAt_34 : decode cX6_pairAt 34 = .ok (.iconst 0, 1) := by decide +kernel
theorem dX6_pairAt_35 : decode cX6_pairAt 35 = .ok (.istore 5, 2) := by decide +kernel
theorem dX6_pairAt_37 : decode cX6_pairAt 37 = .ok (.iconst 0, 1) := by decide +kernel
theorem dX6_pairAt_38 : decode cX6_pairAt 38 = .ok (.istore 6, 2) := by decide +kernel
theorem dX6_pairAt_40 : decode cX6_pairAt 40 = .ok (.iload 6, 2) := by decide +kernel
theorem dX6_pairAt_42 : decode cX6_pairAt 42 = .ok (.bipush 16, 2) := by decide +kernel
theorem dX6_pairAt_44 : decode cX6_pairAt 44 = .ok (.if_icmp .ge 56, 3) := by decide +kernel
theorem dX6_pairAt_47 : decode cX6_pairAt 47 = .ok (.iload 5, 2) := by decide +kernel
theorem dX6_pairAt_49 : decode cX6_pairAt 49 = .ok (.aload_n 0, 1) := by decide +kernel
theorem dX6_pairAt_50 : decode cX6_pairAt 50 = .ok (.iload 6, 2) := by decide +kernel
theorem dX6_pairAt_52 : decode cX6_pairAt 52 = .ok (.invokevirtual 55, 3) := by decide +kernel
theorem dX6_pairAt_55 : decode cX6_pairAt 55 = .ok (.aload_n 0, 1) := by decide +kernel
theorem dX6_pairAt_56 : decode cX6_pairAt 56 = .ok (.iload 4, 2) := by decide +kernel
theorem dX6_pairAt_58 : decode cX6_pairAt 58 = .ok (.invokevirtual 55, 3) := by decide +kernel
theorem dX6_pairAt_61 : decode cX6_pairAt 61 = .ok (.if_icmp .gt 25, 3) := by decide +kernel
theorem dX6_pairAt_64 : decode cX6_pairAt 64 = .ok (.iload 6, 2) := by decide +kernel
theorem dX6_pairAt_66 : decode cX6_pairAt 66 = .ok (.iload 4, 2) := by decide +kernel
theorem dX6_pairAt_68 : decode cX6_pairAt 68 = .ok (.if_icmp .ge 22, 3) := by decide +kernel
theorem dX6_pairAt_71 : decode cX6_pairAt 71 = .ok (.aload_n 0, 1) := by decide +kernel
theorem dX6_pairAt_72 : decode cX6_pairAt 72 = .ok (.iload 6, 2) := by decide +kernel
theorem dX6_pairAt_74 : decode cX6_pairAt 74 = .ok (.invokevirtual 55, 3) := by decide +kernel
theorem dX6_pairAt_77 : decode cX6_pairAt 77 = .ok (.aload_n 0, 1) := by decide +kernel
theorem dX6_pairAt_78 : decode cX6_pairAt 78 = .ok (.iload 4, 2) := by decide +kernel
theorem dX6_pairAt_80 : decode cX6_pairAt 80 = .ok (.invokevirtual 55, 3) := by decide +kernel
theorem dX6_pairAt_83 : decode cX6_pairAt 83 = .ok (.if_icmp .ne 7, 3) := by decide +kernel
theorem dX6_pairAt_86 : decode cX6_pairAt 86 = .ok (.iconst 1, 1) := by decide +kernel
theorem dX6_pairAt_87 : decode cX6_pairAt 87 = .ok (.goto 4, 3) := by decide +kernel
theorem dX6_pairAt_90 : decode cX6_pairAt 90 = .ok (.iconst 0, 1) := by decide +kernel
theorem dX6_pairAt_91 : decode cX6_pairAt 91 = .ok (.iadd, 1) := by decide +kernel
theorem dX6_pairAt_92 : decode cX6_pairAt 92 = .ok (.istore 5, 2) := by decide +kernel
theorem dX6_pairAt_94 : decode cX6_pairAt 94 = .ok (.iinc 6 1, 3) := by decide +kernel
theorem dX6_pairAt_97 : decode cX6_pairAt 97 = .ok (.goto (-57), 3) := by decide +kernel
theorem dX6_pairAt_100 : decode cX6_pairAt 100 = .ok (.iload 5, 2) := by decide +kernel
theorem dX6_pairAt_102 : decode cX6_pairAt 102 = .ok (.iload_n 1, 1) := by decide +kernel
theorem dX6_pairAt_103 : decode cX6_pairAt 103 = .ok (.if_icmp .ne 8, 3) := by decide +kernel
theorem dX6_pairAt_106 : decode cX6_pairAt 106 = .ok (.iload 4, 2) := by decide +kernel
theorem dX6_pairAt_108 : decode cX6_pairAt 108 = .ok (.goto 4, 3) := by decide +kernel
theorem dX6_pairAt_111 : decode cX6_pairAt 111 = .ok (.iload_n 3, 1) := by decide +kernel
theorem dX6_pairAt_112 : decode cX6_pairAt 112 = .ok (.istore_n 3, 1) := by decide +kernel
theorem dX6_pairAt_113 : decode cX6_pairAt 113 = .ok (.iinc 4 1, 3) := by decide +kernel
theorem dX6_pairAt_116 : decode cX6_pairAt 116 = .ok (.goto (-89), 3) := by decide +kernel
theorem dX6_pairAt_119 : decode cX6_pairAt 119 = .ok (.iload_n 2, 1) := by decide +kernel
theorem dX6_pairAt_120 : decode cX6_pairAt 120 = .ok (.ifCond .ne 7, 3) := by decide +kernel
theorem dX6_pairAt_123 : decode cX6_pairAt 123 = .ok (.iload_n 3, 1) := by decide +kernel
theorem dX6_pairAt_124 : decode cX6_pairAt 124 = .ok (.goto 8, 3) := by decide +kernel
theorem dX6_pairAt_127 : decode cX6_pairAt 127 = .ok (.aload_n 0, 1) := by decide +kernel
theorem dX6_pairAt_128 : decode cX6_pairAt 128 = .ok (.iload_n 3, 1) := by decide +kernel
theorem dX6_pairAt_129 : decode cX6_pairAt 129 = .ok (.invokevirtual 55, 3) := by decide +kernel
theorem dX6_pairAt_132 : decode cX6_pairAt 132 = .ok (.ireturn, 1) := by decide +kernel
theorem dX6_common0_0 : decode cX6_common0 0 = .ok (.iload_n 0, 1) := by decide +kernel
theorem dX6_common0_1 : decode cX6_common0 1 = .ok (.istore_n 2, 1) := by decide +kernel
theorem dX6_common0_2 : decode cX6_common0 2 = .ok (.iload_n 1, 1) := by decide +kernel
theorem dX6_common0_3 : decode cX6_common0 3 = .ok (.istore_n 3, 1) := by decide +kernel
theorem dX6_common0_4 : decode cX6_common0 4 = .ok (.iload_n 3, 1) := by decide +kernel
theorem dX6_common0_5 : decode cX6_common0 5 = .ok (.ifCond .le 16, 3) := by decide +kernel
theorem dX6_common0_8 : decode cX6_common0 8 = .ok (.iload_n 2, 1) := by decide +kernel
theorem dX6_common0_9 : decode cX6_common0 9 = .ok (.iload_n 3, 1) := by decide +kernel
theorem dX6_common0_10 : decode cX6_common0 10 = .ok (.irem, 1) := by decide +kernel
theorem dX6_common0_11 : decode cX6_common0 11 = .ok (.istore 4, 2) := by decide +kernel
theorem dX6_common0_13 : decode cX6_common0 13 = .ok (.iload_n 3, 1) := by decide +kernel
theorem dX6_common0_14 : decode cX6_common0 14 = .ok (.istore_n 2, 1) := by decide +kernel
theorem dX6_common0_15 : decode cX6_common0 15 = .ok (.iload 4, 2) := by decide +kernel
theorem dX6_common0_17 : decode cX6_common0 17 = .ok (.istore_n 3, 1) := by decide +kernel
theorem dX6_common0_18 : decode cX6_common0 18 = .ok (.goto (-14), 3) := by decide +kernel
theorem dX6_common0_21 : decode cX6_common0 21 = .ok (.iload_n 2, 1) := by decide +kernel
theorem dX6_common0_22 : decode cX6_common0 22 = .ok (.ireturn, 1) := by decide +kernel
theorem dX6_bias_0 : decode cX6_bias 0 = .ok (.iload_n 1, 1) := by decide +kernel
theorem dX6_bias_1 : decode cX6_bias 1 = .ok (.invokestatic 40, 3) := by decide +kernel
theorem dX6_bias_4 : decode cX6_bias 4 = .ok (.ifCond .eq 19, 3) := by decide +kernel
theorem dX6_bias_7 : decode cX6_bias 7 = .ok (.iload_n 2, 1) := by decide +kernel
theorem dX6_bias_8 : decode cX6_bias 8 = .ok (.invokestatic 40, 3) := by decide +kernel
theorem dX6_bias_11 : decode cX6_bias 11 = .ok (.ifCond .eq 12, 3) := by decide +kernel
theorem dX6_bias_14 : decode cX6_bias 14 = .ok (.iload_n 3, 1) := by decide +kernel
theorem dX6_bias_15 : decode cX6_bias 15 = .ok (.iconst 0, 1) := by decide +kernel
theorem dX6_bias_16 : decode cX6_bias 16 = .ok (.iconst 1, 1) := by decide +kernel
theorem dX6_bias_17 : decode cX6_bias 17 = .ok (.invokestatic 28, 3) := by decide +kernel
theorem dX6_bias_20 : decode cX6_bias 20 = .ok (.ifCond .ne 6, 3) := by decide +kernel
theorem dX6_bias_23 : decode cX6_bias 23 = .ok (.ldc 44, 2) := by decide +kernel
theorem dX6_bias_25 : decode cX6_bias 25 = .ok (.ireturn, 1) := by decide +kernel
theorem dX6_bias_26 : decode cX6_bias 26 = .ok (.aload_n 0, 1) := by decide +kernel
theorem dX6_bias_27 : decode cX6_bias 27 = .ok (.iload_n 1, 1) := by decide +kernel
theorem dX6_bias_28 : decode cX6_bias 28 = .ok (.invokevirtual 59, 3) := by decide +kernel
theorem dX6_bias_31 : decode cX6_bias 31 = .ok (.ifCond .eq 11, 3) := by decide +kernel
theorem dX6_bias_34 : decode cX6_bias 34 = .ok (.aload_n 0, 1) := by decide +kernel
theorem dX6_bias_35 : decode cX6_bias 35 = .ok (.iload_n 2, 1) := by decide +kernel
theorem dX6_bias_36 : decode cX6_bias 36 = .ok (.invokevirtual 59, 3) := by decide +kernel
theorem dX6_bias_39 : decode cX6_bias 39 = .ok (.ifCond .ne 6, 3) := by decide +kernel
theorem dX6_bias_42 : decode cX6_bias 42 = .ok (.ldc 50, 2) := by decide +kernel
theorem dX6_bias_44 : decode cX6_bias 44 = .ok (.ireturn, 1) := by decide +kernel
theorem dX6_bias_45 : decode cX6_bias 45 = .ok (.aload_n 0, 1) := by decide +kernel
theorem dX6_bias_46 : decode cX6_bias 46 = .ok (.iconst 4, 1) := by decide +kernel
theorem dX6_bias_47 : decode cX6_bias 47 = .ok (.iload_n 1, 1) := by decide +kernel
theorem dX6_bias_48 : decode cX6_bias 48 = .ok (.imul, 1) := by decide +kernel
theorem dX6_bias_49 : decode cX6_bias 49 = .ok (.iload_n 2, 1) := by decide +kernel
theorem dX6_bias_50 : decode cX6_bias 50 = .ok (.iadd, 1) := by decide +kernel
theorem dX6_bias_51 : decode cX6_bias 51 = .ok (.invokevirtual 55, 3) := by decide +kernel
theorem dX6_bias_54 : decode cX6_bias 54 = .ok (.aload_n 0, 1) := by decide +kernel
theorem dX6_bias_55 : decode cX6_bias 55 = .ok (.getfield 7, 3) := by decide +kernel
theorem dX6_bias_58 : decode cX6_bias 58 = .ok (.iconst 0, 1) := by decide +kernel
theorem dX6_bias_59 : decode cX6_bias 59 = .ok (.iaload, 1) := by decide +kernel
theorem dX6_bias_60 : decode cX6_bias 60 = .ok (.imul, 1) := by decide +kernel
theorem dX6_bias_61 : decode cX6_bias 61 = .ok (.istore 4, 2) := by decide +kernel
theorem dX6_bias_63 : decode cX6_bias 63 = .ok (.aload_n 0, 1) := by decide +kernel
theorem dX6_bias_64 : decode cX6_bias 64 = .ok (.iload_n 1, 1) := by decide +kernel
theorem dX6_bias_65 : decode cX6_bias 65 = .ok (.invokevirtual 59, 3) := by decide +kernel
theorem dX6_bias_68 : decode cX6_bias 68 = .ok (.aload_n 0, 1) := by decide +kernel
theorem dX6_bias_69 : decode cX6_bias 69 = .ok (.iload_n 2, 1) := by decide +kernel
theorem dX6_bias_70 : decode cX6_bias 70 = .ok (.invokevirtual 59, 3) := by decide +kernel
theorem dX6_bias_73 : decode cX6_bias 73 = .ok (.imul, 1) := by decide +kernel
theorem dX6_bias_74 : decode cX6_bias 74 = .ok (.istore 5, 2) := by decide +kernel
theorem dX6_bias_76 : decode cX6_bias 76 = .ok (.iload 5, 2) := by decide +kernel
theorem dX6_bias_78 : decode cX6_bias 78 = .ok (.iload 4, 2) := by decide +kernel
theorem dX6_bias_80 : decode cX6_bias 80 = .ok (.invokestatic 62, 3) := by decide +kernel
theorem dX6_bias_83 : decode cX6_bias 83 = .ok (.istore 6, 2) := by decide +kernel
theorem dX6_bias_85 : decode cX6_bias 85 = .ok (.iload_n 3, 1) := by decide +kernel
theorem dX6_bias_86 : decode cX6_bias 86 = .ok (.ifCond .ne 8, 3) := by decide +kernel
theorem dX6_bias_89 : decode cX6_bias 89 = .ok (.iload 4, 2) := by decide +kernel
theorem dX6_bias_91 : decode cX6_bias 91 = .ok (.goto 5, 3) := by decide +kernel
theorem dX6_bias_94 : decode cX6_bias 94 = .ok (.iload 5, 2) := by decide +kernel
theorem dX6_bias_96 : decode cX6_bias 96 = .ok (.iload 6, 2) := by decide +kernel
theorem dX6_bias_98 : decode cX6_bias 98 = .ok (.idiv, 1) := by decide +kernel
theorem dX6_bias_99 : decode cX6_bias 99 = .ok (.ireturn, 1) := by decide +kernel
theorem dX6_begin_0 : decode cX6_begin 0 = .ok (.iconst 0, 1) := by decide +kernel
theorem dX6_begin_1 : decode cX6_begin 1 = .ok (.istore_n 1, 1) := by decide +kernel
theorem dX6_begin_2 : decode cX6_begin 2 = .ok (.iconst 0, 1) := by decide +kernel
theorem dX6_begin_3 : decode cX6_begin 3 = .ok (.istore_n 2, 1) := by decide +kernel
theorem dX6_begin_4 : decode cX6_begin 4 = .ok (.iload_n 2, 1) := by decide +kernel
theorem dX6_begin_5 : decode cX6_begin 5 = .ok (.iconst 4, 1) := by decide +kernel
theorem dX6_begin_6 : decode cX6_begin 6 = .ok (.if_icmp .ge 36, 3) := by decide +kernel
theorem dX6_begin_9 : decode cX6_begin 9 = .ok (.iconst 0, 1) := by decide +kernel
theorem dX6_begin_10 : decode cX6_begin 10 = .ok (.istore_n 3, 1) := by decide +kernel
theorem dX6_begin_11 : decode cX6_begin 11 = .ok (.iload_n 3, 1) := by decide +kernel
theorem dX6_begin_12 : decode cX6_begin 12 = .ok (.aload_n 0, 1) := by decide +kernel
theorem dX6_begin_13 : decode cX6_begin 13 = .ok (.iload_n 2, 1) := by decide +kernel
theorem dX6_begin_14 : decode cX6_begin 14 = .ok (.invokevirtual 59, 3) := by decide +kernel
theorem dX6_begin_17 : decode cX6_begin 17 = .ok (.if_icmp .ge 19, 3) := by decide +kernel
theorem dX6_begin_20 : decode cX6_begin 20 = .ok (.aload_n 0, 1) := by decide +kernel
theorem dX6_begin_21 : decode cX6_begin 21 = .ok (.getfield 22, 3) := by decide +kernel
theorem dX6_begin_24 : decode cX6_begin 24 = .ok (.iload_n 1, 1) := by decide +kernel
theorem dX6_begin_25 : decode cX6_begin 25 = .ok (.iload_n 2, 1) := by decide +kernel
theorem dX6_begin_26 : decode cX6_begin 26 = .ok (.iastore, 1) := by decide +kernel
theorem dX6_begin_27 : decode cX6_begin 27 = .ok (.iinc 1 1, 3) := by decide +kernel
theorem dX6_begin_30 : decode cX6_begin 30 = .ok (.iinc 3 1, 3) := by decide +kernel
theorem dX6_begin_33 : decode cX6_begin 33 = .ok (.goto (-22), 3) := by decide +kernel
theorem dX6_begin_36 : decode cX6_begin 36 = .ok (.iinc 2 1, 3) := by decide +kernel
theorem dX6_begin_39 : decode cX6_begin 39 = .ok (.goto (-35), 3) := by decide +kernel
theorem dX6_begin_42 : decode cX6_begin 42 = .ok (.iconst 0, 1) := by decide +kernel
theorem dX6_begin_43 : decode cX6_begin 43 = .ok (.istore_n 2, 1) := by decide +kernel
theorem dX6_begin_44 : decode cX6_begin 44 = .ok (.iload_n 2, 1) := by decide +kernel
theorem dX6_begin_45 : decode cX6_begin 45 = .ok (.bipush 16, 2) := by decide +kernel
theorem dX6_begin_47 : decode cX6_begin 47 = .ok (.if_icmp .ge 20, 3) := by decide +kernel
theorem dX6_begin_50 : decode cX6_begin 50 = .ok (.aload_n 0, 1) := by decide +kernel
theorem dX6_begin_51 : decode cX6_begin 51 = .ok (.getfield 25, 3) := by decide +kernel
theorem dX6_begin_54 : decode cX6_begin 54 = .ok (.iload_n 2, 1) := by decide +kernel
theorem dX6_begin_55 : decode cX6_begin 55 = .ok (.aload_n 0, 1) := by decide +kernel
theorem dX6_begin_56 : decode cX6_begin 56 = .ok (.iload_n 2, 1) := by decide +kernel
theorem dX6_begin_57 : decode cX6_begin 57 = .ok (.invokevirtual 55, 3) := by decide +kernel
theorem dX6_begin_60 : decode cX6_begin 60 = .ok (.iastore, 1) := by decide +kernel
theorem dX6_begin_61 : decode cX6_begin 61 = .ok (.iinc 2 1, 3) := by decide +kernel
theorem dX6_begin_64 : decode cX6_begin 64 = .ok (.goto (-20), 3) := by decide +kernel
theorem dX6_begin_67 : decode cX6_begin 67 = .ok (.return_, 1) := by decide +kernel
theorem dX6_goes_0 : decode cX6_goes 0 = .ok (.aload_n 0, 1) := by decide +kernel
theorem dX6_goes_1 : decode cX6_goes 1 = .ok (.getfield 7, 3) := by decide +kernel
theorem dX6_goes_4 : decode cX6_goes 4 = .ok (.iconst 0, 1) := by decide +kernel
theorem dX6_goes_5 : decode cX6_goes 5 = .ok (.iaload, 1) := by decide +kernel
theorem dX6_goes_6 : decode cX6_goes 6 = .ok (.istore_n 1, 1) := by decide +kernel
theorem dX6_goes_7 : decode cX6_goes 7 = .ok (.iload_n 1, 1) := by decide +kernel
theorem dX6_goes_8 : decode cX6_goes 8 = .ok (.iconst 2, 1) := by decide +kernel
theorem dX6_goes_9 : decode cX6_goes 9 = .ok (.isub, 1) := by decide +kernel
theorem dX6_goes_10 : decode cX6_goes 10 = .ok (.istore_n 2, 1) := by decide +kernel
theorem dX6_goes_11 : decode cX6_goes 11 = .ok (.iload_n 2, 1) := by decide +kernel
theorem dX6_goes_12 : decode cX6_goes 12 = .ok (.ifCond .lt 26, 3) := by decide +kernel
theorem dX6_goes_15 : decode cX6_goes 15 = .ok (.aload_n 0, 1) := by decide +kernel
theorem dX6_goes_16 : decode cX6_goes 16 = .ok (.getfield 22, 3) := by decide +kernel
theorem dX6_goes_19 : decode cX6_goes 19 = .ok (.iload_n 2, 1) := by decide +kernel
theorem dX6_goes_20 : decode cX6_goes 20 = .ok (.iaload, 1) := by decide +kernel
theorem dX6_goes_21 : decode cX6_goes 21 = .ok (.aload_n 0, 1) := by decide +kernel
theorem dX6_goes_22 : decode cX6_goes 22 = .ok (.getfield 22, 3) := by decide +kernel
theorem dX6_goes_25 : decode cX6_goes 25 = .ok (.iload_n 2, 1) := by decide +kernel
theorem dX6_goes_26 : decode cX6_goes 26 = .ok (.iconst 1, 1) := by decide +kernel
theorem dX6_goes_27 : decode cX6_goes 27 = .ok (.iadd, 1) := by decide +kernel
theorem dX6_goes_28 : decode cX6_goes 28 = .ok (.iaload, 1) := by decide +kernel
theorem dX6_goes_29 : decode cX6_goes 29 = .ok (.if_icmp .lt 9, 3) := by decide +kernel
theorem dX6_goes_32 : decode cX6_goes 32 = .ok (.iinc 2 (-1), 3) := by decide +kernel
theorem dX6_goes_35 : decode cX6_goes 35 = .ok (.goto (-24), 3) := by decide +kernel
theorem dX6_goes_38 : decode cX6_goes 38 = .ok (.iload_n 2, 1) := by decide +kernel
theorem dX6_goes_39 : decode cX6_goes 39 = .ok (.ifCond .ge 5, 3) := by decide +kernel
theorem dX6_goes_42 : decode cX6_goes 42 = .ok (.iconst 0, 1) := by decide +kernel
theorem dX6_goes_43 : decode cX6_goes 43 = .ok (.ireturn, 1) := by decide +kernel
theorem dX6_goes_44 : decode cX6_goes 44 = .ok (.iload_n 1, 1) := by decide +kernel
theorem dX6_goes_45 : decode cX6_goes 45 = .ok (.iconst 1, 1) := by decide +kernel
theorem dX6_goes_46 : decode cX6_goes 46 = .ok (.isub, 1) := by decide +kernel
theorem dX6_goes_47 : decode cX6_goes 47 = .ok (.istore_n 3, 1) := by decide +kernel
theorem dX6_goes_48 : decode cX6_goes 48 = .ok (.aload_n 0, 1) := by decide +kernel
theorem dX6_goes_49 : decode cX6_goes 49 = .ok (.getfield 22, 3) := by decide +kernel
theorem dX6_goes_52 : decode cX6_goes 52 = .ok (.iload_n 3, 1) := by decide +kernel
theorem dX6_goes_53 : decode cX6_goes 53 = .ok (.iaload, 1) := by decide +kernel
theorem dX6_goes_54 : decode cX6_goes 54 = .ok (.aload_n 0, 1) := by decide +kernel
theorem dX6_goes_55 : decode cX6_goes 55 = .ok (.getfield 22, 3) := by decide +kernel
theorem dX6_goes_58 : decode cX6_goes 58 = .ok (.iload_n 2, 1) := by decide +kernel
theorem dX6_goes_59 : decode cX6_goes 59 = .ok (.iaload, 1) := by decide +kernel
theorem dX6_goes_60 : decode cX6_goes 60 = .ok (.if_icmp .gt 9, 3) := by decide +kernel
theorem dX6_goes_63 : decode cX6_goes 63 = .ok (.iinc 3 (-1), 3) := by decide +kernel
theorem dX6_goes_66 : decode cX6_goes 66 = .ok (.goto (-18), 3) := by decide +kernel
theorem dX6_goes_69 : decode cX6_goes 69 = .ok (.aload_n 0, 1) := by decide +kernel
theorem dX6_goes_70 : decode cX6_goes 70 = .ok (.iload_n 2, 1) := by decide +kernel
theorem dX6_goes_71 : decode cX6_goes 71 = .ok (.iload_n 3, 1) := by decide +kernel
theorem dX6_goes_72 : decode cX6_goes 72 = .ok (.invokevirtual 66, 3) := by decide +kernel
theorem dX6_goes_75 : decode cX6_goes 75 = .ok (.iload_n 2, 1) := by decide +kernel
theorem dX6_goes_76 : decode cX6_goes 76 = .ok (.iconst 1, 1) := by decide +kernel
theorem dX6_goes_77 : decode cX6_goes 77 = .ok (.iadd, 1) := by decide +kernel
theorem dX6_goes_78 : decode cX6_goes 78 = .ok (.istore 4, 2) := by decide +kernel
theorem dX6_goes_80 : decode cX6_goes 80 = .ok (.iload_n 1, 1) := by decide +kernel
theorem dX6_goes_81 : decode cX6_goes 81 = .ok (.iconst 1, 1) := by decide +kernel
theorem dX6_goes_82 : decode cX6_goes 82 = .ok (.isub, 1) := by decide +kernel
theorem dX6_goes_83 : decode cX6_goes 83 = .ok (.istore 5, 2) := by decide +kernel
theorem dX6_goes_85 : decode cX6_goes 85 = .ok (.iload 4, 2) := by decide +kernel
theorem dX6_goes_87 : decode cX6_goes 87 = .ok (.iload 5, 2) := by decide +kernel
theorem dX6_goes_89 : decode cX6_goes 89 = .ok (.if_icmp .ge 20, 3) := by decide +kernel
theorem dX6_goes_92 : decode cX6_goes 92 = .ok (.aload_n 0, 1) := by decide +kernel
theorem dX6_goes_93 : decode cX6_goes 93 = .ok (.iload 4, 2) := by decide +kernel
theorem dX6_goes_95 : decode cX6_goes 95 = .ok (.iload 5, 2) := by decide +kernel
theorem dX6_goes_97 : decode cX6_goes 97 = .ok (.invokevirtual 66, 3) := by decide +kernel
theorem dX6_goes_100 : decode cX6_goes 100 = .ok (.iinc 4 1, 3) := by decide +kernel
theorem dX6_goes_103 : decode cX6_goes 103 = .ok (.iinc 5 (-1), 3) := by decide +kernel
theorem dX6_goes_106 : decode cX6_goes 106 = .ok (.goto (-21), 3) := by decide +kernel
theorem dX6_goes_109 : decode cX6_goes 109 = .ok (.iconst 1, 1) := by decide +kernel
theorem dX6_goes_110 : decode cX6_goes 110 = .ok (.ireturn, 1) := by decide +kernel
theorem dX6_swaps_0 : decode cX6_swaps 0 = .ok (.aload_n 0, 1) := by decide +kernel
theorem dX6_swaps_1 : decode cX6_swaps 1 = .ok (.getfield 22, 3) := by decide +kernel
theorem dX6_swaps_4 : decode cX6_swaps 4 = .ok (.iload_n 1, 1) := by decide +kernel
theorem dX6_swaps_5 : decode cX6_swaps 5 = .ok (.iaload, 1) := by decide +kernel
theorem dX6_swaps_6 : decode cX6_swaps 6 = .ok (.istore_n 3, 1) := by decide +kernel
theorem dX6_swaps_7 : decode cX6_swaps 7 = .ok (.aload_n 0, 1) := by decide +kernel
theorem dX6_swaps_8 : decode cX6_swaps 8 = .ok (.getfield 22, 3) := by decide +kernel
theorem dX6_swaps_11 : decode cX6_swaps 11 = .ok (.iload_n 1, 1) := by decide +kernel
theorem dX6_swaps_12 : decode cX6_swaps 12 = .ok (.aload_n 0, 1) := by decide +kernel
theorem dX6_swaps_13 : decode cX6_swaps 13 = .ok (.getfield 22, 3) := by decide +kernel
theorem dX6_swaps_16 : decode cX6_swaps 16 = .ok (.iload_n 2, 1) := by decide +kernel
theorem dX6_swaps_17 : decode cX6_swaps 17 = .ok (.iaload, 1) := by decide +kernel
theorem dX6_swaps_18 : decode cX6_swaps 18 = .ok (.iastore, 1) := by decide +kernel
theorem dX6_swaps_19 : decode cX6_swaps 19 = .ok (.aload_n 0, 1) := by decide +kernel
theorem dX6_swaps_20 : decode cX6_swaps 20 = .ok (.getfield 22, 3) := by decide +kernel
theorem dX6_swaps_23 : decode cX6_swaps 23 = .ok (.iload_n 2, 1) := by decide +kernel
theorem dX6_swaps_24 : decode cX6_swaps 24 = .ok (.iload_n 3, 1) := by decide +kernel
theorem dX6_swaps_25 : decode cX6_swaps 25 = .ok (.iastore, 1) := by decide +kernel
theorem dX6_swaps_26 : decode cX6_swaps 26 = .ok (.return_, 1) := by decide +kernel
theorem dX6_keepsPairs_0 : decode cX6_keepsPairs 0 = .ok (.iconst 1, 1) := by decide +kernel
theorem dX6_keepsPairs_1 : decode cX6_keepsPairs 1 = .ok (.istore_n 1, 1) := by decide +kernel
theorem dX6_keepsPairs_2 : decode cX6_keepsPairs 2 = .ok (.iconst 0, 1) := by decide +kernel
theorem dX6_keepsPairs_3 : decode cX6_keepsPairs 3 = .ok (.istore_n 2, 1) := by decide +kernel
theorem dX6_keepsPairs_4 : decode cX6_keepsPairs 4 = .ok (.iload_n 2, 1) := by decide +kernel
theorem dX6_keepsPairs_5 : decode cX6_keepsPairs 5 = .ok (.bipush 16, 2) := by decide +kernel
theorem dX6_keepsPairs_7 : decode cX6_keepsPairs 7 = .ok (.if_icmp .ge 43, 3) := by decide +kernel
theorem dX6_keepsPairs_10 : decode cX6_keepsPairs 10 = .ok (.iload_n 1, 1) := by decide +kernel
theorem dX6_keepsPairs_11 : decode cX6_keepsPairs 11 = .ok (.ifCond .eq 39, 3) := by decide +kernel
theorem dX6_keepsPairs_14 : decode cX6_keepsPairs 14 = .ok (.aload_n 0, 1) := by decide +kernel
theorem dX6_keepsPairs_15 : decode cX6_keepsPairs 15 = .ok (.getfield 22, 3) := by decide +kernel
theorem dX6_keepsPairs_18 : decode cX6_keepsPairs 18 = .ok (.iconst 0, 1) := by decide +kernel
theorem dX6_keepsPairs_19 : decode cX6_keepsPairs 19 = .ok (.aload_n 0, 1) := by decide +kernel
theorem dX6_keepsPairs_20 : decode cX6_keepsPairs 20 = .ok (.getfield 7, 3) := by decide +kernel
theorem dX6_keepsPairs_23 : decode cX6_keepsPairs 23 = .ok (.iconst 0, 1) := by decide +kernel
theorem dX6_keepsPairs_24 : decode cX6_keepsPairs 24 = .ok (.iaload, 1) := by decide +kernel
theorem dX6_keepsPairs_25 : decode cX6_keepsPairs 25 = .ok (.iload_n 2, 1) := by decide +kernel
theorem dX6_keepsPairs_26 : decode cX6_keepsPairs 26 = .ok (.invokestatic 51, 3) := by decide +kernel
theorem dX6_keepsPairs_29 : decode cX6_keepsPairs 29 = .ok (.aload_n 0, 1) := by decide +kernel
theorem dX6_keepsPairs_30 : decode cX6_keepsPairs 30 = .ok (.getfield 25, 3) := by decide +kernel
theorem dX6_keepsPairs_33 : decode cX6_keepsPairs 33 = .ok (.iload_n 2, 1) := by decide +kernel
theorem dX6_keepsPairs_34 : decode cX6_keepsPairs 34 = .ok (.iaload, 1) := by decide +kernel
theorem dX6_keepsPairs_35 : decode cX6_keepsPairs 35 = .ok (.if_icmp .ne 7, 3) := by decide +kernel
theorem dX6_keepsPairs_38 : decode cX6_keepsPairs 38 = .ok (.iconst 1, 1) := by decide +kernel
theorem dX6_keepsPairs_39 : decode cX6_keepsPairs 39 = .ok (.goto 4, 3) := by decide +kernel
theorem dX6_keepsPairs_42 : decode cX6_keepsPairs 42 = .ok (.iconst 0, 1) := by decide +kernel
theorem dX6_keepsPairs_43 : decode cX6_keepsPairs 43 = .ok (.istore_n 1, 1) := by decide +kernel
theorem dX6_keepsPairs_44 : decode cX6_keepsPairs 44 = .ok (.iinc 2 1, 3) := by decide +kernel
theorem dX6_keepsPairs_47 : decode cX6_keepsPairs 47 = .ok (.goto (-43), 3) := by decide +kernel
theorem dX6_keepsPairs_50 : decode cX6_keepsPairs 50 = .ok (.iload_n 1, 1) := by decide +kernel
theorem dX6_keepsPairs_51 : decode cX6_keepsPairs 51 = .ok (.ireturn, 1) := by decide +kernel
theorem dX6_codeAt_0 : decode cX6_codeAt 0 = .ok (.aload_n 0, 1) := by decide +kernel
theorem dX6_codeAt_1 : decode cX6_codeAt 1 = .ok (.getfield 7, 3) := by decide +kernel
theorem dX6_codeAt_4 : decode cX6_codeAt 4 = .ok (.bipush 11, 2) := by decide +kernel
theorem dX6_codeAt_6 : decode cX6_codeAt 6 = .ok (.iconst 4, 1) := by decide +kernel
theorem dX6_codeAt_7 : decode cX6_codeAt 7 = .ok (.aload_n 1, 1) := by decide +kernel
theorem dX6_codeAt_8 : decode cX6_codeAt 8 = .ok (.iload_n 2, 1) := by decide +kernel
theorem dX6_codeAt_9 : decode cX6_codeAt 9 = .ok (.iconst 2, 1) := by decide +kernel
theorem dX6_codeAt_10 : decode cX6_codeAt 10 = .ok (.iload_n 3, 1) := by decide +kernel
theorem dX6_codeAt_11 : decode cX6_codeAt 11 = .ok (.imul, 1) := by decide +kernel
theorem dX6_codeAt_12 : decode cX6_codeAt 12 = .ok (.iadd, 1) := by decide +kernel
theorem dX6_codeAt_13 : decode cX6_codeAt 13 = .ok (.iaload, 1) := by decide +kernel
theorem dX6_codeAt_14 : decode cX6_codeAt 14 = .ok (.imul, 1) := by decide +kernel
theorem dX6_codeAt_15 : decode cX6_codeAt 15 = .ok (.iadd, 1) := by decide +kernel
theorem dX6_codeAt_16 : decode cX6_codeAt 16 = .ok (.aload_n 1, 1) := by decide +kernel
theorem dX6_codeAt_17 : decode cX6_codeAt 17 = .ok (.iload_n 2, 1) := by decide +kernel
theorem dX6_codeAt_18 : decode cX6_codeAt 18 = .ok (.iconst 2, 1) := by decide +kernel
theorem dX6_codeAt_19 : decode cX6_codeAt 19 = .ok (.iload_n 3, 1) := by decide +kernel
theorem dX6_codeAt_20 : decode cX6_codeAt 20 = .ok (.imul, 1) := by decide +kernel
theorem dX6_codeAt_21 : decode cX6_codeAt 21 = .ok (.iadd, 1) := by decide +kernel
theorem dX6_codeAt_22 : decode cX6_codeAt 22 = .ok (.iconst 1, 1) := by decide +kernel
theorem dX6_codeAt_23 : decode cX6_codeAt 23 = .ok (.iadd, 1) := by decide +kernel
theorem dX6_codeAt_24 : decode cX6_codeAt 24 = .ok (.iaload, 1) := by decide +kernel
theorem dX6_codeAt_25 : decode cX6_codeAt 25 = .ok (.iadd, 1) := by decide +kernel
theorem dX6_codeAt_26 : decode cX6_codeAt 26 = .ok (.iaload, 1) := by decide +kernel
theorem dX6_codeAt_27 : decode cX6_codeAt 27 = .ok (.ireturn, 1) := by decide +kernel
theorem dX6_keepsCodes_0 : decode cX6_keepsCodes 0 = .ok (.iconst 1, 1) := by decide +kernel
theorem dX6_keepsCodes_1 : decode cX6_keepsCodes 1 = .ok (.istore_n 1, 1) := by decide +kernel
theorem dX6_keepsCodes_2 : decode cX6_keepsCodes 2 = .ok (.iconst 0, 1) := by decide +kernel
theorem dX6_keepsCodes_3 : decode cX6_keepsCodes 3 = .ok (.istore_n 2, 1) := by decide +kernel
theorem dX6_keepsCodes_4 : decode cX6_keepsCodes 4 = .ok (.iload_n 2, 1) := by decide +kernel
theorem dX6_keepsCodes_5 : decode cX6_keepsCodes 5 = .ok (.aload_n 0, 1) := by decide +kernel
theorem dX6_keepsCodes_6 : decode cX6_keepsCodes 6 = .ok (.getfield 7, 3) := by decide +kernel
theorem dX6_keepsCodes_9 : decode cX6_keepsCodes 9 = .ok (.iconst 0, 1) := by decide +kernel
theorem dX6_keepsCodes_10 : decode cX6_keepsCodes 10 = .ok (.iaload, 1) := by decide +kernel
theorem dX6_keepsCodes_11 : decode cX6_keepsCodes 11 = .ok (.iconst 2, 1) := by decide +kernel
theorem dX6_keepsCodes_12 : decode cX6_keepsCodes 12 = .ok (.idiv, 1) := by decide +kernel
theorem dX6_keepsCodes_13 : decode cX6_keepsCodes 13 = .ok (.if_icmp .ge 42, 3) := by decide +kernel
theorem dX6_keepsCodes_16 : decode cX6_keepsCodes 16 = .ok (.iload_n 1, 1) := by decide +kernel
theorem dX6_keepsCodes_17 : decode cX6_keepsCodes 17 = .ok (.ifCond .eq 38, 3) := by decide +kernel
theorem dX6_keepsCodes_20 : decode cX6_keepsCodes 20 = .ok (.aload_n 0, 1) := by decide +kernel
theorem dX6_keepsCodes_21 : decode cX6_keepsCodes 21 = .ok (.aload_n 0, 1) := by decide +kernel
theorem dX6_keepsCodes_22 : decode cX6_keepsCodes 22 = .ok (.getfield 22, 3) := by decide +kernel
theorem dX6_keepsCodes_25 : decode cX6_keepsCodes 25 = .ok (.iconst 0, 1) := by decide +kernel
theorem dX6_keepsCodes_26 : decode cX6_keepsCodes 26 = .ok (.iload_n 2, 1) := by decide +kernel
theorem dX6_keepsCodes_27 : decode cX6_keepsCodes 27 = .ok (.invokevirtual 70, 3) := by decide +kernel
theorem dX6_keepsCodes_30 : decode cX6_keepsCodes 30 = .ok (.aload_n 0, 1) := by decide +kernel
theorem dX6_keepsCodes_31 : decode cX6_keepsCodes 31 = .ok (.aload_n 0, 1) := by decide +kernel
theorem dX6_keepsCodes_32 : decode cX6_keepsCodes 32 = .ok (.getfield 7, 3) := by decide +kernel
theorem dX6_keepsCodes_35 : decode cX6_keepsCodes 35 = .ok (.iconst 1, 1) := by decide +kernel
theorem dX6_keepsCodes_36 : decode cX6_keepsCodes 36 = .ok (.iload_n 2, 1) := by decide +kernel
theorem dX6_keepsCodes_37 : decode cX6_keepsCodes 37 = .ok (.invokevirtual 70, 3) := by decide +kernel
theorem dX6_keepsCodes_40 : decode cX6_keepsCodes 40 = .ok (.if_icmp .ne 7, 3) := by decide +kernel
theorem dX6_keepsCodes_43 : decode cX6_keepsCodes 43 = .ok (.iconst 1, 1) := by decide +kernel
theorem dX6_keepsCodes_44 : decode cX6_keepsCodes 44 = .ok (.goto 4, 3) := by decide +kernel
theorem dX6_keepsCodes_47 : decode cX6_keepsCodes 47 = .ok (.iconst 0, 1) := by decide +kernel
theorem dX6_keepsCodes_48 : decode cX6_keepsCodes 48 = .ok (.istore_n 1, 1) := by decide +kernel
theorem dX6_keepsCodes_49 : decode cX6_keepsCodes 49 = .ok (.iinc 2 1, 3) := by decide +kernel
theorem dX6_keepsCodes_52 : decode cX6_keepsCodes 52 = .ok (.goto (-48), 3) := by decide +kernel
theorem dX6_keepsCodes_55 : decode cX6_keepsCodes 55 = .ok (.iload_n 1, 1) := by decide +kernel
theorem dX6_keepsCodes_56 : decode cX6_keepsCodes 56 = .ok (.ireturn, 1) := by decide +kernel
theorem dX6_isOne_0 : decode cX6_isOne 0 = .ok (.iload_n 1, 1) := by decide +kernel
theorem dX6_isOne_1 : decode cX6_isOne 1 = .ok (.ifCond .ne 5, 3) := by decide +kernel
theorem dX6_isOne_4 : decode cX6_isOne 4 = .ok (.iconst 1, 1) := by decide +kernel
theorem dX6_isOne_5 : decode cX6_isOne 5 = .ok (.ireturn, 1) := by decide +kernel
theorem dX6_isOne_6 : decode cX6_isOne 6 = .ok (.iload_n 1, 1) := by decide +kernel
theorem dX6_isOne_7 : decode cX6_isOne 7 = .ok (.iconst 3, 1) := by decide +kernel
theorem dX6_isOne_8 : decode cX6_isOne 8 = .ok (.if_icmp .ne 8, 3) := by decide +kernel
theorem dX6_isOne_11 : decode cX6_isOne 11 = .ok (.aload_n 0, 1) := by decide +kernel
theorem dX6_isOne_12 : decode cX6_isOne 12 = .ok (.invokevirtual 74, 3) := by decide +kernel
theorem dX6_isOne_15 : decode cX6_isOne 15 = .ok (.ireturn, 1) := by decide +kernel
theorem dX6_isOne_16 : decode cX6_isOne 16 = .ok (.iload_n 1, 1) := by decide +kernel
theorem dX6_isOne_17 : decode cX6_isOne 17 = .ok (.iconst 1, 1) := by decide +kernel
theorem dX6_isOne_18 : decode cX6_isOne 18 = .ok (.if_icmp .eq 27, 3) := by decide +kernel
theorem dX6_isOne_21 : decode cX6_isOne 21 = .ok (.aload_n 0, 1) := by decide +kernel
theorem dX6_isOne_22 : decode cX6_isOne 22 = .ok (.getfield 7, 3) := by decide +kernel
theorem dX6_isOne_25 : decode cX6_isOne 25 = .ok (.iconst 0, 1) := by decide +kernel
theorem dX6_isOne_26 : decode cX6_isOne 26 = .ok (.iaload, 1) := by decide +kernel
theorem dX6_isOne_27 : decode cX6_isOne 27 = .ok (.ifCond .eq 18, 3) := by decide +kernel
theorem dX6_isOne_30 : decode cX6_isOne 30 = .ok (.aload_n 0, 1) := by decide +kernel
theorem dX6_isOne_31 : decode cX6_isOne 31 = .ok (.getfield 22, 3) := by decide +kernel
theorem dX6_isOne_34 : decode cX6_isOne 34 = .ok (.iconst 0, 1) := by decide +kernel
theorem dX6_isOne_35 : decode cX6_isOne 35 = .ok (.iaload, 1) := by decide +kernel
theorem dX6_isOne_36 : decode cX6_isOne 36 = .ok (.aload_n 0, 1) := by decide +kernel
theorem dX6_isOne_37 : decode cX6_isOne 37 = .ok (.getfield 7, 3) := by decide +kernel
theorem dX6_isOne_40 : decode cX6_isOne 40 = .ok (.iconst 1, 1) := by decide +kernel
theorem dX6_isOne_41 : decode cX6_isOne 41 = .ok (.iaload, 1) := by decide +kernel
theorem dX6_isOne_42 : decode cX6_isOne 42 = .ok (.if_icmp .ne 14, 3) := by decide +kernel
theorem dX6_isOne_45 : decode cX6_isOne 45 = .ok (.aload_n 0, 1) := by decide +kernel
theorem dX6_isOne_46 : decode cX6_isOne 46 = .ok (.invokevirtual 78, 3) := by decide +kernel
theorem dX6_isOne_49 : decode cX6_isOne 49 = .ok (.ifCond .eq 7, 3) := by decide +kernel
theorem dX6_isOne_52 : decode cX6_isOne 52 = .ok (.iconst 1, 1) := by decide +kernel
theorem dX6_isOne_53 : decode cX6_isOne 53 = .ok (.goto 4, 3) := by decide +kernel
theorem dX6_isOne_56 : decode cX6_isOne 56 = .ok (.iconst 0, 1) := by decide +kernel
theorem dX6_isOne_57 : decode cX6_isOne 57 = .ok (.ireturn, 1) := by decide +kernel
theorem dX6_same_0 : decode cX6_same 0 = .ok (.iconst 0, 1) := by decide +kernel
theorem dX6_same_1 : decode cX6_same 1 = .ok (.istore_n 1, 1) := by decide +kernel
theorem dX6_same_2 : decode cX6_same 2 = .ok (.iconst 0, 1) := by decide +kernel
theorem dX6_same_3 : decode cX6_same 3 = .ok (.istore_n 2, 1) := by decide +kernel
theorem dX6_same_4 : decode cX6_same 4 = .ok (.iload_n 2, 1) := by decide +kernel
theorem dX6_same_5 : decode cX6_same 5 = .ok (.aload_n 0, 1) := by decide +kernel
theorem dX6_same_6 : decode cX6_same 6 = .ok (.getfield 7, 3) := by decide +kernel
theorem dX6_same_9 : decode cX6_same 9 = .ok (.iconst 0, 1) := by decide +kernel
theorem dX6_same_10 : decode cX6_same 10 = .ok (.iaload, 1) := by decide +kernel
theorem dX6_same_11 : decode cX6_same 11 = .ok (.if_icmp .ge 34, 3) := by decide +kernel
theorem dX6_same_14 : decode cX6_same 14 = .ok (.iload_n 1, 1) := by decide +kernel
theorem dX6_same_15 : decode cX6_same 15 = .ok (.aload_n 0, 1) := by decide +kernel
theorem dX6_same_16 : decode cX6_same 16 = .ok (.getfield 22, 3) := by decide +kernel
theorem dX6_same_19 : decode cX6_same 19 = .ok (.iload_n 2, 1) := by decide +kernel
theorem dX6_same_20 : decode cX6_same 20 = .ok (.iaload, 1) := by decide +kernel
theorem dX6_same_21 : decode cX6_same 21 = .ok (.aload_n 0, 1) := by decide +kernel
theorem dX6_same_22 : decode cX6_same 22 = .ok (.getfield 7, 3) := by decide +kernel
theorem dX6_same_25 : decode cX6_same 25 = .ok (.iconst 1, 1) := by decide +kernel
theorem dX6_same_26 : decode cX6_same 26 = .ok (.iload_n 2, 1) := by decide +kernel
theorem dX6_same_27 : decode cX6_same 27 = .ok (.iadd, 1) := by decide +kernel
theorem dX6_same_28 : decode cX6_same 28 = .ok (.iaload, 1) := by decide +kernel
theorem dX6_same_29 : decode cX6_same 29 = .ok (.if_icmp .ne 7, 3) := by decide +kernel
theorem dX6_same_32 : decode cX6_same 32 = .ok (.iconst 1, 1) := by decide +kernel
theorem dX6_same_33 : decode cX6_same 33 = .ok (.goto 4, 3) := by decide +kernel
theorem dX6_same_36 : decode cX6_same 36 = .ok (.iconst 0, 1) := by decide +kernel
theorem dX6_same_37 : decode cX6_same 37 = .ok (.iadd, 1) := by decide +kernel
theorem dX6_same_38 : decode cX6_same 38 = .ok (.istore_n 1, 1) := by decide +kernel
theorem dX6_same_39 : decode cX6_same 39 = .ok (.iinc 2 1, 3) := by decide +kernel
theorem dX6_same_42 : decode cX6_same 42 = .ok (.goto (-38), 3) := by decide +kernel
theorem dX6_same_45 : decode cX6_same 45 = .ok (.iload_n 1, 1) := by decide +kernel
theorem dX6_same_46 : decode cX6_same 46 = .ok (.ireturn, 1) := by decide +kernel
theorem dX6_shuffles_0 : decode cX6_shuffles 0 = .ok (.iload_n 1, 1) := by decide +kernel
theorem dX6_shuffles_1 : decode cX6_shuffles 1 = .ok (.invokestatic 40, 3) := by decide +kernel
theorem dX6_shuffles_4 : decode cX6_shuffles 4 = .ok (.ifCond .ne 6, 3) := by decide +kernel
theorem dX6_shuffles_7 : decode cX6_shuffles 7 = .ok (.ldc 44, 2) := by decide +kernel
theorem dX6_shuffles_9 : decode cX6_shuffles 9 = .ok (.ireturn, 1) := by decide +kernel
theorem dX6_shuffles_10 : decode cX6_shuffles 10 = .ok (.iconst 0, 1) := by decide +kernel
theorem dX6_shuffles_11 : decode cX6_shuffles 11 = .ok (.istore_n 2, 1) := by decide +kernel
theorem dX6_shuffles_12 : decode cX6_shuffles 12 = .ok (.aload_n 0, 1) := by decide +kernel
theorem dX6_shuffles_13 : decode cX6_shuffles 13 = .ok (.invokevirtual 81, 3) := by decide +kernel
theorem dX6_shuffles_16 : decode cX6_shuffles 16 = .ok (.iconst 1, 1) := by decide +kernel
theorem dX6_shuffles_17 : decode cX6_shuffles 17 = .ok (.istore_n 3, 1) := by decide +kernel
theorem dX6_shuffles_18 : decode cX6_shuffles 18 = .ok (.iload_n 3, 1) := by decide +kernel
theorem dX6_shuffles_19 : decode cX6_shuffles 19 = .ok (.ifCond .eq 27, 3) := by decide +kernel
theorem dX6_shuffles_22 : decode cX6_shuffles 22 = .ok (.iload_n 2, 1) := by decide +kernel
theorem dX6_shuffles_23 : decode cX6_shuffles 23 = .ok (.aload_n 0, 1) := by decide +kernel
theorem dX6_shuffles_24 : decode cX6_shuffles 24 = .ok (.iload_n 1, 1) := by decide +kernel
theorem dX6_shuffles_25 : decode cX6_shuffles 25 = .ok (.invokevirtual 84, 3) := by decide +kernel
theorem dX6_shuffles_28 : decode cX6_shuffles 28 = .ok (.ifCond .eq 7, 3) := by decide +kernel
theorem dX6_shuffles_31 : decode cX6_shuffles 31 = .ok (.iconst 1, 1) := by decide +kernel
theorem dX6_shuffles_32 : decode cX6_shuffles 32 = .ok (.goto 4, 3) := by decide +kernel
theorem dX6_shuffles_35 : decode cX6_shuffles 35 = .ok (.iconst 0, 1) := by decide +kernel
theorem dX6_shuffles_36 : decode cX6_shuffles 36 = .ok (.iadd, 1) := by decide +kernel
theorem dX6_shuffles_37 : decode cX6_shuffles 37 = .ok (.istore_n 2, 1) := by decide +kernel
theorem dX6_shuffles_38 : decode cX6_shuffles 38 = .ok (.aload_n 0, 1) := by decide +kernel
theorem dX6_shuffles_39 : decode cX6_shuffles 39 = .ok (.invokevirtual 87, 3) := by decide +kernel
theorem dX6_shuffles_42 : decode cX6_shuffles 42 = .ok (.istore_n 3, 1) := by decide +kernel
theorem dX6_shuffles_43 : decode cX6_shuffles 43 = .ok (.goto (-25), 3) := by decide +kernel
theorem dX6_shuffles_46 : decode cX6_shuffles 46 = .ok (.iload_n 2, 1) := by decide +kernel
theorem dX6_shuffles_47 : decode cX6_shuffles 47 = .ok (.ireturn, 1) := by decide +kernel
theorem dX6_place_0 : decode cX6_place 0 = .ok (.iconst 0, 1) := by decide +kernel
theorem dX6_place_1 : decode cX6_place 1 = .ok (.istore_n 2, 1) := by decide +kernel
theorem dX6_place_2 : decode cX6_place 2 = .ok (.aload_n 0, 1) := by decide +kernel
theorem dX6_place_3 : decode cX6_place 3 = .ok (.invokevirtual 81, 3) := by decide +kernel
theorem dX6_place_6 : decode cX6_place 6 = .ok (.aload_n 0, 1) := by decide +kernel
theorem dX6_place_7 : decode cX6_place 7 = .ok (.invokevirtual 90, 3) := by decide +kernel
theorem dX6_place_10 : decode cX6_place 10 = .ok (.aload_n 0, 1) := by decide +kernel
theorem dX6_place_11 : decode cX6_place 11 = .ok (.getfield 7, 3) := by decide +kernel
theorem dX6_place_14 : decode cX6_place 14 = .ok (.iconst 0, 1) := by decide +kernel
theorem dX6_place_15 : decode cX6_place 15 = .ok (.iaload, 1) := by decide +kernel
theorem dX6_place_16 : decode cX6_place 16 = .ok (.if_icmp .ge 27, 3) := by decide +kernel
theorem dX6_place_19 : decode cX6_place 19 = .ok (.iload_n 2, 1) := by decide +kernel
theorem dX6_place_20 : decode cX6_place 20 = .ok (.aload_n 0, 1) := by decide +kernel
theorem dX6_place_21 : decode cX6_place 21 = .ok (.iload_n 1, 1) := by decide +kernel
theorem dX6_place_22 : decode cX6_place 22 = .ok (.invokevirtual 84, 3) := by decide +kernel
theorem dX6_place_25 : decode cX6_place 25 = .ok (.ifCond .eq 7, 3) := by decide +kernel
theorem dX6_place_28 : decode cX6_place 28 = .ok (.iconst 1, 1) := by decide +kernel
theorem dX6_place_29 : decode cX6_place 29 = .ok (.goto 4, 3) := by decide +kernel
theorem dX6_place_32 : decode cX6_place 32 = .ok (.iconst 0, 1) := by decide +kernel
theorem dX6_place_33 : decode cX6_place 33 = .ok (.iadd, 1) := by decide +kernel
theorem dX6_place_34 : decode cX6_place 34 = .ok (.istore_n 2, 1) := by decide +kernel
theorem dX6_place_35 : decode cX6_place 35 = .ok (.aload_n 0, 1) := by decide +kernel
theorem dX6_place_36 : decode cX6_place 36 = .ok (.invokevirtual 87, 3) := by decide +kernel
theorem dX6_place_39 : decode cX6_place 39 = .ok (.pop, 1) := by decide +kernel
theorem dX6_place_40 : decode cX6_place 40 = .ok (.goto (-34), 3) := by decide +kernel
theorem dX6_place_43 : decode cX6_place 43 = .ok (.iload_n 2, 1) := by decide +kernel
theorem dX6_place_44 : decode cX6_place 44 = .ok (.ireturn, 1) := by decide +kernel
theorem dX6_placeOf_0 : decode cX6_placeOf 0 = .ok (.iload_n 1, 1) := by decide +kernel
theorem dX6_placeOf_1 : decode cX6_placeOf 1 = .ok (.invokestatic 40, 3) := by decide +kernel
theorem dX6_placeOf_4 : decode cX6_placeOf 4 = .ok (.ifCond .eq 11, 3) := by decide +kernel
theorem dX6_placeOf_7 : decode cX6_placeOf 7 = .ok (.aload_n 0, 1) := by decide +kernel
theorem dX6_placeOf_8 : decode cX6_placeOf 8 = .ok (.iload_n 1, 1) := by decide +kernel
theorem dX6_placeOf_9 : decode cX6_placeOf 9 = .ok (.invokevirtual 94, 3) := by decide +kernel
theorem dX6_placeOf_12 : decode cX6_placeOf 12 = .ok (.goto 5, 3) := by decide +kernel
theorem dX6_placeOf_15 : decode cX6_placeOf 15 = .ok (.ldc 44, 2) := by decide +kernel
theorem dX6_placeOf_17 : decode cX6_placeOf 17 = .ok (.ireturn, 1) := by decide +kernel
theorem dX6_finds_0 : decode cX6_finds 0 = .ok (.iload_n 2, 1) := by decide +kernel
theorem dX6_finds_1 : decode cX6_finds 1 = .ok (.istore_n 3, 1) := by decide +kernel
theorem dX6_finds_2 : decode cX6_finds 2 = .ok (.aload_n 0, 1) := by decide +kernel
theorem dX6_finds_3 : decode cX6_finds 3 = .ok (.invokevirtual 81, 3) := by decide +kernel
theorem dX6_finds_6 : decode cX6_finds 6 = .ok (.iconst 1, 1) := by decide +kernel
theorem dX6_finds_7 : decode cX6_finds 7 = .ok (.istore 4, 2) := by decide +kernel
theorem dX6_finds_9 : decode cX6_finds 9 = .ok (.iload 4, 2) := by decide +kernel
theorem dX6_finds_11 : decode cX6_finds 11 = .ok (.ifCond .eq 29, 3) := by decide +kernel
theorem dX6_finds_14 : decode cX6_finds 14 = .ok (.aload_n 0, 1) := by decide +kernel
theorem dX6_finds_15 : decode cX6_finds 15 = .ok (.iload_n 1, 1) := by decide +kernel
theorem dX6_finds_16 : decode cX6_finds 16 = .ok (.invokevirtual 84, 3) := by decide +kernel
theorem dX6_finds_19 : decode cX6_finds 19 = .ok (.ifCond .eq 12, 3) := by decide +kernel
theorem dX6_finds_22 : decode cX6_finds 22 = .ok (.iload_n 3, 1) := by decide +kernel
theorem dX6_finds_23 : decode cX6_finds 23 = .ok (.ifCond .ne 5, 3) := by decide +kernel
theorem dX6_finds_26 : decode cX6_finds 26 = .ok (.iconst 1, 1) := by decide +kernel
theorem dX6_finds_27 : decode cX6_finds 27 = .ok (.ireturn, 1) := by decide +kernel
theorem dX6_finds_28 : decode cX6_finds 28 = .ok (.iinc 3 (-1), 3) := by decide +kernel
theorem dX6_finds_31 : decode cX6_finds 31 = .ok (.aload_n 0, 1) := by decide +kernel
theorem dX6_finds_32 : decode cX6_finds 32 = .ok (.invokevirtual 87, 3) := by decide +kernel
theorem dX6_finds_35 : decode cX6_finds 35 = .ok (.istore 4, 2) := by decide +kernel
theorem dX6_finds_37 : decode cX6_finds 37 = .ok (.goto (-28), 3) := by decide +kernel
theorem dX6_finds_40 : decode cX6_finds 40 = .ok (.iconst 0, 1) := by decide +kernel
theorem dX6_finds_41 : decode cX6_finds 41 = .ok (.ireturn, 1) := by decide +kernel
theorem dX6_shuffleAt_0 : decode cX6_shuffleAt 0 = .ok (.iload_n 1, 1) := by decide +kernel
theorem dX6_shuffleAt_1 : decode cX6_shuffleAt 1 = .ok (.invokestatic 40, 3) := by decide +kernel
theorem dX6_shuffleAt_4 : decode cX6_shuffleAt 4 = .ok (.ifCond .eq 11, 3) := by decide +kernel
theorem dX6_shuffleAt_7 : decode cX6_shuffleAt 7 = .ok (.iload_n 2, 1) := by decide +kernel
theorem dX6_shuffleAt_8 : decode cX6_shuffleAt 8 = .ok (.ifCond .lt 7, 3) := by decide +kernel
theorem dX6_shuffleAt_11 : decode cX6_shuffleAt 11 = .ok (.iload_n 3, 1) := by decide +kernel
theorem dX6_shuffleAt_12 : decode cX6_shuffleAt 12 = .ok (.ifCond .ge 6, 3) := by decide +kernel
theorem dX6_shuffleAt_15 : decode cX6_shuffleAt 15 = .ok (.ldc 44, 2) := by decide +kernel
theorem dX6_shuffleAt_17 : decode cX6_shuffleAt 17 = .ok (.ireturn, 1) := by decide +kernel
theorem dX6_shuffleAt_18 : decode cX6_shuffleAt 18 = .ok (.iload_n 3, 1) := by decide +kernel
theorem dX6_shuffleAt_19 : decode cX6_shuffleAt 19 = .ok (.aload_n 0, 1) := by decide +kernel
theorem dX6_shuffleAt_20 : decode cX6_shuffleAt 20 = .ok (.getfield 7, 3) := by decide +kernel
theorem dX6_shuffleAt_23 : decode cX6_shuffleAt 23 = .ok (.iconst 0, 1) := by decide +kernel
theorem dX6_shuffleAt_24 : decode cX6_shuffleAt 24 = .ok (.iaload, 1) := by decide +kernel
theorem dX6_shuffleAt_25 : decode cX6_shuffleAt 25 = .ok (.if_icmp .ge 21, 3) := by decide +kernel
theorem dX6_shuffleAt_28 : decode cX6_shuffleAt 28 = .ok (.aload_n 0, 1) := by decide +kernel
theorem dX6_shuffleAt_29 : decode cX6_shuffleAt 29 = .ok (.iload_n 1, 1) := by decide +kernel
theorem dX6_shuffleAt_30 : decode cX6_shuffleAt 30 = .ok (.iload_n 2, 1) := by decide +kernel
theorem dX6_shuffleAt_31 : decode cX6_shuffleAt 31 = .ok (.invokevirtual 97, 3) := by decide +kernel
theorem dX6_shuffleAt_34 : decode cX6_shuffleAt 34 = .ok (.ifCond .eq 12, 3) := by decide +kernel
theorem dX6_shuffleAt_37 : decode cX6_shuffleAt 37 = .ok (.aload_n 0, 1) := by decide +kernel
theorem dX6_shuffleAt_38 : decode cX6_shuffleAt 38 = .ok (.getfield 22, 3) := by decide +kernel
theorem dX6_shuffleAt_41 : decode cX6_shuffleAt 41 = .ok (.iload_n 3, 1) := by decide +kernel
theorem dX6_shuffleAt_42 : decode cX6_shuffleAt 42 = .ok (.iaload, 1) := by decide +kernel
theorem dX6_shuffleAt_43 : decode cX6_shuffleAt 43 = .ok (.goto 5, 3) := by decide +kernel
theorem dX6_shuffleAt_46 : decode cX6_shuffleAt 46 = .ok (.ldc 50, 2) := by decide +kernel
theorem dX6_shuffleAt_48 : decode cX6_shuffleAt 48 = .ok (.ireturn, 1) := by decide +kernel
theorem dX6_takes_0 : decode cX6_takes 0 = .ok (.iconst 0, 1) := by decide +kernel
theorem dX6_takes_1 : decode cX6_takes 1 = .ok (.istore_n 1, 1) := by decide +kernel
theorem dX6_takes_2 : decode cX6_takes 2 = .ok (.iload_n 1, 1) := by decide +kernel
theorem dX6_takes_3 : decode cX6_takes 3 = .ok (.aload_n 0, 1) := by decide +kernel
theorem dX6_takes_4 : decode cX6_takes 4 = .ok (.getfield 7, 3) := by decide +kernel
theorem dX6_takes_7 : decode cX6_takes 7 = .ok (.iconst 0, 1) := by decide +kernel
theorem dX6_takes_8 : decode cX6_takes 8 = .ok (.iaload, 1) := by decide +kernel
theorem dX6_takes_9 : decode cX6_takes 9 = .ok (.if_icmp .ge 23, 3) := by decide +kernel
theorem dX6_takes_12 : decode cX6_takes 12 = .ok (.aload_n 0, 1) := by decide +kernel
theorem dX6_takes_13 : decode cX6_takes 13 = .ok (.getfield 7, 3) := by decide +kernel
theorem dX6_takes_16 : decode cX6_takes 16 = .ok (.iconst 1, 1) := by decide +kernel
theorem dX6_takes_17 : decode cX6_takes 17 = .ok (.iload_n 1, 1) := by decide +kernel
theorem dX6_takes_18 : decode cX6_takes 18 = .ok (.iadd, 1) := by decide +kernel
theorem dX6_takes_19 : decode cX6_takes 19 = .ok (.aload_n 0, 1) := by decide +kernel
theorem dX6_takes_20 : decode cX6_takes 20 = .ok (.getfield 22, 3) := by decide +kernel
theorem dX6_takes_23 : decode cX6_takes 23 = .ok (.iload_n 1, 1) := by decide +kernel
theorem dX6_takes_24 : decode cX6_takes 24 = .ok (.iaload, 1) := by decide +kernel
theorem dX6_takes_25 : decode cX6_takes 25 = .ok (.iastore, 1) := by decide +kernel
theorem dX6_takes_26 : decode cX6_takes 26 = .ok (.iinc 1 1, 3) := by decide +kernel
theorem dX6_takes_29 : decode cX6_takes 29 = .ok (.goto (-27), 3) := by decide +kernel
theorem dX6_takes_32 : decode cX6_takes 32 = .ok (.return_, 1) := by decide +kernel
theorem dX6_moves_0 : decode cX6_moves 0 = .ok (.iload_n 2, 1) := by decide +kernel
theorem dX6_moves_1 : decode cX6_moves 1 = .ok (.ifCond .lt 12, 3) := by decide +kernel
theorem dX6_moves_4 : decode cX6_moves 4 = .ok (.aload_n 0, 1) := by decide +kernel
theorem dX6_moves_5 : decode cX6_moves 5 = .ok (.iload_n 1, 1) := by decide +kernel
theorem dX6_moves_6 : decode cX6_moves 6 = .ok (.iload_n 2, 1) := by decide +kernel
theorem dX6_moves_7 : decode cX6_moves 7 = .ok (.invokevirtual 97, 3) := by decide +kernel
theorem dX6_moves_10 : decode cX6_moves 10 = .ok (.ifCond .ne 6, 3) := by decide +kernel
theorem dX6_moves_13 : decode cX6_moves 13 = .ok (.ldc 49, 2) := by decide +kernel
theorem dX6_moves_15 : decode cX6_moves 15 = .ok (.ireturn, 1) := by decide +kernel
theorem dX6_moves_16 : decode cX6_moves 16 = .ok (.aload_n 0, 1) := by decide +kernel
theorem dX6_moves_17 : decode cX6_moves 17 = .ok (.invokevirtual 46, 3) := by decide +kernel
theorem dX6_moves_20 : decode cX6_moves 20 = .ok (.aload_n 0, 1) := by decide +kernel
theorem dX6_moves_21 : decode cX6_moves 21 = .ok (.invokevirtual 101, 3) := by decide +kernel
theorem dX6_moves_24 : decode cX6_moves 24 = .ok (.iload_n 2, 1) := by decide +kernel
theorem dX6_moves_25 : decode cX6_moves 25 = .ok (.ireturn, 1) := by decide +kernel
theorem dX6_next_0 : decode cX6_next 0 = .ok (.iload_n 1, 1) := by decide +kernel
theorem dX6_next_1 : decode cX6_next 1 = .ok (.invokestatic 40, 3) := by decide +kernel
theorem dX6_next_4 : decode cX6_next 4 = .ok (.ifCond .eq 18, 3) := by decide +kernel
theorem dX6_next_7 : decode cX6_next 7 = .ok (.aload_n 0, 1) := by decide +kernel
theorem dX6_next_8 : decode cX6_next 8 = .ok (.iload_n 1, 1) := by decide +kernel
theorem dX6_next_9 : decode cX6_next 9 = .ok (.aload_n 0, 1) := by decide +kernel
theorem dX6_next_10 : decode cX6_next 10 = .ok (.iload_n 1, 1) := by decide +kernel
theorem dX6_next_11 : decode cX6_next 11 = .ok (.invokevirtual 94, 3) := by decide +kernel
theorem dX6_next_14 : decode cX6_next 14 = .ok (.iconst 1, 1) := by decide +kernel
theorem dX6_next_15 : decode cX6_next 15 = .ok (.iadd, 1) := by decide +kernel
theorem dX6_next_16 : decode cX6_next 16 = .ok (.invokevirtual 104, 3) := by decide +kernel
theorem dX6_next_19 : decode cX6_next 19 = .ok (.goto 5, 3) := by decide +kernel
theorem dX6_next_22 : decode cX6_next 22 = .ok (.ldc 44, 2) := by decide +kernel
theorem dX6_next_24 : decode cX6_next 24 = .ok (.ireturn, 1) := by decide +kernel
theorem dX6_back_0 : decode cX6_back 0 = .ok (.iload_n 1, 1) := by decide +kernel
theorem dX6_back_1 : decode cX6_back 1 = .ok (.invokestatic 40, 3) := by decide +kernel
theorem dX6_back_4 : decode cX6_back 4 = .ok (.ifCond .eq 18, 3) := by decide +kernel
theorem dX6_back_7 : decode cX6_back 7 = .ok (.aload_n 0, 1) := by decide +kernel
theorem dX6_back_8 : decode cX6_back 8 = .ok (.iload_n 1, 1) := by decide +kernel
theorem dX6_back_9 : decode cX6_back 9 = .ok (.aload_n 0, 1) := by decide +kernel
theorem dX6_back_10 : decode cX6_back 10 = .ok (.iload_n 1, 1) := by decide +kernel
theorem dX6_back_11 : decode cX6_back 11 = .ok (.invokevirtual 94, 3) := by decide +kernel
theorem dX6_back_14 : decode cX6_back 14 = .ok (.iconst 1, 1) := by decide +kernel
theorem dX6_back_15 : decode cX6_back 15 = .ok (.isub, 1) := by decide +kernel
theorem dX6_back_16 : decode cX6_back 16 = .ok (.invokevirtual 104, 3) := by decide +kernel
theorem dX6_back_19 : decode cX6_back 19 = .ok (.goto 5, 3) := by decide +kernel
theorem dX6_back_22 : decode cX6_back 22 = .ok (.ldc 44, 2) := by decide +kernel
theorem dX6_back_24 : decode cX6_back 24 = .ok (.ireturn, 1) := by decide +kernel
theorem dX6_at_0 : decode cX6_at 0 = .ok (.iload_n 1, 1) := by decide +kernel
theorem dX6_at_1 : decode cX6_at 1 = .ok (.invokestatic 40, 3) := by decide +kernel
theorem dX6_at_4 : decode cX6_at 4 = .ok (.ifCond .eq 7, 3) := by decide +kernel
theorem dX6_at_7 : decode cX6_at 7 = .ok (.iload_n 2, 1) := by decide +kernel
theorem dX6_at_8 : decode cX6_at 8 = .ok (.ifCond .ge 6, 3) := by decide +kernel
theorem dX6_at_11 : decode cX6_at 11 = .ok (.ldc 44, 2) := by decide +kernel
theorem dX6_at_13 : decode cX6_at 13 = .ok (.ireturn, 1) := by decide +kernel
theorem dX6_at_14 : decode cX6_at 14 = .ok (.aload_n 0, 1) := by decide +kernel
theorem dX6_at_15 : decode cX6_at 15 = .ok (.iload_n 1, 1) := by decide +kernel
theorem dX6_at_16 : decode cX6_at 16 = .ok (.iload_n 2, 1) := by decide +kernel
theorem dX6_at_17 : decode cX6_at 17 = .ok (.invokevirtual 97, 3) := by decide +kernel
theorem dX6_at_20 : decode cX6_at 20 = .ok (.ifCond .ne 6, 3) := by decide +kernel
theorem dX6_at_23 : decode cX6_at 23 = .ok (.ldc 49, 2) := by decide +kernel
theorem dX6_at_25 : decode cX6_at 25 = .ok (.ireturn, 1) := by decide +kernel
theorem dX6_at_26 : decode cX6_at 26 = .ok (.aload_n 0, 1) := by decide +kernel
theorem dX6_at_27 : decode cX6_at 27 = .ok (.invokevirtual 46, 3) := by decide +kernel
theorem dX6_at_30 : decode cX6_at 30 = .ok (.aload_n 0, 1) := by decide +kernel
theorem dX6_at_31 : decode cX6_at 31 = .ok (.getfield 7, 3) := by decide +kernel
theorem dX6_at_34 : decode cX6_at 34 = .ok (.iconst 0, 1) := by decide +kernel
theorem dX6_at_35 : decode cX6_at 35 = .ok (.iaload, 1) := by decide +kernel
theorem dX6_at_36 : decode cX6_at 36 = .ok (.aload_n 0, 1) := by decide +kernel
theorem dX6_at_37 : decode cX6_at 37 = .ok (.invokevirtual 90, 3) := by decide +kernel
theorem dX6_at_40 : decode cX6_at 40 = .ok (.isub, 1) := by decide +kernel
theorem dX6_at_41 : decode cX6_at 41 = .ok (.istore_n 3, 1) := by decide +kernel
theorem dX6_at_42 : decode cX6_at 42 = .ok (.aload_n 0, 1) := by decide +kernel
theorem dX6_at_43 : decode cX6_at 43 = .ok (.invokevirtual 101, 3) := by decide +kernel
theorem dX6_at_46 : decode cX6_at 46 = .ok (.iload_n 3, 1) := by decide +kernel
theorem dX6_at_47 : decode cX6_at 47 = .ok (.ireturn, 1) := by decide +kernel
theorem dX6_runsOf_0 : decode cX6_runsOf 0 = .ok (.aload_n 0, 1) := by decide +kernel
theorem dX6_runsOf_1 : decode cX6_runsOf 1 = .ok (.getfield 7, 3) := by decide +kernel
theorem dX6_runsOf_4 : decode cX6_runsOf 4 = .ok (.iconst 0, 1) := by decide +kernel
theorem dX6_runsOf_5 : decode cX6_runsOf 5 = .ok (.iaload, 1) := by decide +kernel
theorem dX6_runsOf_6 : decode cX6_runsOf 6 = .ok (.ifCond .ne 7, 3) := by decide +kernel
theorem dX6_runsOf_9 : decode cX6_runsOf 9 = .ok (.iconst 0, 1) := by decide +kernel
theorem dX6_runsOf_10 : decode cX6_runsOf 10 = .ok (.goto 4, 3) := by decide +kernel
theorem dX6_runsOf_13 : decode cX6_runsOf 13 = .ok (.iconst 1, 1) := by decide +kernel
theorem dX6_runsOf_14 : decode cX6_runsOf 14 = .ok (.istore_n 3, 1) := by decide +kernel
theorem dX6_runsOf_15 : decode cX6_runsOf 15 = .ok (.iconst 1, 1) := by decide +kernel
theorem dX6_runsOf_16 : decode cX6_runsOf 16 = .ok (.istore 4, 2) := by decide +kernel
theorem dX6_runsOf_18 : decode cX6_runsOf 18 = .ok (.iload 4, 2) := by decide +kernel
theorem dX6_runsOf_20 : decode cX6_runsOf 20 = .ok (.aload_n 0, 1) := by decide +kernel
theorem dX6_runsOf_21 : decode cX6_runsOf 21 = .ok (.getfield 7, 3) := by decide +kernel
theorem dX6_runsOf_24 : decode cX6_runsOf 24 = .ok (.iconst 0, 1) := by decide +kernel
theorem dX6_runsOf_25 : decode cX6_runsOf 25 = .ok (.iaload, 1) := by decide +kernel
theorem dX6_runsOf_26 : decode cX6_runsOf 26 = .ok (.if_icmp .ge 34, 3) := by decide +kernel
theorem dX6_runsOf_29 : decode cX6_runsOf 29 = .ok (.iload_n 3, 1) := by decide +kernel
theorem dX6_runsOf_30 : decode cX6_runsOf 30 = .ok (.aload_n 1, 1) := by decide +kernel
theorem dX6_runsOf_31 : decode cX6_runsOf 31 = .ok (.iload_n 2, 1) := by decide +kernel
theorem dX6_runsOf_32 : decode cX6_runsOf 32 = .ok (.iload 4, 2) := by decide +kernel
theorem dX6_runsOf_34 : decode cX6_runsOf 34 = .ok (.iadd, 1) := by decide +kernel
theorem dX6_runsOf_35 : decode cX6_runsOf 35 = .ok (.iaload, 1) := by decide +kernel
theorem dX6_runsOf_36 : decode cX6_runsOf 36 = .ok (.aload_n 1, 1) := by decide +kernel
theorem dX6_runsOf_37 : decode cX6_runsOf 37 = .ok (.iload_n 2, 1) := by decide +kernel
theorem dX6_runsOf_38 : decode cX6_runsOf 38 = .ok (.iload 4, 2) := by decide +kernel
theorem dX6_runsOf_40 : decode cX6_runsOf 40 = .ok (.iadd, 1) := by decide +kernel
theorem dX6_runsOf_41 : decode cX6_runsOf 41 = .ok (.iconst 1, 1) := by decide +kernel
theorem dX6_runsOf_42 : decode cX6_runsOf 42 = .ok (.isub, 1) := by decide +kernel
theorem dX6_runsOf_43 : decode cX6_runsOf 43 = .ok (.iaload, 1) := by decide +kernel
theorem dX6_runsOf_44 : decode cX6_runsOf 44 = .ok (.if_icmp .ne 7, 3) := by decide +kernel
theorem dX6_runsOf_47 : decode cX6_runsOf 47 = .ok (.iconst 0, 1) := by decide +kernel
theorem dX6_runsOf_48 : decode cX6_runsOf 48 = .ok (.goto 4, 3) := by decide +kernel
theorem dX6_runsOf_51 : decode cX6_runsOf 51 = .ok (.iconst 1, 1) := by decide +kernel
theorem dX6_runsOf_52 : decode cX6_runsOf 52 = .ok (.iadd, 1) := by decide +kernel
theorem dX6_runsOf_53 : decode cX6_runsOf 53 = .ok (.istore_n 3, 1) := by decide +kernel
theorem dX6_runsOf_54 : decode cX6_runsOf 54 = .ok (.iinc 4 1, 3) := by decide +kernel
theorem dX6_runsOf_57 : decode cX6_runsOf 57 = .ok (.goto (-39), 3) := by decide +kernel
theorem dX6_runsOf_60 : decode cX6_runsOf 60 = .ok (.iload_n 3, 1) := by decide +kernel
theorem dX6_runsOf_61 : decode cX6_runsOf 61 = .ok (.ireturn, 1) := by decide +kernel
theorem dX6_told_0 : decode cX6_told 0 = .ok (.iload_n 3, 1) := by decide +kernel
theorem dX6_told_1 : decode cX6_told 1 = .ok (.ifCond .ne 22, 3) := by decide +kernel
theorem dX6_told_4 : decode cX6_told 4 = .ok (.aload_n 1, 1) := by decide +kernel
theorem dX6_told_5 : decode cX6_told 5 = .ok (.iload_n 2, 1) := by decide +kernel
theorem dX6_told_6 : decode cX6_told 6 = .ok (.aload_n 0, 1) := by decide +kernel
theorem dX6_told_7 : decode cX6_told 7 = .ok (.getfield 7, 3) := by decide +kernel
theorem dX6_told_10 : decode cX6_told 10 = .ok (.iconst 0, 1) := by decide +kernel
theorem dX6_told_11 : decode cX6_told 11 = .ok (.iaload, 1) := by decide +kernel
theorem dX6_told_12 : decode cX6_told 12 = .ok (.iconst 4, 1) := by decide +kernel
theorem dX6_told_13 : decode cX6_told 13 = .ok (.iload 4, 2) := by decide +kernel
theorem dX6_told_15 : decode cX6_told 15 = .ok (.imul, 1) := by decide +kernel
theorem dX6_told_16 : decode cX6_told 16 = .ok (.iload 5, 2) := by decide +kernel
theorem dX6_told_18 : decode cX6_told 18 = .ok (.iadd, 1) := by decide +kernel
theorem dX6_told_19 : decode cX6_told 19 = .ok (.invokestatic 51, 3) := by decide +kernel
theorem dX6_told_22 : decode cX6_told 22 = .ok (.ireturn, 1) := by decide +kernel
theorem dX6_told_23 : decode cX6_told 23 = .ok (.iload_n 3, 1) := by decide +kernel
theorem dX6_told_24 : decode cX6_told 24 = .ok (.iconst 1, 1) := by decide +kernel
theorem dX6_told_25 : decode cX6_told 25 = .ok (.if_icmp .ne 10, 3) := by decide +kernel
theorem dX6_told_28 : decode cX6_told 28 = .ok (.aload_n 0, 1) := by decide +kernel
theorem dX6_told_29 : decode cX6_told 29 = .ok (.aload_n 1, 1) := by decide +kernel
theorem dX6_told_30 : decode cX6_told 30 = .ok (.iload_n 2, 1) := by decide +kernel
theorem dX6_told_31 : decode cX6_told 31 = .ok (.invokevirtual 107, 3) := by decide +kernel
theorem dX6_told_34 : decode cX6_told 34 = .ok (.ireturn, 1) := by decide +kernel
theorem dX6_told_35 : decode cX6_told 35 = .ok (.iconst 0, 1) := by decide +kernel
theorem dX6_told_36 : decode cX6_told 36 = .ok (.istore 6, 2) := by decide +kernel
theorem dX6_told_38 : decode cX6_told 38 = .ok (.iconst 0, 1) := by decide +kernel
theorem dX6_told_39 : decode cX6_told 39 = .ok (.istore 7, 2) := by decide +kernel
theorem dX6_told_41 : decode cX6_told 41 = .ok (.iload 7, 2) := by decide +kernel
theorem dX6_told_43 : decode cX6_told 43 = .ok (.iload_n 3, 1) := by decide +kernel
theorem dX6_told_44 : decode cX6_told 44 = .ok (.iconst 2, 1) := by decide +kernel
theorem dX6_told_45 : decode cX6_told 45 = .ok (.if_icmp .ne 12, 3) := by decide +kernel
theorem dX6_told_48 : decode cX6_told 48 = .ok (.aload_n 0, 1) := by decide +kernel
theorem dX6_told_49 : decode cX6_told 49 = .ok (.getfield 7, 3) := by decide +kernel
theorem dX6_told_52 : decode cX6_told 52 = .ok (.iconst 0, 1) := by decide +kernel
theorem dX6_told_53 : decode cX6_told 53 = .ok (.iaload, 1) := by decide +kernel
theorem dX6_told_54 : decode cX6_told 54 = .ok (.goto 11, 3) := by decide +kernel
theorem dX6_told_57 : decode cX6_told 57 = .ok (.aload_n 0, 1) := by decide +kernel
theorem dX6_told_58 : decode cX6_told 58 = .ok (.getfield 7, 3) := by decide +kernel
theorem dX6_told_61 : decode cX6_told 61 = .ok (.iconst 0, 1) := by decide +kernel
theorem dX6_told_62 : decode cX6_told 62 = .ok (.iaload, 1) := by decide +kernel
theorem dX6_told_63 : decode cX6_told 63 = .ok (.iconst 2, 1) := by decide +kernel
theorem dX6_told_64 : decode cX6_told 64 = .ok (.idiv, 1) := by decide +kernel
theorem dX6_told_65 : decode cX6_told 65 = .ok (.if_icmp .ge 63, 3) := by decide +kernel
theorem dX6_told_68 : decode cX6_told 68 = .ok (.iload 6, 2) := by decide +kernel
theorem dX6_told_70 : decode cX6_told 70 = .ok (.iload_n 3, 1) := by decide +kernel
theorem dX6_told_71 : decode cX6_told 71 = .ok (.iconst 2, 1) := by decide +kernel
theorem dX6_told_72 : decode cX6_told 72 = .ok (.if_icmp .ne 29, 3) := by decide +kernel
theorem dX6_told_75 : decode cX6_told 75 = .ok (.aload_n 1, 1) := by decide +kernel
theorem dX6_told_76 : decode cX6_told 76 = .ok (.iload_n 2, 1) := by decide +kernel
theorem dX6_told_77 : decode cX6_told 77 = .ok (.iload 7, 2) := by decide +kernel
theorem dX6_told_79 : decode cX6_told 79 = .ok (.iadd, 1) := by decide +kernel
theorem dX6_told_80 : decode cX6_told 80 = .ok (.iaload, 1) := by decide +kernel
theorem dX6_told_81 : decode cX6_told 81 = .ok (.aload_n 0, 1) := by decide +kernel
theorem dX6_told_82 : decode cX6_told 82 = .ok (.getfield 7, 3) := by decide +kernel
theorem dX6_told_85 : decode cX6_told 85 = .ok (.iconst 1, 1) := by decide +kernel
theorem dX6_told_86 : decode cX6_told 86 = .ok (.iload 7, 2) := by decide +kernel
theorem dX6_told_88 : decode cX6_told 88 = .ok (.iadd, 1) := by decide +kernel
theorem dX6_told_89 : decode cX6_told 89 = .ok (.iaload, 1) := by decide +kernel
theorem dX6_told_90 : decode cX6_told 90 = .ok (.if_icmp .ne 7, 3) := by decide +kernel
theorem dX6_told_93 : decode cX6_told 93 = .ok (.iconst 1, 1) := by decide +kernel
theorem dX6_told_94 : decode cX6_told 94 = .ok (.goto 25, 3) := by decide +kernel
theorem dX6_told_97 : decode cX6_told 97 = .ok (.iconst 0, 1) := by decide +kernel
theorem dX6_told_98 : decode cX6_told 98 = .ok (.goto 21, 3) := by decide +kernel
theorem dX6_told_101 : decode cX6_told 101 = .ok (.aload_n 0, 1) := by decide +kernel
theorem dX6_told_102 : decode cX6_told 102 = .ok (.aload_n 1, 1) := by decide +kernel
theorem dX6_told_103 : decode cX6_told 103 = .ok (.iload_n 2, 1) := by decide +kernel
theorem dX6_told_104 : decode cX6_told 104 = .ok (.iload 7, 2) := by decide +kernel
theorem dX6_told_106 : decode cX6_told 106 = .ok (.invokevirtual 70, 3) := by decide +kernel
theorem dX6_told_109 : decode cX6_told 109 = .ok (.iload 4, 2) := by decide +kernel
theorem dX6_told_111 : decode cX6_told 111 = .ok (.if_icmp .ne 7, 3) := by decide +kernel
theorem dX6_told_114 : decode cX6_told 114 = .ok (.iconst 1, 1) := by decide +kernel
theorem dX6_told_115 : decode cX6_told 115 = .ok (.goto 4, 3) := by decide +kernel
theorem dX6_told_118 : decode cX6_told 118 = .ok (.iconst 0, 1) := by decide +kernel
theorem dX6_told_119 : decode cX6_told 119 = .ok (.iadd, 1) := by decide +kernel
theorem dX6_told_120 : decode cX6_told 120 = .ok (.istore 6, 2) := by decide +kernel
theorem dX6_told_122 : decode cX6_told 122 = .ok (.iinc 7 1, 3) := by decide +kernel
theorem dX6_told_125 : decode cX6_told 125 = .ok (.goto (-84), 3) := by decide +kernel
theorem dX6_told_128 : decode cX6_told 128 = .ok (.iload 6, 2) := by decide +kernel
theorem dX6_told_130 : decode cX6_told 130 = .ok (.ireturn, 1) := by decide +kernel
theorem dX6_measure_0 : decode cX6_measure 0 = .ok (.iload_n 1, 1) := by decide +kernel
theorem dX6_measure_1 : decode cX6_measure 1 = .ok (.invokestatic 40, 3) := by decide +kernel
theorem dX6_measure_4 : decode cX6_measure 4 = .ok (.ifCond .eq 32, 3) := by decide +kernel
theorem dX6_measure_7 : decode cX6_measure 7 = .ok (.iload_n 2, 1) := by decide +kernel
theorem dX6_measure_8 : decode cX6_measure 8 = .ok (.invokestatic 40, 3) := by decide +kernel
theorem dX6_measure_11 : decode cX6_measure 11 = .ok (.ifCond .eq 25, 3) := by decide +kernel
theorem dX6_measure_14 : decode cX6_measure 14 = .ok (.iload_n 3, 1) := by decide +kernel
theorem dX6_measure_15 : decode cX6_measure 15 = .ok (.invokestatic 40, 3) := by decide +kernel
theorem dX6_measure_18 : decode cX6_measure 18 = .ok (.ifCond .eq 18, 3) := by decide +kernel
theorem dX6_measure_21 : decode cX6_measure 21 = .ok (.aload_n 0, 1) := by decide +kernel
theorem dX6_measure_22 : decode cX6_measure 22 = .ok (.aload_n 0, 1) := by decide +kernel
theorem dX6_measure_23 : decode cX6_measure 23 = .ok (.getfield 7, 3) := by decide +kernel
theorem dX6_measure_26 : decode cX6_measure 26 = .ok (.iconst 1, 1) := by decide +kernel
theorem dX6_measure_27 : decode cX6_measure 27 = .ok (.iload_n 1, 1) := by decide +kernel
theorem dX6_measure_28 : decode cX6_measure 28 = .ok (.iload_n 2, 1) := by decide +kernel
theorem dX6_measure_29 : decode cX6_measure 29 = .ok (.iload_n 3, 1) := by decide +kernel
theorem dX6_measure_30 : decode cX6_measure 30 = .ok (.invokevirtual 111, 3) := by decide +kernel
theorem dX6_measure_33 : decode cX6_measure 33 = .ok (.goto 5, 3) := by decide +kernel
theorem dX6_measure_36 : decode cX6_measure 36 = .ok (.ldc 44, 2) := by decide +kernel
theorem dX6_measure_38 : decode cX6_measure 38 = .ok (.ireturn, 1) := by decide +kernel
theorem dX6_surprise_0 : decode cX6_surprise 0 = .ok (.iload_n 1, 1) := by decide +kernel
theorem dX6_surprise_1 : decode cX6_surprise 1 = .ok (.invokestatic 40, 3) := by decide +kernel
theorem dX6_surprise_4 : decode cX6_surprise 4 = .ok (.ifCond .eq 35, 3) := by decide +kernel
theorem dX6_surprise_7 : decode cX6_surprise 7 = .ok (.iload_n 2, 1) := by decide +kernel
theorem dX6_surprise_8 : decode cX6_surprise 8 = .ok (.invokestatic 40, 3) := by decide +kernel
theorem dX6_surprise_11 : decode cX6_surprise 11 = .ok (.ifCond .eq 28, 3) := by decide +kernel
theorem dX6_surprise_14 : decode cX6_surprise 14 = .ok (.iload_n 3, 1) := by decide +kernel
theorem dX6_surprise_15 : decode cX6_surprise 15 = .ok (.invokestatic 40, 3) := by decide +kernel
theorem dX6_surprise_18 : decode cX6_surprise 18 = .ok (.ifCond .eq 21, 3) := by decide +kernel
theorem dX6_surprise_21 : decode cX6_surprise 21 = .ok (.iload 4, 2) := by decide +kernel
theorem dX6_surprise_23 : decode cX6_surprise 23 = .ok (.invokestatic 40, 3) := by decide +kernel
theorem dX6_surprise_26 : decode cX6_surprise 26 = .ok (.ifCond .eq 13, 3) := by decide +kernel
theorem dX6_surprise_29 : decode cX6_surprise 29 = .ok (.iload 5, 2) := by decide +kernel
theorem dX6_surprise_31 : decode cX6_surprise 31 = .ok (.iconst 0, 1) := by decide +kernel
theorem dX6_surprise_32 : decode cX6_surprise 32 = .ok (.iconst 4, 1) := by decide +kernel
theorem dX6_surprise_33 : decode cX6_surprise 33 = .ok (.invokestatic 28, 3) := by decide +kernel
theorem dX6_surprise_36 : decode cX6_surprise 36 = .ok (.ifCond .ne 6, 3) := by decide +kernel
theorem dX6_surprise_39 : decode cX6_surprise 39 = .ok (.ldc 44, 2) := by decide +kernel
theorem dX6_surprise_41 : decode cX6_surprise 41 = .ok (.ireturn, 1) := by decide +kernel
theorem dX6_surprise_42 : decode cX6_surprise 42 = .ok (.aload_n 0, 1) := by decide +kernel
theorem dX6_surprise_43 : decode cX6_surprise 43 = .ok (.aload_n 0, 1) := by decide +kernel
theorem dX6_surprise_44 : decode cX6_surprise 44 = .ok (.getfield 7, 3) := by decide +kernel
theorem dX6_surprise_47 : decode cX6_surprise 47 = .ok (.iconst 1, 1) := by decide +kernel
theorem dX6_surprise_48 : decode cX6_surprise 48 = .ok (.iload_n 2, 1) := by decide +kernel
theorem dX6_surprise_49 : decode cX6_surprise 49 = .ok (.iload_n 3, 1) := by decide +kernel
theorem dX6_surprise_50 : decode cX6_surprise 50 = .ok (.iload 4, 2) := by decide +kernel
theorem dX6_surprise_52 : decode cX6_surprise 52 = .ok (.invokevirtual 111, 3) := by decide +kernel
theorem dX6_surprise_55 : decode cX6_surprise 55 = .ok (.istore 6, 2) := by decide +kernel
theorem dX6_surprise_57 : decode cX6_surprise 57 = .ok (.iconst 0, 1) := by decide +kernel
theorem dX6_surprise_58 : decode cX6_surprise 58 = .ok (.istore 7, 2) := by decide +kernel
theorem dX6_surprise_60 : decode cX6_surprise 60 = .ok (.iconst 0, 1) := by decide +kernel
theorem dX6_surprise_61 : decode cX6_surprise 61 = .ok (.istore 8, 2) := by decide +kernel
theorem dX6_surprise_63 : decode cX6_surprise 63 = .ok (.bipush 99, 2) := by decide +kernel
theorem dX6_surprise_65 : decode cX6_surprise 65 = .ok (.istore 9, 2) := by decide +kernel
theorem dX6_surprise_67 : decode cX6_surprise 67 = .ok (.iconst (-1), 1) := by decide +kernel
theorem dX6_surprise_68 : decode cX6_surprise 68 = .ok (.istore 10, 2) := by decide +kernel
theorem dX6_surprise_70 : decode cX6_surprise 70 = .ok (.iconst 0, 1) := by decide +kernel
theorem dX6_surprise_71 : decode cX6_surprise 71 = .ok (.istore 11, 2) := by decide +kernel
theorem dX6_surprise_73 : decode cX6_surprise 73 = .ok (.iconst 0, 1) := by decide +kernel
theorem dX6_surprise_74 : decode cX6_surprise 74 = .ok (.istore 12, 2) := by decide +kernel
theorem dX6_surprise_76 : decode cX6_surprise 76 = .ok (.aload_n 0, 1) := by decide +kernel
theorem dX6_surprise_77 : decode cX6_surprise 77 = .ok (.invokevirtual 81, 3) := by decide +kernel
theorem dX6_surprise_80 : decode cX6_surprise 80 = .ok (.iconst 1, 1) := by decide +kernel
theorem dX6_surprise_81 : decode cX6_surprise 81 = .ok (.istore 13, 2) := by decide +kernel
theorem dX6_surprise_83 : decode cX6_surprise 83 = .ok (.iload 13, 2) := by decide +kernel
theorem dX6_surprise_85 : decode cX6_surprise 85 = .ok (.ifCond .eq 110, 3) := by decide +kernel
theorem dX6_surprise_88 : decode cX6_surprise 88 = .ok (.aload_n 0, 1) := by decide +kernel
theorem dX6_surprise_89 : decode cX6_surprise 89 = .ok (.iload_n 1, 1) := by decide +kernel
theorem dX6_surprise_90 : decode cX6_surprise 90 = .ok (.invokevirtual 84, 3) := by decide +kernel
theorem dX6_surprise_93 : decode cX6_surprise 93 = .ok (.ifCond .eq 93, 3) := by decide +kernel
theorem dX6_surprise_96 : decode cX6_surprise 96 = .ok (.aload_n 0, 1) := by decide +kernel
theorem dX6_surprise_97 : decode cX6_surprise 97 = .ok (.aload_n 0, 1) := by decide +kernel
theorem dX6_surprise_98 : decode cX6_surprise 98 = .ok (.getfield 22, 3) := by decide +kernel
theorem dX6_surprise_101 : decode cX6_surprise 101 = .ok (.iconst 0, 1) := by decide +kernel
theorem dX6_surprise_102 : decode cX6_surprise 102 = .ok (.iload_n 2, 1) := by decide +kernel
theorem dX6_surprise_103 : decode cX6_surprise 103 = .ok (.iload_n 3, 1) := by decide +kernel
theorem dX6_surprise_104 : decode cX6_surprise 104 = .ok (.iload 4, 2) := by decide +kernel
theorem dX6_surprise_106 : decode cX6_surprise 106 = .ok (.invokevirtual 111, 3) := by decide +kernel
theorem dX6_surprise_109 : decode cX6_surprise 109 = .ok (.istore 14, 2) := by decide +kernel
theorem dX6_surprise_111 : decode cX6_surprise 111 = .ok (.iload 8, 2) := by decide +kernel
theorem dX6_surprise_113 : decode cX6_surprise 113 = .ok (.iload 14, 2) := by decide +kernel
theorem dX6_surprise_115 : decode cX6_surprise 115 = .ok (.iload 6, 2) := by decide +kernel
theorem dX6_surprise_117 : decode cX6_surprise 117 = .ok (.if_icmp .lt 7, 3) := by decide +kernel
theorem dX6_surprise_120 : decode cX6_surprise 120 = .ok (.iconst 1, 1) := by decide +kernel
theorem dX6_surprise_121 : decode cX6_surprise 121 = .ok (.goto 4, 3) := by decide +kernel
theorem dX6_surprise_124 : decode cX6_surprise 124 = .ok (.iconst 0, 1) := by decide +kernel
theorem dX6_surprise_125 : decode cX6_surprise 125 = .ok (.iadd, 1) := by decide +kernel
theorem dX6_surprise_126 : decode cX6_surprise 126 = .ok (.istore 8, 2) := by decide +kernel
theorem dX6_surprise_128 : decode cX6_surprise 128 = .ok (.iload 14, 2) := by decide +kernel
theorem dX6_surprise_130 : decode cX6_surprise 130 = .ok (.iload 9, 2) := by decide +kernel
theorem dX6_surprise_132 : decode cX6_surprise 132 = .ok (.if_icmp .ge 8, 3) := by decide +kernel
theorem dX6_surprise_135 : decode cX6_surprise 135 = .ok (.iload 14, 2) := by decide +kernel
theorem dX6_surprise_137 : decode cX6_surprise 137 = .ok (.goto 5, 3) := by decide +kernel
theorem dX6_surprise_140 : decode cX6_surprise 140 = .ok (.iload 9, 2) := by decide +kernel
theorem dX6_surprise_142 : decode cX6_surprise 142 = .ok (.istore 9, 2) := by decide +kernel
theorem dX6_surprise_144 : decode cX6_surprise 144 = .ok (.iload 14, 2) := by decide +kernel
theorem dX6_surprise_146 : decode cX6_surprise 146 = .ok (.iload 10, 2) := by decide +kernel
theorem dX6_surprise_148 : decode cX6_surprise 148 = .ok (.if_icmp .le 8, 3) := by decide +kernel
theorem dX6_surprise_151 : decode cX6_surprise 151 = .ok (.iload 7, 2) := by decide +kernel
theorem dX6_surprise_153 : decode cX6_surprise 153 = .ok (.goto 5, 3) := by decide +kernel
theorem dX6_surprise_156 : decode cX6_surprise 156 = .ok (.iload 12, 2) := by decide +kernel
theorem dX6_surprise_158 : decode cX6_surprise 158 = .ok (.istore 12, 2) := by decide +kernel
theorem dX6_surprise_160 : decode cX6_surprise 160 = .ok (.iload 14, 2) := by decide +kernel
theorem dX6_surprise_162 : decode cX6_surprise 162 = .ok (.iload 10, 2) := by decide +kernel
theorem dX6_surprise_164 : decode cX6_surprise 164 = .ok (.if_icmp .le 8, 3) := by decide +kernel
theorem dX6_surprise_167 : decode cX6_surprise 167 = .ok (.iload 14, 2) := by decide +kernel
theorem dX6_surprise_169 : decode cX6_surprise 169 = .ok (.goto 5, 3) := by decide +kernel
theorem dX6_surprise_172 : decode cX6_surprise 172 = .ok (.iload 10, 2) := by decide +kernel
theorem dX6_surprise_174 : decode cX6_surprise 174 = .ok (.istore 10, 2) := by decide +kernel
theorem dX6_surprise_176 : decode cX6_surprise 176 = .ok (.iload 11, 2) := by decide +kernel
theorem dX6_surprise_178 : decode cX6_surprise 178 = .ok (.iload 14, 2) := by decide +kernel
theorem dX6_surprise_180 : decode cX6_surprise 180 = .ok (.iadd, 1) := by decide +kernel
theorem dX6_surprise_181 : decode cX6_surprise 181 = .ok (.istore 11, 2) := by decide +kernel
theorem dX6_surprise_183 : decode cX6_surprise 183 = .ok (.iinc 7 1, 3) := by decide +kernel
theorem dX6_surprise_186 : decode cX6_surprise 186 = .ok (.aload_n 0, 1) := by decide +kernel
theorem dX6_surprise_187 : decode cX6_surprise 187 = .ok (.invokevirtual 87, 3) := by decide +kernel
theorem dX6_surprise_190 : decode cX6_surprise 190 = .ok (.istore 13, 2) := by decide +kernel
theorem dX6_surprise_192 : decode cX6_surprise 192 = .ok (.goto (-109), 3) := by decide +kernel
theorem dX6_surprise_195 : decode cX6_surprise 195 = .ok (.iload 5, 2) := by decide +kernel
theorem dX6_surprise_197 : decode cX6_surprise 197 = .ok (.ifCond .ne 8, 3) := by decide +kernel
theorem dX6_surprise_200 : decode cX6_surprise 200 = .ok (.iload 8, 2) := by decide +kernel
theorem dX6_surprise_202 : decode cX6_surprise 202 = .ok (.goto 38, 3) := by decide +kernel
theorem dX6_surprise_205 : decode cX6_surprise 205 = .ok (.iload 5, 2) := by decide +kernel
theorem dX6_surprise_207 : decode cX6_surprise 207 = .ok (.iconst 1, 1) := by decide +kernel
theorem dX6_surprise_208 : decode cX6_surprise 208 = .ok (.if_icmp .ne 8, 3) := by decide +kernel
theorem dX6_surprise_211 : decode cX6_surprise 211 = .ok (.iload 9, 2) := by decide +kernel
theorem dX6_surprise_213 : decode cX6_surprise 213 = .ok (.goto 27, 3) := by decide +kernel
theorem dX6_surprise_216 : decode cX6_surprise 216 = .ok (.iload 5, 2) := by decide +kernel
theorem dX6_surprise_218 : decode cX6_surprise 218 = .ok (.iconst 2, 1) := by decide +kernel
theorem dX6_surprise_219 : decode cX6_surprise 219 = .ok (.if_icmp .ne 8, 3) := by decide +kernel
theorem dX6_surprise_222 : decode cX6_surprise 222 = .ok (.iload 10, 2) := by decide +kernel
theorem dX6_surprise_224 : decode cX6_surprise 224 = .ok (.goto 16, 3) := by decide +kernel
theorem dX6_surprise_227 : decode cX6_surprise 227 = .ok (.iload 5, 2) := by decide +kernel
theorem dX6_surprise_229 : decode cX6_surprise 229 = .ok (.iconst 3, 1) := by decide +kernel
theorem dX6_surprise_230 : decode cX6_surprise 230 = .ok (.if_icmp .ne 8, 3) := by decide +kernel
theorem dX6_surprise_233 : decode cX6_surprise 233 = .ok (.iload 11, 2) := by decide +kernel
theorem dX6_surprise_235 : decode cX6_surprise 235 = .ok (.goto 5, 3) := by decide +kernel
theorem dX6_surprise_238 : decode cX6_surprise 238 = .ok (.iload 12, 2) := by decide +kernel
theorem dX6_surprise_240 : decode cX6_surprise 240 = .ok (.ireturn, 1) := by decide +kernel
theorem dX6_common_0 : decode cX6_common 0 = .ok (.iload_n 1, 1) := by decide +kernel
theorem dX6_common_1 : decode cX6_common 1 = .ok (.invokestatic 40, 3) := by decide +kernel
theorem dX6_common_4 : decode cX6_common 4 = .ok (.ifCond .eq 10, 3) := by decide +kernel
theorem dX6_common_7 : decode cX6_common 7 = .ok (.iload_n 2, 1) := by decide +kernel
theorem dX6_common_8 : decode cX6_common 8 = .ok (.invokestatic 40, 3) := by decide +kernel
theorem dX6_common_11 : decode cX6_common 11 = .ok (.ifCond .ne 6, 3) := by decide +kernel
theorem dX6_common_14 : decode cX6_common 14 = .ok (.ldc 44, 2) := by decide +kernel
theorem dX6_common_16 : decode cX6_common 16 = .ok (.ireturn, 1) := by decide +kernel
theorem dX6_common_17 : decode cX6_common 17 = .ok (.iconst 0, 1) := by decide +kernel
theorem dX6_common_18 : decode cX6_common 18 = .ok (.istore_n 3, 1) := by decide +kernel
theorem dX6_common_19 : decode cX6_common 19 = .ok (.aload_n 0, 1) := by decide +kernel
theorem dX6_common_20 : decode cX6_common 20 = .ok (.invokevirtual 81, 3) := by decide +kernel
theorem dX6_common_23 : decode cX6_common 23 = .ok (.iconst 1, 1) := by decide +kernel
theorem dX6_common_24 : decode cX6_common 24 = .ok (.istore 4, 2) := by decide +kernel
theorem dX6_common_26 : decode cX6_common 26 = .ok (.iload 4, 2) := by decide +kernel
theorem dX6_common_28 : decode cX6_common 28 = .ok (.ifCond .eq 36, 3) := by decide +kernel
theorem dX6_common_31 : decode cX6_common 31 = .ok (.iload_n 3, 1) := by decide +kernel
theorem dX6_common_32 : decode cX6_common 32 = .ok (.aload_n 0, 1) := by decide +kernel
theorem dX6_common_33 : decode cX6_common 33 = .ok (.iload_n 1, 1) := by decide +kernel
theorem dX6_common_34 : decode cX6_common 34 = .ok (.invokevirtual 84, 3) := by decide +kernel
theorem dX6_common_37 : decode cX6_common 37 = .ok (.ifCond .eq 15, 3) := by decide +kernel
theorem dX6_common_40 : decode cX6_common 40 = .ok (.aload_n 0, 1) := by decide +kernel
theorem dX6_common_41 : decode cX6_common 41 = .ok (.iload_n 2, 1) := by decide +kernel
theorem dX6_common_42 : decode cX6_common 42 = .ok (.invokevirtual 84, 3) := by decide +kernel
theorem dX6_common_45 : decode cX6_common 45 = .ok (.ifCond .eq 7, 3) := by decide +kernel
theorem dX6_common_48 : decode cX6_common 48 = .ok (.iconst 1, 1) := by decide +kernel
theorem dX6_common_49 : decode cX6_common 49 = .ok (.goto 4, 3) := by decide +kernel
theorem dX6_common_52 : decode cX6_common 52 = .ok (.iconst 0, 1) := by decide +kernel
theorem dX6_common_53 : decode cX6_common 53 = .ok (.iadd, 1) := by decide +kernel
theorem dX6_common_54 : decode cX6_common 54 = .ok (.istore_n 3, 1) := by decide +kernel
theorem dX6_common_55 : decode cX6_common 55 = .ok (.aload_n 0, 1) := by decide +kernel
theorem dX6_common_56 : decode cX6_common 56 = .ok (.invokevirtual 87, 3) := by decide +kernel
theorem dX6_common_59 : decode cX6_common 59 = .ok (.istore 4, 2) := by decide +kernel
theorem dX6_common_61 : decode cX6_common 61 = .ok (.goto (-35), 3) := by decide +kernel
theorem dX6_common_64 : decode cX6_common 64 = .ok (.iload_n 3, 1) := by decide +kernel
theorem dX6_common_65 : decode cX6_common 65 = .ok (.ireturn, 1) := by decide +kernel
theorem dX6_keep_0 : decode cX6_keep 0 = .ok (.aload_n 0, 1) := by decide +kernel
theorem dX6_keep_1 : decode cX6_keep 1 = .ok (.getfield 7, 3) := by decide +kernel
theorem dX6_keep_4 : decode cX6_keep 4 = .ok (.iconst 0, 1) := by decide +kernel
theorem dX6_keep_5 : decode cX6_keep 5 = .ok (.iaload, 1) := by decide +kernel
theorem dX6_keep_6 : decode cX6_keep 6 = .ok (.ifCond .ne 6, 3) := by decide +kernel
theorem dX6_keep_9 : decode cX6_keep 9 = .ok (.ldc 49, 2) := by decide +kernel
theorem dX6_keep_11 : decode cX6_keep 11 = .ok (.ireturn, 1) := by decide +kernel
theorem dX6_keep_12 : decode cX6_keep 12 = .ok (.aload_n 0, 1) := by decide +kernel
theorem dX6_keep_13 : decode cX6_keep 13 = .ok (.getfield 7, 3) := by decide +kernel
theorem dX6_keep_16 : decode cX6_keep 16 = .ok (.bipush 27, 2) := by decide +kernel
theorem dX6_keep_18 : decode cX6_keep 18 = .ok (.iaload, 1) := by decide +kernel
theorem dX6_keep_19 : decode cX6_keep 19 = .ok (.bipush 8, 2) := by decide +kernel
theorem dX6_keep_21 : decode cX6_keep 21 = .ok (.if_icmp .ne 6, 3) := by decide +kernel
theorem dX6_keep_24 : decode cX6_keep 24 = .ok (.ldc 45, 2) := by decide +kernel
theorem dX6_keep_26 : decode cX6_keep 26 = .ok (.ireturn, 1) := by decide +kernel
theorem dX6_keep_27 : decode cX6_keep 27 = .ok (.aload_n 0, 1) := by decide +kernel
theorem dX6_keep_28 : decode cX6_keep 28 = .ok (.invokevirtual 46, 3) := by decide +kernel
theorem dX6_keep_31 : decode cX6_keep 31 = .ok (.bipush 28, 2) := by decide +kernel
theorem dX6_keep_33 : decode cX6_keep 33 = .ok (.bipush 11, 2) := by decide +kernel
theorem dX6_keep_35 : decode cX6_keep 35 = .ok (.aload_n 0, 1) := by decide +kernel
theorem dX6_keep_36 : decode cX6_keep 36 = .ok (.getfield 7, 3) := by decide +kernel
theorem dX6_keep_39 : decode cX6_keep 39 = .ok (.bipush 27, 2) := by decide +kernel
theorem dX6_keep_41 : decode cX6_keep 41 = .ok (.iaload, 1) := by decide +kernel
theorem dX6_keep_42 : decode cX6_keep 42 = .ok (.imul, 1) := by decide +kernel
theorem dX6_keep_43 : decode cX6_keep 43 = .ok (.iadd, 1) := by decide +kernel
theorem dX6_keep_44 : decode cX6_keep 44 = .ok (.istore_n 1, 1) := by decide +kernel
theorem dX6_keep_45 : decode cX6_keep 45 = .ok (.iconst 0, 1) := by decide +kernel
theorem dX6_keep_46 : decode cX6_keep 46 = .ok (.istore_n 2, 1) := by decide +kernel
theorem dX6_keep_47 : decode cX6_keep 47 = .ok (.iload_n 2, 1) := by decide +kernel
theorem dX6_keep_48 : decode cX6_keep 48 = .ok (.bipush 11, 2) := by decide +kernel
theorem dX6_keep_50 : decode cX6_keep 50 = .ok (.if_icmp .ge 25, 3) := by decide +kernel
theorem dX6_keep_53 : decode cX6_keep 53 = .ok (.aload_n 0, 1) := by decide +kernel
theorem dX6_keep_54 : decode cX6_keep 54 = .ok (.getfield 7, 3) := by decide +kernel
theorem dX6_keep_57 : decode cX6_keep 57 = .ok (.iload_n 1, 1) := by decide +kernel
theorem dX6_keep_58 : decode cX6_keep 58 = .ok (.iload_n 2, 1) := by decide +kernel
theorem dX6_keep_59 : decode cX6_keep 59 = .ok (.iadd, 1) := by decide +kernel
theorem dX6_keep_60 : decode cX6_keep 60 = .ok (.aload_n 0, 1) := by decide +kernel
theorem dX6_keep_61 : decode cX6_keep 61 = .ok (.getfield 7, 3) := by decide +kernel
theorem dX6_keep_64 : decode cX6_keep 64 = .ok (.iconst 0, 1) := by decide +kernel
theorem dX6_keep_65 : decode cX6_keep 65 = .ok (.iload_n 2, 1) := by decide +kernel
theorem dX6_keep_66 : decode cX6_keep 66 = .ok (.iadd, 1) := by decide +kernel
theorem dX6_keep_67 : decode cX6_keep 67 = .ok (.iaload, 1) := by decide +kernel
theorem dX6_keep_68 : decode cX6_keep 68 = .ok (.iastore, 1) := by decide +kernel
theorem dX6_keep_69 : decode cX6_keep 69 = .ok (.iinc 2 1, 3) := by decide +kernel
theorem dX6_keep_72 : decode cX6_keep 72 = .ok (.goto (-25), 3) := by decide +kernel
theorem dX6_keep_75 : decode cX6_keep 75 = .ok (.aload_n 0, 1) := by decide +kernel
theorem dX6_keep_76 : decode cX6_keep 76 = .ok (.getfield 7, 3) := by decide +kernel
theorem dX6_keep_79 : decode cX6_keep 79 = .ok (.bipush 27, 2) := by decide +kernel
theorem dX6_keep_81 : decode cX6_keep 81 = .ok (.dup2, 1) := by decide +kernel
theorem dX6_keep_82 : decode cX6_keep 82 = .ok (.iaload, 1) := by decide +kernel
theorem dX6_keep_83 : decode cX6_keep 83 = .ok (.iconst 1, 1) := by decide +kernel
theorem dX6_keep_84 : decode cX6_keep 84 = .ok (.iadd, 1) := by decide +kernel
theorem dX6_keep_85 : decode cX6_keep 85 = .ok (.iastore, 1) := by decide +kernel
theorem dX6_keep_86 : decode cX6_keep 86 = .ok (.aload_n 0, 1) := by decide +kernel
theorem dX6_keep_87 : decode cX6_keep 87 = .ok (.getfield 7, 3) := by decide +kernel
theorem dX6_keep_90 : decode cX6_keep 90 = .ok (.bipush 27, 2) := by decide +kernel
theorem dX6_keep_92 : decode cX6_keep 92 = .ok (.iaload, 1) := by decide +kernel
theorem dX6_keep_93 : decode cX6_keep 93 = .ok (.ireturn, 1) := by decide +kernel
theorem dX6_recall_0 : decode cX6_recall 0 = .ok (.iload_n 1, 1) := by decide +kernel
theorem dX6_recall_1 : decode cX6_recall 1 = .ok (.ifCond .ge 6, 3) := by decide +kernel
theorem dX6_recall_4 : decode cX6_recall 4 = .ok (.ldc 44, 2) := by decide +kernel
theorem dX6_recall_6 : decode cX6_recall 6 = .ok (.ireturn, 1) := by decide +kernel
theorem dX6_recall_7 : decode cX6_recall 7 = .ok (.iload_n 1, 1) := by decide +kernel
theorem dX6_recall_8 : decode cX6_recall 8 = .ok (.aload_n 0, 1) := by decide +kernel
theorem dX6_recall_9 : decode cX6_recall 9 = .ok (.getfield 7, 3) := by decide +kernel
theorem dX6_recall_12 : decode cX6_recall 12 = .ok (.bipush 27, 2) := by decide +kernel
theorem dX6_recall_14 : decode cX6_recall 14 = .ok (.iaload, 1) := by decide +kernel
theorem dX6_recall_15 : decode cX6_recall 15 = .ok (.if_icmp .lt 6, 3) := by decide +kernel
theorem dX6_recall_18 : decode cX6_recall 18 = .ok (.ldc 49, 2) := by decide +kernel
theorem dX6_recall_20 : decode cX6_recall 20 = .ok (.ireturn, 1) := by decide +kernel
theorem dX6_recall_21 : decode cX6_recall 21 = .ok (.aload_n 0, 1) := by decide +kernel
theorem dX6_recall_22 : decode cX6_recall 22 = .ok (.invokevirtual 46, 3) := by decide +kernel
theorem dX6_recall_25 : decode cX6_recall 25 = .ok (.iconst 0, 1) := by decide +kernel
theorem dX6_recall_26 : decode cX6_recall 26 = .ok (.istore_n 2, 1) := by decide +kernel
theorem dX6_recall_27 : decode cX6_recall 27 = .ok (.iload_n 2, 1) := by decide +kernel
theorem dX6_recall_28 : decode cX6_recall 28 = .ok (.bipush 11, 2) := by decide +kernel
theorem dX6_recall_30 : decode cX6_recall 30 = .ok (.if_icmp .ge 31, 3) := by decide +kernel
theorem dX6_recall_33 : decode cX6_recall 33 = .ok (.aload_n 0, 1) := by decide +kernel
theorem dX6_recall_34 : decode cX6_recall 34 = .ok (.getfield 7, 3) := by decide +kernel
theorem dX6_recall_37 : decode cX6_recall 37 = .ok (.iconst 0, 1) := by decide +kernel
theorem dX6_recall_38 : decode cX6_recall 38 = .ok (.iload_n 2, 1) := by decide +kernel
theorem dX6_recall_39 : decode cX6_recall 39 = .ok (.iadd, 1) := by decide +kernel
theorem dX6_recall_40 : decode cX6_recall 40 = .ok (.aload_n 0, 1) := by decide +kernel
theorem dX6_recall_41 : decode cX6_recall 41 = .ok (.getfield 7, 3) := by decide +kernel
theorem dX6_recall_44 : decode cX6_recall 44 = .ok (.bipush 28, 2) := by decide +kernel
theorem dX6_recall_46 : decode cX6_recall 46 = .ok (.bipush 11, 2) := by decide +kernel
theorem dX6_recall_48 : decode cX6_recall 48 = .ok (.iload_n 1, 1) := by decide +kernel
theorem dX6_recall_49 : decode cX6_recall 49 = .ok (.imul, 1) := by decide +kernel
theorem dX6_recall_50 : decode cX6_recall 50 = .ok (.iadd, 1) := by decide +kernel
theorem dX6_recall_51 : decode cX6_recall 51 = .ok (.iload_n 2, 1) := by decide +kernel
theorem dX6_recall_52 : decode cX6_recall 52 = .ok (.iadd, 1) := by decide +kernel
theorem dX6_recall_53 : decode cX6_recall 53 = .ok (.iaload, 1) := by decide +kernel
theorem dX6_recall_54 : decode cX6_recall 54 = .ok (.iastore, 1) := by decide +kernel
theorem dX6_recall_55 : decode cX6_recall 55 = .ok (.iinc 2 1, 3) := by decide +kernel
theorem dX6_recall_58 : decode cX6_recall 58 = .ok (.goto (-31), 3) := by decide +kernel
theorem dX6_recall_61 : decode cX6_recall 61 = .ok (.aload_n 0, 1) := by decide +kernel
theorem dX6_recall_62 : decode cX6_recall 62 = .ok (.getfield 7, 3) := by decide +kernel
theorem dX6_recall_65 : decode cX6_recall 65 = .ok (.iconst 0, 1) := by decide +kernel
theorem dX6_recall_66 : decode cX6_recall 66 = .ok (.iaload, 1) := by decide +kernel
theorem dX6_recall_67 : decode cX6_recall 67 = .ok (.ireturn, 1) := by decide +kernel
theorem dX6_kinship_0 : decode cX6_kinship 0 = .ok (.iload_n 1, 1) := by decide +kernel
theorem dX6_kinship_1 : decode cX6_kinship 1 = .ok (.ifCond .ge 6, 3) := by decide +kernel
theorem dX6_kinship_4 : decode cX6_kinship 4 = .ok (.ldc 44, 2) := by decide +kernel
theorem dX6_kinship_6 : decode cX6_kinship 6 = .ok (.ireturn, 1) := by decide +kernel
theorem dX6_kinship_7 : decode cX6_kinship 7 = .ok (.iload_n 1, 1) := by decide +kernel
theorem dX6_kinship_8 : decode cX6_kinship 8 = .ok (.aload_n 0, 1) := by decide +kernel
theorem dX6_kinship_9 : decode cX6_kinship 9 = .ok (.getfield 7, 3) := by decide +kernel
theorem dX6_kinship_12 : decode cX6_kinship 12 = .ok (.bipush 27, 2) := by decide +kernel
theorem dX6_kinship_14 : decode cX6_kinship 14 = .ok (.iaload, 1) := by decide +kernel
theorem dX6_kinship_15 : decode cX6_kinship 15 = .ok (.if_icmp .ge 24, 3) := by decide +kernel
theorem dX6_kinship_18 : decode cX6_kinship 18 = .ok (.aload_n 0, 1) := by decide +kernel
theorem dX6_kinship_19 : decode cX6_kinship 19 = .ok (.getfield 7, 3) := by decide +kernel
theorem dX6_kinship_22 : decode cX6_kinship 22 = .ok (.bipush 28, 2) := by decide +kernel
theorem dX6_kinship_24 : decode cX6_kinship 24 = .ok (.bipush 11, 2) := by decide +kernel
theorem dX6_kinship_26 : decode cX6_kinship 26 = .ok (.iload_n 1, 1) := by decide +kernel
theorem dX6_kinship_27 : decode cX6_kinship 27 = .ok (.imul, 1) := by decide +kernel
theorem dX6_kinship_28 : decode cX6_kinship 28 = .ok (.iadd, 1) := by decide +kernel
theorem dX6_kinship_29 : decode cX6_kinship 29 = .ok (.iaload, 1) := by decide +kernel
theorem dX6_kinship_30 : decode cX6_kinship 30 = .ok (.aload_n 0, 1) := by decide +kernel
theorem dX6_kinship_31 : decode cX6_kinship 31 = .ok (.getfield 7, 3) := by decide +kernel
theorem dX6_kinship_34 : decode cX6_kinship 34 = .ok (.iconst 0, 1) := by decide +kernel
theorem dX6_kinship_35 : decode cX6_kinship 35 = .ok (.iaload, 1) := by decide +kernel
theorem dX6_kinship_36 : decode cX6_kinship 36 = .ok (.if_icmp .eq 6, 3) := by decide +kernel
theorem dX6_kinship_39 : decode cX6_kinship 39 = .ok (.ldc 50, 2) := by decide +kernel
theorem dX6_kinship_41 : decode cX6_kinship 41 = .ok (.ireturn, 1) := by decide +kernel
theorem dX6_kinship_42 : decode cX6_kinship 42 = .ok (.aload_n 0, 1) := by decide +kernel
theorem dX6_kinship_43 : decode cX6_kinship 43 = .ok (.invokevirtual 81, 3) := by decide +kernel
theorem dX6_kinship_46 : decode cX6_kinship 46 = .ok (.iconst 1, 1) := by decide +kernel
theorem dX6_kinship_47 : decode cX6_kinship 47 = .ok (.istore_n 2, 1) := by decide +kernel
theorem dX6_kinship_48 : decode cX6_kinship 48 = .ok (.iconst 0, 1) := by decide +kernel
theorem dX6_kinship_49 : decode cX6_kinship 49 = .ok (.istore_n 3, 1) := by decide +kernel
theorem dX6_kinship_50 : decode cX6_kinship 50 = .ok (.iload_n 3, 1) := by decide +kernel
theorem dX6_kinship_51 : decode cX6_kinship 51 = .ok (.aload_n 0, 1) := by decide +kernel
theorem dX6_kinship_52 : decode cX6_kinship 52 = .ok (.getfield 7, 3) := by decide +kernel
theorem dX6_kinship_55 : decode cX6_kinship 55 = .ok (.iconst 0, 1) := by decide +kernel
theorem dX6_kinship_56 : decode cX6_kinship 56 = .ok (.iaload, 1) := by decide +kernel
theorem dX6_kinship_57 : decode cX6_kinship 57 = .ok (.if_icmp .ge 31, 3) := by decide +kernel
theorem dX6_kinship_60 : decode cX6_kinship 60 = .ok (.aload_n 0, 1) := by decide +kernel
theorem dX6_kinship_61 : decode cX6_kinship 61 = .ok (.getfield 22, 3) := by decide +kernel
theorem dX6_kinship_64 : decode cX6_kinship 64 = .ok (.iload_n 3, 1) := by decide +kernel
theorem dX6_kinship_65 : decode cX6_kinship 65 = .ok (.aload_n 0, 1) := by decide +kernel
theorem dX6_kinship_66 : decode cX6_kinship 66 = .ok (.getfield 7, 3) := by decide +kernel
theorem dX6_kinship_69 : decode cX6_kinship 69 = .ok (.bipush 28, 2) := by decide +kernel
theorem dX6_kinship_71 : decode cX6_kinship 71 = .ok (.bipush 11, 2) := by decide +kernel
theorem dX6_kinship_73 : decode cX6_kinship 73 = .ok (.iload_n 1, 1) := by decide +kernel
theorem dX6_kinship_74 : decode cX6_kinship 74 = .ok (.imul, 1) := by decide +kernel
theorem dX6_kinship_75 : decode cX6_kinship 75 = .ok (.iadd, 1) := by decide +kernel
theorem dX6_kinship_76 : decode cX6_kinship 76 = .ok (.iconst 1, 1) := by decide +kernel
theorem dX6_kinship_77 : decode cX6_kinship 77 = .ok (.iadd, 1) := by decide +kernel
theorem dX6_kinship_78 : decode cX6_kinship 78 = .ok (.iload_n 3, 1) := by decide +kernel
theorem dX6_kinship_79 : decode cX6_kinship 79 = .ok (.iadd, 1) := by decide +kernel
theorem dX6_kinship_80 : decode cX6_kinship 80 = .ok (.iaload, 1) := by decide +kernel
theorem dX6_kinship_81 : decode cX6_kinship 81 = .ok (.iastore, 1) := by decide +kernel
theorem dX6_kinship_82 : decode cX6_kinship 82 = .ok (.iinc 3 1, 3) := by decide +kernel
theorem dX6_kinship_85 : decode cX6_kinship 85 = .ok (.goto (-35), 3) := by decide +kernel
theorem dX6_kinship_88 : decode cX6_kinship 88 = .ok (.iconst 0, 1) := by decide +kernel
theorem dX6_kinship_89 : decode cX6_kinship 89 = .ok (.istore_n 3, 1) := by decide +kernel
theorem dX6_kinship_90 : decode cX6_kinship 90 = .ok (.iload_n 3, 1) := by decide +kernel
theorem dX6_kinship_91 : decode cX6_kinship 91 = .ok (.iconst 4, 1) := by decide +kernel
theorem dX6_kinship_92 : decode cX6_kinship 92 = .ok (.if_icmp .ge 73, 3) := by decide +kernel
theorem dX6_kinship_95 : decode cX6_kinship 95 = .ok (.iconst 0, 1) := by decide +kernel
theorem dX6_kinship_96 : decode cX6_kinship 96 = .ok (.istore 4, 2) := by decide +kernel
theorem dX6_kinship_98 : decode cX6_kinship 98 = .ok (.iconst 0, 1) := by decide +kernel
theorem dX6_kinship_99 : decode cX6_kinship 99 = .ok (.istore 5, 2) := by decide +kernel
theorem dX6_kinship_101 : decode cX6_kinship 101 = .ok (.iload 5, 2) := by decide +kernel
theorem dX6_kinship_103 : decode cX6_kinship 103 = .ok (.aload_n 0, 1) := by decide +kernel
theorem dX6_kinship_104 : decode cX6_kinship 104 = .ok (.getfield 7, 3) := by decide +kernel
theorem dX6_kinship_107 : decode cX6_kinship 107 = .ok (.iconst 0, 1) := by decide +kernel
theorem dX6_kinship_108 : decode cX6_kinship 108 = .ok (.iaload, 1) := by decide +kernel
theorem dX6_kinship_109 : decode cX6_kinship 109 = .ok (.if_icmp .ge 30, 3) := by decide +kernel
theorem dX6_kinship_112 : decode cX6_kinship 112 = .ok (.iload 4, 2) := by decide +kernel
theorem dX6_kinship_114 : decode cX6_kinship 114 = .ok (.aload_n 0, 1) := by decide +kernel
theorem dX6_kinship_115 : decode cX6_kinship 115 = .ok (.getfield 22, 3) := by decide +kernel
theorem dX6_kinship_118 : decode cX6_kinship 118 = .ok (.iload 5, 2) := by decide +kernel
theorem dX6_kinship_120 : decode cX6_kinship 120 = .ok (.iaload, 1) := by decide +kernel
theorem dX6_kinship_121 : decode cX6_kinship 121 = .ok (.iload_n 3, 1) := by decide +kernel
theorem dX6_kinship_122 : decode cX6_kinship 122 = .ok (.if_icmp .ne 7, 3) := by decide +kernel
theorem dX6_kinship_125 : decode cX6_kinship 125 = .ok (.iconst 1, 1) := by decide +kernel
theorem dX6_kinship_126 : decode cX6_kinship 126 = .ok (.goto 4, 3) := by decide +kernel
theorem dX6_kinship_129 : decode cX6_kinship 129 = .ok (.iconst 0, 1) := by decide +kernel
theorem dX6_kinship_130 : decode cX6_kinship 130 = .ok (.iadd, 1) := by decide +kernel
theorem dX6_kinship_131 : decode cX6_kinship 131 = .ok (.istore 4, 2) := by decide +kernel
theorem dX6_kinship_133 : decode cX6_kinship 133 = .ok (.iinc 5 1, 3) := by decide +kernel
theorem dX6_kinship_136 : decode cX6_kinship 136 = .ok (.goto (-35), 3) := by decide +kernel
theorem dX6_kinship_139 : decode cX6_kinship 139 = .ok (.iload_n 2, 1) := by decide +kernel
theorem dX6_kinship_140 : decode cX6_kinship 140 = .ok (.ifCond .eq 17, 3) := by decide +kernel
theorem dX6_kinship_143 : decode cX6_kinship 143 = .ok (.iload 4, 2) := by decide +kernel
theorem dX6_kinship_145 : decode cX6_kinship 145 = .ok (.aload_n 0, 1) := by decide +kernel
theorem dX6_kinship_146 : decode cX6_kinship 146 = .ok (.iload_n 3, 1) := by decide +kernel
theorem dX6_kinship_147 : decode cX6_kinship 147 = .ok (.invokevirtual 59, 3) := by decide +kernel
theorem dX6_kinship_150 : decode cX6_kinship 150 = .ok (.if_icmp .ne 7, 3) := by decide +kernel
theorem dX6_kinship_153 : decode cX6_kinship 153 = .ok (.iconst 1, 1) := by decide +kernel
theorem dX6_kinship_154 : decode cX6_kinship 154 = .ok (.goto 4, 3) := by decide +kernel
theorem dX6_kinship_157 : decode cX6_kinship 157 = .ok (.iconst 0, 1) := by decide +kernel
theorem dX6_kinship_158 : decode cX6_kinship 158 = .ok (.istore_n 2, 1) := by decide +kernel
theorem dX6_kinship_159 : decode cX6_kinship 159 = .ok (.iinc 3 1, 3) := by decide +kernel
theorem dX6_kinship_162 : decode cX6_kinship 162 = .ok (.goto (-72), 3) := by decide +kernel
theorem dX6_kinship_165 : decode cX6_kinship 165 = .ok (.iload_n 2, 1) := by decide +kernel
theorem dX6_kinship_166 : decode cX6_kinship 166 = .ok (.ifCond .ne 8, 3) := by decide +kernel
theorem dX6_kinship_169 : decode cX6_kinship 169 = .ok (.ldc 50, 2) := by decide +kernel
theorem dX6_kinship_171 : decode cX6_kinship 171 = .ok (.goto 40, 3) := by decide +kernel
theorem dX6_kinship_174 : decode cX6_kinship 174 = .ok (.aload_n 0, 1) := by decide +kernel
theorem dX6_kinship_175 : decode cX6_kinship 175 = .ok (.iconst 2, 1) := by decide +kernel
theorem dX6_kinship_176 : decode cX6_kinship 176 = .ok (.invokevirtual 84, 3) := by decide +kernel
theorem dX6_kinship_179 : decode cX6_kinship 179 = .ok (.ifCond .eq 7, 3) := by decide +kernel
theorem dX6_kinship_182 : decode cX6_kinship 182 = .ok (.iconst 2, 1) := by decide +kernel
theorem dX6_kinship_183 : decode cX6_kinship 183 = .ok (.goto 28, 3) := by decide +kernel
theorem dX6_kinship_186 : decode cX6_kinship 186 = .ok (.aload_n 0, 1) := by decide +kernel
theorem dX6_kinship_187 : decode cX6_kinship 187 = .ok (.iconst 1, 1) := by decide +kernel
theorem dX6_kinship_188 : decode cX6_kinship 188 = .ok (.invokevirtual 84, 3) := by decide +kernel
theorem dX6_kinship_191 : decode cX6_kinship 191 = .ok (.ifCond .eq 7, 3) := by decide +kernel
theorem dX6_kinship_194 : decode cX6_kinship 194 = .ok (.iconst 1, 1) := by decide +kernel
theorem dX6_kinship_195 : decode cX6_kinship 195 = .ok (.goto 16, 3) := by decide +kernel
theorem dX6_kinship_198 : decode cX6_kinship 198 = .ok (.aload_n 0, 1) := by decide +kernel
theorem dX6_kinship_199 : decode cX6_kinship 199 = .ok (.iconst 3, 1) := by decide +kernel
theorem dX6_kinship_200 : decode cX6_kinship 200 = .ok (.invokevirtual 84, 3) := by decide +kernel
theorem dX6_kinship_203 : decode cX6_kinship 203 = .ok (.ifCond .eq 7, 3) := by decide +kernel
theorem dX6_kinship_206 : decode cX6_kinship 206 = .ok (.iconst 3, 1) := by decide +kernel
theorem dX6_kinship_207 : decode cX6_kinship 207 = .ok (.goto 4, 3) := by decide +kernel
theorem dX6_kinship_210 : decode cX6_kinship 210 = .ok (.iconst 0, 1) := by decide +kernel
theorem dX6_kinship_211 : decode cX6_kinship 211 = .ok (.ireturn, 1) := by decide +kernel
theorem dX6_unlike_0 : decode cX6_unlike 0 = .ok (.iconst 0, 1) := by decide +kernel
theorem dX6_unlike_1 : decode cX6_unlike 1 = .ok (.istore_n 2, 1) := by decide +kernel
theorem dX6_unlike_2 : decode cX6_unlike 2 = .ok (.iconst 0, 1) := by decide +kernel
theorem dX6_unlike_3 : decode cX6_unlike 3 = .ok (.istore_n 3, 1) := by decide +kernel
theorem dX6_unlike_4 : decode cX6_unlike 4 = .ok (.iload_n 3, 1) := by decide +kernel
theorem dX6_unlike_5 : decode cX6_unlike 5 = .ok (.iload_n 1, 1) := by decide +kernel
theorem dX6_unlike_6 : decode cX6_unlike 6 = .ok (.ifCond .eq 8, 3) := by decide +kernel
theorem dX6_unlike_9 : decode cX6_unlike 9 = .ok (.bipush 16, 2) := by decide +kernel
theorem dX6_unlike_11 : decode cX6_unlike 11 = .ok (.goto 4, 3) := by decide +kernel
theorem dX6_unlike_14 : decode cX6_unlike 14 = .ok (.iconst 4, 1) := by decide +kernel
theorem dX6_unlike_15 : decode cX6_unlike 15 = .ok (.if_icmp .ge 37, 3) := by decide +kernel
theorem dX6_unlike_18 : decode cX6_unlike 18 = .ok (.iload_n 2, 1) := by decide +kernel
theorem dX6_unlike_19 : decode cX6_unlike 19 = .ok (.iload_n 1, 1) := by decide +kernel
theorem dX6_unlike_20 : decode cX6_unlike 20 = .ok (.ifCond .eq 11, 3) := by decide +kernel
theorem dX6_unlike_23 : decode cX6_unlike 23 = .ok (.aload_n 0, 1) := by decide +kernel
theorem dX6_unlike_24 : decode cX6_unlike 24 = .ok (.iload_n 3, 1) := by decide +kernel
theorem dX6_unlike_25 : decode cX6_unlike 25 = .ok (.invokevirtual 55, 3) := by decide +kernel
theorem dX6_unlike_28 : decode cX6_unlike 28 = .ok (.goto 8, 3) := by decide +kernel
theorem dX6_unlike_31 : decode cX6_unlike 31 = .ok (.aload_n 0, 1) := by decide +kernel
theorem dX6_unlike_32 : decode cX6_unlike 32 = .ok (.iload_n 3, 1) := by decide +kernel
theorem dX6_unlike_33 : decode cX6_unlike 33 = .ok (.invokevirtual 59, 3) := by decide +kernel
theorem dX6_unlike_36 : decode cX6_unlike 36 = .ok (.ifCond .le 7, 3) := by decide +kernel
theorem dX6_unlike_39 : decode cX6_unlike 39 = .ok (.iconst 1, 1) := by decide +kernel
theorem dX6_unlike_40 : decode cX6_unlike 40 = .ok (.goto 4, 3) := by decide +kernel
theorem dX6_unlike_43 : decode cX6_unlike 43 = .ok (.iconst 0, 1) := by decide +kernel
theorem dX6_unlike_44 : decode cX6_unlike 44 = .ok (.iadd, 1) := by decide +kernel
theorem dX6_unlike_45 : decode cX6_unlike 45 = .ok (.istore_n 2, 1) := by decide +kernel
theorem dX6_unlike_46 : decode cX6_unlike 46 = .ok (.iinc 3 1, 3) := by decide +kernel
theorem dX6_unlike_49 : decode cX6_unlike 49 = .ok (.goto (-45), 3) := by decide +kernel
theorem dX6_unlike_52 : decode cX6_unlike 52 = .ok (.iload_n 2, 1) := by decide +kernel
theorem dX6_unlike_53 : decode cX6_unlike 53 = .ok (.ireturn, 1) := by decide +kernel
theorem dX6_count_0 : decode cX6_count 0 = .ok (.iload_n 1, 1) := by decide +kernel
theorem dX6_count_1 : decode cX6_count 1 = .ok (.tableswitch 106 0 7 #[47, 54, 54, 69, 79, 88, 96, 101], 47) := by decide +kernel
theorem dX6_count_48 : decode cX6_count 48 = .ok (.aload_n 0, 1) := by decide +kernel
theorem dX6_count_49 : decode cX6_count 49 = .ok (.getfield 7, 3) := by decide +kernel
theorem dX6_count_52 : decode cX6_count 52 = .ok (.iconst 0, 1) := by decide +kernel
theorem dX6_count_53 : decode cX6_count 53 = .ok (.iaload, 1) := by decide +kernel
theorem dX6_count_54 : decode cX6_count 54 = .ok (.ireturn, 1) := by decide +kernel
theorem dX6_count_55 : decode cX6_count 55 = .ok (.aload_n 0, 1) := by decide +kernel
theorem dX6_count_56 : decode cX6_count 56 = .ok (.iload_n 1, 1) := by decide +kernel
theorem dX6_count_57 : decode cX6_count 57 = .ok (.iconst 2, 1) := by decide +kernel
theorem dX6_count_58 : decode cX6_count 58 = .ok (.if_icmp .ne 7, 3) := by decide +kernel
theorem dX6_count_61 : decode cX6_count 61 = .ok (.iconst 1, 1) := by decide +kernel
theorem dX6_count_62 : decode cX6_count 62 = .ok (.goto 4, 3) := by decide +kernel
theorem dX6_count_65 : decode cX6_count 65 = .ok (.iconst 0, 1) := by decide +kernel
theorem dX6_count_66 : decode cX6_count 66 = .ok (.invokevirtual 115, 3) := by decide +kernel
theorem dX6_count_69 : decode cX6_count 69 = .ok (.ireturn, 1) := by decide +kernel
theorem dX6_count_70 : decode cX6_count 70 = .ok (.aload_n 0, 1) := by decide +kernel
theorem dX6_count_71 : decode cX6_count 71 = .ok (.aload_n 0, 1) := by decide +kernel
theorem dX6_count_72 : decode cX6_count 72 = .ok (.getfield 7, 3) := by decide +kernel
theorem dX6_count_75 : decode cX6_count 75 = .ok (.iconst 1, 1) := by decide +kernel
theorem dX6_count_76 : decode cX6_count 76 = .ok (.invokevirtual 107, 3) := by decide +kernel
theorem dX6_count_79 : decode cX6_count 79 = .ok (.ireturn, 1) := by decide +kernel
theorem dX6_count_80 : decode cX6_count 80 = .ok (.aload_n 0, 1) := by decide +kernel
theorem dX6_count_81 : decode cX6_count 81 = .ok (.getfield 7, 3) := by decide +kernel
theorem dX6_count_84 : decode cX6_count 84 = .ok (.iconst 0, 1) := by decide +kernel
theorem dX6_count_85 : decode cX6_count 85 = .ok (.iaload, 1) := by decide +kernel
theorem dX6_count_86 : decode cX6_count 86 = .ok (.iconst 2, 1) := by decide +kernel
theorem dX6_count_87 : decode cX6_count 87 = .ok (.idiv, 1) := by decide +kernel
theorem dX6_count_88 : decode cX6_count 88 = .ok (.ireturn, 1) := by decide +kernel
theorem dX6_count_89 : decode cX6_count 89 = .ok (.aload_n 0, 1) := by decide +kernel
theorem dX6_count_90 : decode cX6_count 90 = .ok (.getfield 7, 3) := by decide +kernel
theorem dX6_count_93 : decode cX6_count 93 = .ok (.bipush 27, 2) := by decide +kernel
theorem dX6_count_95 : decode cX6_count 95 = .ok (.iaload, 1) := by decide +kernel
theorem dX6_count_96 : decode cX6_count 96 = .ok (.ireturn, 1) := by decide +kernel
theorem dX6_count_97 : decode cX6_count 97 = .ok (.aload_n 0, 1) := by decide +kernel
theorem dX6_count_98 : decode cX6_count 98 = .ok (.getfield 36, 3) := by decide +kernel
theorem dX6_count_101 : decode cX6_count 101 = .ok (.ireturn, 1) := by decide +kernel
theorem dX6_count_102 : decode cX6_count 102 = .ok (.aload_n 0, 1) := by decide +kernel
theorem dX6_count_103 : decode cX6_count 103 = .ok (.getfield 119, 3) := by decide +kernel
theorem dX6_count_106 : decode cX6_count 106 = .ok (.ireturn, 1) := by decide +kernel
theorem dX6_count_107 : decode cX6_count 107 = .ok (.ldc 44, 2) := by decide +kernel
theorem dX6_count_109 : decode cX6_count 109 = .ok (.ireturn, 1) := by decide +kernel
theorem dX6_undo_0 : decode cX6_undo 0 = .ok (.aload_n 0, 1) := by decide +kernel
theorem dX6_undo_1 : decode cX6_undo 1 = .ok (.getfield 36, 3) := by decide +kernel
theorem dX6_undo_4 : decode cX6_undo 4 = .ok (.ifCond .ne 6, 3) := by decide +kernel
theorem dX6_undo_7 : decode cX6_undo 7 = .ok (.ldc 49, 2) := by decide +kernel
theorem dX6_undo_9 : decode cX6_undo 9 = .ok (.ireturn, 1) := by decide +kernel
theorem dX6_undo_10 : decode cX6_undo 10 = .ok (.aload_n 0, 1) := by decide +kernel
theorem dX6_undo_11 : decode cX6_undo 11 = .ok (.dup, 1) := by decide +kernel
theorem dX6_undo_12 : decode cX6_undo 12 = .ok (.getfield 36, 3) := by decide +kernel
theorem dX6_undo_15 : decode cX6_undo 15 = .ok (.iconst 1, 1) := by decide +kernel
theorem dX6_undo_16 : decode cX6_undo 16 = .ok (.isub, 1) := by decide +kernel
theorem dX6_undo_17 : decode cX6_undo 17 = .ok (.putfield 36, 3) := by decide +kernel
theorem dX6_undo_20 : decode cX6_undo 20 = .ok (.iconst 0, 1) := by decide +kernel
theorem dX6_undo_21 : decode cX6_undo 21 = .ok (.istore_n 1, 1) := by decide +kernel
theorem dX6_undo_22 : decode cX6_undo 22 = .ok (.iload_n 1, 1) := by decide +kernel
theorem dX6_undo_23 : decode cX6_undo 23 = .ok (.bipush 116, 2) := by decide +kernel
theorem dX6_undo_25 : decode cX6_undo 25 = .ok (.if_icmp .ge 29, 3) := by decide +kernel
theorem dX6_undo_28 : decode cX6_undo 28 = .ok (.aload_n 0, 1) := by decide +kernel
theorem dX6_undo_29 : decode cX6_undo 29 = .ok (.getfield 7, 3) := by decide +kernel
theorem dX6_undo_32 : decode cX6_undo 32 = .ok (.iload_n 1, 1) := by decide +kernel
theorem dX6_undo_33 : decode cX6_undo 33 = .ok (.aload_n 0, 1) := by decide +kernel
theorem dX6_undo_34 : decode cX6_undo 34 = .ok (.getfield 13, 3) := by decide +kernel
theorem dX6_undo_37 : decode cX6_undo 37 = .ok (.bipush 116, 2) := by decide +kernel
theorem dX6_undo_39 : decode cX6_undo 39 = .ok (.aload_n 0, 1) := by decide +kernel
theorem dX6_undo_40 : decode cX6_undo 40 = .ok (.getfield 36, 3) := by decide +kernel
theorem dX6_undo_43 : decode cX6_undo 43 = .ok (.imul, 1) := by decide +kernel
theorem dX6_undo_44 : decode cX6_undo 44 = .ok (.iload_n 1, 1) := by decide +kernel
theorem dX6_undo_45 : decode cX6_undo 45 = .ok (.iadd, 1) := by decide +kernel
theorem dX6_undo_46 : decode cX6_undo 46 = .ok (.iaload, 1) := by decide +kernel
theorem dX6_undo_47 : decode cX6_undo 47 = .ok (.iastore, 1) := by decide +kernel
theorem dX6_undo_48 : decode cX6_undo 48 = .ok (.iinc 1 1, 3) := by decide +kernel
theorem dX6_undo_51 : decode cX6_undo 51 = .ok (.goto (-29), 3) := by decide +kernel
theorem dX6_undo_54 : decode cX6_undo 54 = .ok (.aload_n 0, 1) := by decide +kernel
theorem dX6_undo_55 : decode cX6_undo 55 = .ok (.getfield 36, 3) := by decide +kernel
theorem dX6_undo_58 : decode cX6_undo 58 = .ok (.ireturn, 1) := by decide +kernel
theorem dX6_type_0 : decode cX6_type 0 = .ok (.iload_n 1, 1) := by decide +kernel
theorem dX6_type_1 : decode cX6_type 1 = .ok (.bipush 32, 2) := by decide +kernel
theorem dX6_type_3 : decode cX6_type 3 = .ok (.bipush 126, 2) := by decide +kernel
theorem dX6_type_5 : decode cX6_type 5 = .ok (.invokestatic 28, 3) := by decide +kernel
theorem dX6_type_8 : decode cX6_type 8 = .ok (.ifCond .ne 6, 3) := by decide +kernel
theorem dX6_type_11 : decode cX6_type 11 = .ok (.ldc 44, 2) := by decide +kernel
theorem dX6_type_13 : decode cX6_type 13 = .ok (.ireturn, 1) := by decide +kernel
theorem dX6_type_14 : decode cX6_type 14 = .ok (.aload_n 0, 1) := by decide +kernel
theorem dX6_type_15 : decode cX6_type 15 = .ok (.getfield 119, 3) := by decide +kernel
theorem dX6_type_18 : decode cX6_type 18 = .ok (.bipush 60, 2) := by decide +kernel
theorem dX6_type_20 : decode cX6_type 20 = .ok (.if_icmp .ne 6, 3) := by decide +kernel
theorem dX6_type_23 : decode cX6_type 23 = .ok (.ldc 45, 2) := by decide +kernel
theorem dX6_type_25 : decode cX6_type 25 = .ok (.ireturn, 1) := by decide +kernel
theorem dX6_type_26 : decode cX6_type 26 = .ok (.aload_n 0, 1) := by decide +kernel
theorem dX6_type_27 : decode cX6_type 27 = .ok (.getfield 19, 3) := by decide +kernel
theorem dX6_type_30 : decode cX6_type 30 = .ok (.aload_n 0, 1) := by decide +kernel
theorem dX6_type_31 : decode cX6_type 31 = .ok (.getfield 119, 3) := by decide +kernel
theorem dX6_type_34 : decode cX6_type 34 = .ok (.iload_n 1, 1) := by decide +kernel
theorem dX6_type_35 : decode cX6_type 35 = .ok (.iastore, 1) := by decide +kernel
theorem dX6_type_36 : decode cX6_type 36 = .ok (.aload_n 0, 1) := by decide +kernel
theorem dX6_type_37 : decode cX6_type 37 = .ok (.dup, 1) := by decide +kernel
theorem dX6_type_38 : decode cX6_type 38 = .ok (.getfield 119, 3) := by decide +kernel
theorem dX6_type_41 : decode cX6_type 41 = .ok (.iconst 1, 1) := by decide +kernel
theorem dX6_type_42 : decode cX6_type 42 = .ok (.iadd, 1) := by decide +kernel
theorem dX6_type_43 : decode cX6_type 43 = .ok (.putfield 119, 3) := by decide +kernel
theorem dX6_type_46 : decode cX6_type 46 = .ok (.aload_n 0, 1) := by decide +kernel
theorem dX6_type_47 : decode cX6_type 47 = .ok (.getfield 119, 3) := by decide +kernel
theorem dX6_type_50 : decode cX6_type 50 = .ok (.ireturn, 1) := by decide +kernel
theorem dX6_clearText_0 : decode cX6_clearText 0 = .ok (.aload_n 0, 1) := by decide +kernel
theorem dX6_clearText_1 : decode cX6_clearText 1 = .ok (.getfield 119, 3) := by decide +kernel
theorem dX6_clearText_4 : decode cX6_clearText 4 = .ok (.istore_n 1, 1) := by decide +kernel
theorem dX6_clearText_5 : decode cX6_clearText 5 = .ok (.aload_n 0, 1) := by decide +kernel
theorem dX6_clearText_6 : decode cX6_clearText 6 = .ok (.iconst 0, 1) := by decide +kernel
theorem dX6_clearText_7 : decode cX6_clearText 7 = .ok (.putfield 119, 3) := by decide +kernel
theorem dX6_clearText_10 : decode cX6_clearText 10 = .ok (.iload_n 1, 1) := by decide +kernel
theorem dX6_clearText_11 : decode cX6_clearText 11 = .ok (.ireturn, 1) := by decide +kernel
theorem dX6_isAt_0 : decode cX6_isAt 0 = .ok (.aload_n 0, 1) := by decide +kernel
theorem dX6_isAt_1 : decode cX6_isAt 1 = .ok (.getfield 122, 3) := by decide +kernel
theorem dX6_isAt_4 : decode cX6_isAt 4 = .ok (.aload_n 0, 1) := by decide +kernel
theorem dX6_isAt_5 : decode cX6_isAt 5 = .ok (.getfield 119, 3) := by decide +kernel
theorem dX6_isAt_8 : decode cX6_isAt 8 = .ok (.if_icmp .ge 24, 3) := by decide +kernel
theorem dX6_isAt_11 : decode cX6_isAt 11 = .ok (.aload_n 0, 1) := by decide +kernel
theorem dX6_isAt_12 : decode cX6_isAt 12 = .ok (.getfield 19, 3) := by decide +kernel
theorem dX6_isAt_15 : decode cX6_isAt 15 = .ok (.aload_n 0, 1) := by decide +kernel
theorem dX6_isAt_16 : decode cX6_isAt 16 = .ok (.getfield 122, 3) := by decide +kernel
theorem dX6_isAt_19 : decode cX6_isAt 19 = .ok (.iaload, 1) := by decide +kernel
theorem dX6_isAt_20 : decode cX6_isAt 20 = .ok (.iload_n 1, 1) := by decide +kernel
theorem dX6_isAt_21 : decode cX6_isAt 21 = .ok (.iload_n 2, 1) := by decide +kernel
theorem dX6_isAt_22 : decode cX6_isAt 22 = .ok (.invokestatic 28, 3) := by decide +kernel
theorem dX6_isAt_25 : decode cX6_isAt 25 = .ok (.ifCond .eq 7, 3) := by decide +kernel
theorem dX6_isAt_28 : decode cX6_isAt 28 = .ok (.iconst 1, 1) := by decide +kernel
theorem dX6_isAt_29 : decode cX6_isAt 29 = .ok (.goto 4, 3) := by decide +kernel
theorem dX6_isAt_32 : decode cX6_isAt 32 = .ok (.iconst 0, 1) := by decide +kernel
theorem dX6_isAt_33 : decode cX6_isAt 33 = .ok (.ireturn, 1) := by decide +kernel
theorem dX6_isWord_0 : decode cX6_isWord 0 = .ok (.iload 6, 2) := by decide +kernel
theorem dX6_isWord_2 : decode cX6_isWord 2 = .ok (.ifCond .le 7, 3) := by decide +kernel
theorem dX6_isWord_5 : decode cX6_isWord 5 = .ok (.iconst 5, 1) := by decide +kernel
theorem dX6_isWord_6 : decode cX6_isWord 6 = .ok (.goto 13, 3) := by decide +kernel
theorem dX6_isWord_9 : decode cX6_isWord 9 = .ok (.iload 5, 2) := by decide +kernel
theorem dX6_isWord_11 : decode cX6_isWord 11 = .ok (.ifCond .le 7, 3) := by decide +kernel
theorem dX6_isWord_14 : decode cX6_isWord 14 = .ok (.iconst 4, 1) := by decide +kernel
theorem dX6_isWord_15 : decode cX6_isWord 15 = .ok (.goto 4, 3) := by decide +kernel
theorem dX6_isWord_18 : decode cX6_isWord 18 = .ok (.iconst 3, 1) := by decide +kernel
theorem dX6_isWord_19 : decode cX6_isWord 19 = .ok (.istore 7, 2) := by decide +kernel
theorem dX6_isWord_21 : decode cX6_isWord 21 = .ok (.aload_n 0, 1) := by decide +kernel
theorem dX6_isWord_22 : decode cX6_isWord 22 = .ok (.getfield 122, 3) := by decide +kernel
theorem dX6_isWord_25 : decode cX6_isWord 25 = .ok (.iload_n 1, 1) := by decide +kernel
theorem dX6_isWord_26 : decode cX6_isWord 26 = .ok (.isub, 1) := by decide +kernel
theorem dX6_isWord_27 : decode cX6_isWord 27 = .ok (.iload 7, 2) := by decide +kernel
theorem dX6_isWord_29 : decode cX6_isWord 29 = .ok (.if_icmp .ne 42, 3) := by decide +kernel
theorem dX6_isWord_32 : decode cX6_isWord 32 = .ok (.aload_n 0, 1) := by decide +kernel
theorem dX6_isWord_33 : decode cX6_isWord 33 = .ok (.getfield 19, 3) := by decide +kernel
theorem dX6_isWord_36 : decode cX6_isWord 36 = .ok (.iload_n 1, 1) := by decide +kernel
theorem dX6_isWord_37 : decode cX6_isWord 37 = .ok (.iaload, 1) := by decide +kernel
theorem dX6_isWord_38 : decode cX6_isWord 38 = .ok (.iload_n 2, 1) := by decide +kernel
theorem dX6_isWord_39 : decode cX6_isWord 39 = .ok (.if_icmp .ne 32, 3) := by decide +kernel
theorem dX6_isWord_42 : decode cX6_isWord 42 = .ok (.aload_n 0, 1) := by decide +kernel
theorem dX6_isWord_43 : decode cX6_isWord 43 = .ok (.getfield 19, 3) := by decide +kernel
theorem dX6_isWord_46 : decode cX6_isWord 46 = .ok (.iload_n 1, 1) := by decide +kernel
theorem dX6_isWord_47 : decode cX6_isWord 47 = .ok (.iconst 1, 1) := by decide +kernel
theorem dX6_isWord_48 : decode cX6_isWord 48 = .ok (.iadd, 1) := by decide +kernel
theorem dX6_isWord_49 : decode cX6_isWord 49 = .ok (.iaload, 1) := by decide +kernel
theorem dX6_isWord_50 : decode cX6_isWord 50 = .ok (.iload_n 3, 1) := by decide +kernel
theorem dX6_isWord_51 : decode cX6_isWord 51 = .ok (.if_icmp .ne 20, 3) := by decide +kernel
theorem dX6_isWord_54 : decode cX6_isWord 54 = .ok (.aload_n 0, 1) := by decide +kernel
theorem dX6_isWord_55 : decode cX6_isWord 55 = .ok (.getfield 19, 3) := by decide +kernel
theorem dX6_isWord_58 : decode cX6_isWord 58 = .ok (.iload_n 1, 1) := by decide +kernel
theorem dX6_isWord_59 : decode cX6_isWord 59 = .ok (.iconst 2, 1) := by decide +kernel
theorem dX6_isWord_60 : decode cX6_isWord 60 = .ok (.iadd, 1) := by decide +kernel
theorem dX6_isWord_61 : decode cX6_isWord 61 = .ok (.iaload, 1) := by decide +kernel
theorem dX6_isWord_62 : decode cX6_isWord 62 = .ok (.iload 4, 2) := by decide +kernel
theorem dX6_isWord_64 : decode cX6_isWord 64 = .ok (.if_icmp .ne 7, 3) := by decide +kernel
theorem dX6_isWord_67 : decode cX6_isWord 67 = .ok (.iconst 1, 1) := by decide +kernel
theorem dX6_isWord_68 : decode cX6_isWord 68 = .ok (.goto 4, 3) := by decide +kernel
theorem dX6_isWord_71 : decode cX6_isWord 71 = .ok (.iconst 0, 1) := by decide +kernel
theorem dX6_isWord_72 : decode cX6_isWord 72 = .ok (.istore 8, 2) := by decide +kernel
theorem dX6_isWord_74 : decode cX6_isWord 74 = .ok (.iload 8, 2) := by decide +kernel
theorem dX6_isWord_76 : decode cX6_isWord 76 = .ok (.ifCond .eq 45, 3) := by decide +kernel
theorem dX6_isWord_79 : decode cX6_isWord 79 = .ok (.iload 7, 2) := by decide +kernel
theorem dX6_isWord_81 : decode cX6_isWord 81 = .ok (.iconst 4, 1) := by decide +kernel
theorem dX6_isWord_82 : decode cX6_isWord 82 = .ok (.if_icmp .lt 16, 3) := by decide +kernel
theorem dX6_isWord_85 : decode cX6_isWord 85 = .ok (.aload_n 0, 1) := by decide +kernel
theorem dX6_isWord_86 : decode cX6_isWord 86 = .ok (.getfield 19, 3) := by decide +kernel
theorem dX6_isWord_89 : decode cX6_isWord 89 = .ok (.iload_n 1, 1) := by decide +kernel
theorem dX6_isWord_90 : decode cX6_isWord 90 = .ok (.iconst 3, 1) := by decide +kernel
theorem dX6_isWord_91 : decode cX6_isWord 91 = .ok (.iadd, 1) := by decide +kernel
theorem dX6_isWord_92 : decode cX6_isWord 92 = .ok (.iaload, 1) := by decide +kernel
theorem dX6_isWord_93 : decode cX6_isWord 93 = .ok (.iload 5, 2) := by decide +kernel
theorem dX6_isWord_95 : decode cX6_isWord 95 = .ok (.if_icmp .ne 26, 3) := by decide +kernel
theorem dX6_isWord_98 : decode cX6_isWord 98 = .ok (.iload 7, 2) := by decide +kernel
theorem dX6_isWord_100 : decode cX6_isWord 100 = .ok (.iconst 5, 1) := by decide +kernel
theorem dX6_isWord_101 : decode cX6_isWord 101 = .ok (.if_icmp .lt 16, 3) := by decide +kernel
theorem dX6_isWord_104 : decode cX6_isWord 104 = .ok (.aload_n 0, 1) := by decide +kernel
theorem dX6_isWord_105 : decode cX6_isWord 105 = .ok (.getfield 19, 3) := by decide +kernel
theorem dX6_isWord_108 : decode cX6_isWord 108 = .ok (.iload_n 1, 1) := by decide +kernel
theorem dX6_isWord_109 : decode cX6_isWord 109 = .ok (.iconst 4, 1) := by decide +kernel
theorem dX6_isWord_110 : decode cX6_isWord 110 = .ok (.iadd, 1) := by decide +kernel
theorem dX6_isWord_111 : decode cX6_isWord 111 = .ok (.iaload, 1) := by decide +kernel
theorem dX6_isWord_112 : decode cX6_isWord 112 = .ok (.iload 6, 2) := by decide +kernel
theorem dX6_isWord_114 : decode cX6_isWord 114 = .ok (.if_icmp .ne 7, 3) := by decide +kernel
theorem dX6_isWord_117 : decode cX6_isWord 117 = .ok (.iconst 1, 1) := by decide +kernel
theorem dX6_isWord_118 : decode cX6_isWord 118 = .ok (.goto 4, 3) := by decide +kernel
theorem dX6_isWord_121 : decode cX6_isWord 121 = .ok (.iconst 0, 1) := by decide +kernel
theorem dX6_isWord_122 : decode cX6_isWord 122 = .ok (.ireturn, 1) := by decide +kernel
theorem dX6_wordAt_0 : decode cX6_wordAt 0 = .ok (.aload_n 0, 1) := by decide +kernel
theorem dX6_wordAt_1 : decode cX6_wordAt 1 = .ok (.iload_n 1, 1) := by decide +kernel
theorem dX6_wordAt_2 : decode cX6_wordAt 2 = .ok (.bipush 114, 2) := by decide +kernel
theorem dX6_wordAt_4 : decode cX6_wordAt 4 = .ok (.bipush 111, 2) := by decide +kernel
theorem dX6_wordAt_6 : decode cX6_wordAt 6 = .ok (.bipush 119, 2) := by decide +kernel
theorem dX6_wordAt_8 : decode cX6_wordAt 8 = .ok (.iconst 0, 1) := by decide +kernel
theorem dX6_wordAt_9 : decode cX6_wordAt 9 = .ok (.iconst 0, 1) := by decide +kernel
theorem dX6_wordAt_10 : decode cX6_wordAt 10 = .ok (.invokevirtual 125, 3) := by decide +kernel
theorem dX6_wordAt_13 : decode cX6_wordAt 13 = .ok (.ifCond .eq 5, 3) := by decide +kernel
theorem dX6_wordAt_16 : decode cX6_wordAt 16 = .ok (.iconst 0, 1) := by decide +kernel
theorem dX6_wordAt_17 : decode cX6_wordAt 17 = .ok (.ireturn, 1) := by decide +kernel
theorem dX6_wordAt_18 : decode cX6_wordAt 18 = .ok (.aload_n 0, 1) := by decide +kernel
theorem dX6_wordAt_19 : decode cX6_wordAt 19 = .ok (.iload_n 1, 1) := by decide +kernel
theorem dX6_wordAt_20 : decode cX6_wordAt 20 = .ok (.bipush 116, 2) := by decide +kernel
theorem dX6_wordAt_22 : decode cX6_wordAt 22 = .ok (.bipush 117, 2) := by decide +kernel
theorem dX6_wordAt_24 : decode cX6_wordAt 24 = .ok (.bipush 114, 2) := by decide +kernel
theorem dX6_wordAt_26 : decode cX6_wordAt 26 = .ok (.bipush 110, 2) := by decide +kernel
theorem dX6_wordAt_28 : decode cX6_wordAt 28 = .ok (.iconst 0, 1) := by decide +kernel
theorem dX6_wordAt_29 : decode cX6_wordAt 29 = .ok (.invokevirtual 125, 3) := by decide +kernel
theorem dX6_wordAt_32 : decode cX6_wordAt 32 = .ok (.ifCond .eq 5, 3) := by decide +kernel
theorem dX6_wordAt_35 : decode cX6_wordAt 35 = .ok (.iconst 1, 1) := by decide +kernel
theorem dX6_wordAt_36 : decode cX6_wordAt 36 = .ok (.ireturn, 1) := by decide +kernel
theorem dX6_wordAt_37 : decode cX6_wordAt 37 = .ok (.aload_n 0, 1) := by decide +kernel
theorem dX6_wordAt_38 : decode cX6_wordAt 38 = .ok (.iload_n 1, 1) := by decide +kernel
theorem dX6_wordAt_39 : decode cX6_wordAt 39 = .ok (.bipush 110, 2) := by decide +kernel
theorem dX6_wordAt_41 : decode cX6_wordAt 41 = .ok (.bipush 101, 2) := by decide +kernel
theorem dX6_wordAt_43 : decode cX6_wordAt 43 = .ok (.bipush 120, 2) := by decide +kernel
theorem dX6_wordAt_45 : decode cX6_wordAt 45 = .ok (.bipush 116, 2) := by decide +kernel
theorem dX6_wordAt_47 : decode cX6_wordAt 47 = .ok (.iconst 0, 1) := by decide +kernel
theorem dX6_wordAt_48 : decode cX6_wordAt 48 = .ok (.invokevirtual 125, 3) := by decide +kernel
theorem dX6_wordAt_51 : decode cX6_wordAt 51 = .ok (.ifCond .eq 5, 3) := by decide +kernel
theorem dX6_wordAt_54 : decode cX6_wordAt 54 = .ok (.iconst 2, 1) := by decide +kernel
theorem dX6_wordAt_55 : decode cX6_wordAt 55 = .ok (.ireturn, 1) := by decide +kernel
theorem dX6_wordAt_56 : decode cX6_wordAt 56 = .ok (.aload_n 0, 1) := by decide +kernel
theorem dX6_wordAt_57 : decode cX6_wordAt 57 = .ok (.iload_n 1, 1) := by decide +kernel
theorem dX6_wordAt_58 : decode cX6_wordAt 58 = .ok (.bipush 112, 2) := by decide +kernel
theorem dX6_wordAt_60 : decode cX6_wordAt 60 = .ok (.bipush 108, 2) := by decide +kernel
theorem dX6_wordAt_62 : decode cX6_wordAt 62 = .ok (.bipush 97, 2) := by decide +kernel
theorem dX6_wordAt_64 : decode cX6_wordAt 64 = .ok (.bipush 99, 2) := by decide +kernel
theorem dX6_wordAt_66 : decode cX6_wordAt 66 = .ok (.bipush 101, 2) := by decide +kernel
theorem dX6_wordAt_68 : decode cX6_wordAt 68 = .ok (.invokevirtual 125, 3) := by decide +kernel
theorem dX6_wordAt_71 : decode cX6_wordAt 71 = .ok (.ifCond .eq 7, 3) := by decide +kernel
theorem dX6_wordAt_74 : decode cX6_wordAt 74 = .ok (.iconst 3, 1) := by decide +kernel
theorem dX6_wordAt_75 : decode cX6_wordAt 75 = .ok (.goto 26, 3) := by decide +kernel
theorem dX6_wordAt_78 : decode cX6_wordAt 78 = .ok (.aload_n 0, 1) := by decide +kernel
theorem dX6_wordAt_79 : decode cX6_wordAt 79 = .ok (.iload_n 1, 1) := by decide +kernel
theorem dX6_wordAt_80 : decode cX6_wordAt 80 = .ok (.bipush 107, 2) := by decide +kernel
theorem dX6_wordAt_82 : decode cX6_wordAt 82 = .ok (.bipush 101, 2) := by decide +kernel
theorem dX6_wordAt_84 : decode cX6_wordAt 84 = .ok (.bipush 101, 2) := by decide +kernel
theorem dX6_wordAt_86 : decode cX6_wordAt 86 = .ok (.bipush 112, 2) := by decide +kernel
theorem dX6_wordAt_88 : decode cX6_wordAt 88 = .ok (.iconst 0, 1) := by decide +kernel
theorem dX6_wordAt_89 : decode cX6_wordAt 89 = .ok (.invokevirtual 125, 3) := by decide +kernel
theorem dX6_wordAt_92 : decode cX6_wordAt 92 = .ok (.ifCond .eq 7, 3) := by decide +kernel
theorem dX6_wordAt_95 : decode cX6_wordAt 95 = .ok (.iconst 4, 1) := by decide +kernel
theorem dX6_wordAt_96 : decode cX6_wordAt 96 = .ok (.goto 5, 3) := by decide +kernel
theorem dX6_wordAt_99 : decode cX6_wordAt 99 = .ok (.ldc 50, 2) := by decide +kernel
theorem dX6_wordAt_101 : decode cX6_wordAt 101 = .ok (.ireturn, 1) := by decide +kernel
theorem dX6_passes_0 : decode cX6_passes 0 = .ok (.aload_n 0, 1) := by decide +kernel
theorem dX6_passes_1 : decode cX6_passes 1 = .ok (.iload_n 1, 1) := by decide +kernel
theorem dX6_passes_2 : decode cX6_passes 2 = .ok (.iload_n 1, 1) := by decide +kernel
theorem dX6_passes_3 : decode cX6_passes 3 = .ok (.invokevirtual 129, 3) := by decide +kernel
theorem dX6_passes_6 : decode cX6_passes 6 = .ok (.istore_n 2, 1) := by decide +kernel
theorem dX6_passes_7 : decode cX6_passes 7 = .ok (.aload_n 0, 1) := by decide +kernel
theorem dX6_passes_8 : decode cX6_passes 8 = .ok (.dup, 1) := by decide +kernel
theorem dX6_passes_9 : decode cX6_passes 9 = .ok (.getfield 122, 3) := by decide +kernel
theorem dX6_passes_12 : decode cX6_passes 12 = .ok (.iload_n 2, 1) := by decide +kernel
theorem dX6_passes_13 : decode cX6_passes 13 = .ok (.ifCond .eq 7, 3) := by decide +kernel
theorem dX6_passes_16 : decode cX6_passes 16 = .ok (.iconst 1, 1) := by decide +kernel
theorem dX6_passes_17 : decode cX6_passes 17 = .ok (.goto 4, 3) := by decide +kernel
theorem dX6_passes_20 : decode cX6_passes 20 = .ok (.iconst 0, 1) := by decide +kernel
theorem dX6_passes_21 : decode cX6_passes 21 = .ok (.iadd, 1) := by decide +kernel
theorem dX6_passes_22 : decode cX6_passes 22 = .ok (.putfield 122, 3) := by decide +kernel
theorem dX6_passes_25 : decode cX6_passes 25 = .ok (.iload_n 2, 1) := by decide +kernel
theorem dX6_passes_26 : decode cX6_passes 26 = .ok (.ireturn, 1) := by decide +kernel
theorem dX6_lettersRead_0 : decode cX6_lettersRead 0 = .ok (.aload_n 0, 1) := by decide +kernel
theorem dX6_lettersRead_1 : decode cX6_lettersRead 1 = .ok (.getfield 122, 3) := by decide +kernel
theorem dX6_lettersRead_4 : decode cX6_lettersRead 4 = .ok (.istore_n 1, 1) := by decide +kernel
theorem dX6_lettersRead_5 : decode cX6_lettersRead 5 = .ok (.aload_n 0, 1) := by decide +kernel
theorem dX6_lettersRead_6 : decode cX6_lettersRead 6 = .ok (.bipush 97, 2) := by decide +kernel
theorem dX6_lettersRead_8 : decode cX6_lettersRead 8 = .ok (.bipush 100, 2) := by decide +kernel
theorem dX6_lettersRead_10 : decode cX6_lettersRead 10 = .ok (.invokevirtual 129, 3) := by decide +kernel
theorem dX6_lettersRead_13 : decode cX6_lettersRead 13 = .ok (.ifCond .eq 27, 3) := by decide +kernel
theorem dX6_lettersRead_16 : decode cX6_lettersRead 16 = .ok (.aload_n 0, 1) := by decide +kernel
theorem dX6_lettersRead_17 : decode cX6_lettersRead 17 = .ok (.getfield 122, 3) := by decide +kernel
theorem dX6_lettersRead_20 : decode cX6_lettersRead 20 = .ok (.iload_n 1, 1) := by decide +kernel
theorem dX6_lettersRead_21 : decode cX6_lettersRead 21 = .ok (.isub, 1) := by decide +kernel
theorem dX6_lettersRead_22 : decode cX6_lettersRead 22 = .ok (.bipush 10, 2) := by decide +kernel
theorem dX6_lettersRead_24 : decode cX6_lettersRead 24 = .ok (.if_icmp .ge 16, 3) := by decide +kernel
theorem dX6_lettersRead_27 : decode cX6_lettersRead 27 = .ok (.aload_n 0, 1) := by decide +kernel
theorem dX6_lettersRead_28 : decode cX6_lettersRead 28 = .ok (.dup, 1) := by decide +kernel
theorem dX6_lettersRead_29 : decode cX6_lettersRead 29 = .ok (.getfield 122, 3) := by decide +kernel
theorem dX6_lettersRead_32 : decode cX6_lettersRead 32 = .ok (.iconst 1, 1) := by decide +kernel
theorem dX6_lettersRead_33 : decode cX6_lettersRead 33 = .ok (.iadd, 1) := by decide +kernel
theorem dX6_lettersRead_34 : decode cX6_lettersRead 34 = .ok (.putfield 122, 3) := by decide +kernel
theorem dX6_lettersRead_37 : decode cX6_lettersRead 37 = .ok (.goto (-32), 3) := by decide +kernel
theorem dX6_lettersRead_40 : decode cX6_lettersRead 40 = .ok (.aload_n 0, 1) := by decide +kernel
theorem dX6_lettersRead_41 : decode cX6_lettersRead 41 = .ok (.getfield 122, 3) := by decide +kernel
theorem dX6_lettersRead_44 : decode cX6_lettersRead 44 = .ok (.iload_n 1, 1) := by decide +kernel
theorem dX6_lettersRead_45 : decode cX6_lettersRead 45 = .ok (.if_icmp .le 7, 3) := by decide +kernel
theorem dX6_lettersRead_48 : decode cX6_lettersRead 48 = .ok (.iconst 1, 1) := by decide +kernel
theorem dX6_lettersRead_49 : decode cX6_lettersRead 49 = .ok (.goto 4, 3) := by decide +kernel
theorem dX6_lettersRead_52 : decode cX6_lettersRead 52 = .ok (.iconst 0, 1) := by decide +kernel
theorem dX6_lettersRead_53 : decode cX6_lettersRead 53 = .ok (.ireturn, 1) := by decide +kernel
theorem dX6_kindRead_0 : decode cX6_kindRead 0 = .ok (.aload_n 0, 1) := by decide +kernel
theorem dX6_kindRead_1 : decode cX6_kindRead 1 = .ok (.bipush 32, 2) := by decide +kernel
theorem dX6_kindRead_3 : decode cX6_kindRead 3 = .ok (.invokevirtual 132, 3) := by decide +kernel
theorem dX6_kindRead_6 : decode cX6_kindRead 6 = .ok (.ifCond .eq 14, 3) := by decide +kernel
theorem dX6_kindRead_9 : decode cX6_kindRead 9 = .ok (.aload_n 0, 1) := by decide +kernel
theorem dX6_kindRead_10 : decode cX6_kindRead 10 = .ok (.bipush 48, 2) := by decide +kernel
theorem dX6_kindRead_12 : decode cX6_kindRead 12 = .ok (.bipush 57, 2) := by decide +kernel
theorem dX6_kindRead_14 : decode cX6_kindRead 14 = .ok (.invokevirtual 129, 3) := by decide +kernel
theorem dX6_kindRead_17 : decode cX6_kindRead 17 = .ok (.ifCond .ne 5, 3) := by decide +kernel
theorem dX6_kindRead_20 : decode cX6_kindRead 20 = .ok (.iconst 0, 1) := by decide +kernel
theorem dX6_kindRead_21 : decode cX6_kindRead 21 = .ok (.ireturn, 1) := by decide +kernel
theorem dX6_kindRead_22 : decode cX6_kindRead 22 = .ok (.aload_n 0, 1) := by decide +kernel
theorem dX6_kindRead_23 : decode cX6_kindRead 23 = .ok (.aload_n 0, 1) := by decide +kernel
theorem dX6_kindRead_24 : decode cX6_kindRead 24 = .ok (.getfield 19, 3) := by decide +kernel
theorem dX6_kindRead_27 : decode cX6_kindRead 27 = .ok (.aload_n 0, 1) := by decide +kernel
theorem dX6_kindRead_28 : decode cX6_kindRead 28 = .ok (.getfield 122, 3) := by decide +kernel
theorem dX6_kindRead_31 : decode cX6_kindRead 31 = .ok (.iaload, 1) := by decide +kernel
theorem dX6_kindRead_32 : decode cX6_kindRead 32 = .ok (.bipush 48, 2) := by decide +kernel
theorem dX6_kindRead_34 : decode cX6_kindRead 34 = .ok (.isub, 1) := by decide +kernel
theorem dX6_kindRead_35 : decode cX6_kindRead 35 = .ok (.putfield 135, 3) := by decide +kernel
theorem dX6_kindRead_38 : decode cX6_kindRead 38 = .ok (.aload_n 0, 1) := by decide +kernel
theorem dX6_kindRead_39 : decode cX6_kindRead 39 = .ok (.dup, 1) := by decide +kernel
theorem dX6_kindRead_40 : decode cX6_kindRead 40 = .ok (.getfield 122, 3) := by decide +kernel
theorem dX6_kindRead_43 : decode cX6_kindRead 43 = .ok (.iconst 1, 1) := by decide +kernel
theorem dX6_kindRead_44 : decode cX6_kindRead 44 = .ok (.iadd, 1) := by decide +kernel
theorem dX6_kindRead_45 : decode cX6_kindRead 45 = .ok (.putfield 122, 3) := by decide +kernel
theorem dX6_kindRead_48 : decode cX6_kindRead 48 = .ok (.iconst 1, 1) := by decide +kernel
theorem dX6_kindRead_49 : decode cX6_kindRead 49 = .ok (.ireturn, 1) := by decide +kernel
theorem dX6_numberRead_0 : decode cX6_numberRead 0 = .ok (.aload_n 0, 1) := by decide +kernel
theorem dX6_numberRead_1 : decode cX6_numberRead 1 = .ok (.bipush 32, 2) := by decide +kernel
theorem dX6_numberRead_3 : decode cX6_numberRead 3 = .ok (.invokevirtual 132, 3) := by decide +kernel
theorem dX6_numberRead_6 : decode cX6_numberRead 6 = .ok (.ifCond .ne 5, 3) := by decide +kernel
theorem dX6_numberRead_9 : decode cX6_numberRead 9 = .ok (.iconst 0, 1) := by decide +kernel
theorem dX6_numberRead_10 : decode cX6_numberRead 10 = .ok (.ireturn, 1) := by decide +kernel
theorem dX6_numberRead_11 : decode cX6_numberRead 11 = .ok (.aload_n 0, 1) := by decide +kernel
theorem dX6_numberRead_12 : decode cX6_numberRead 12 = .ok (.getfield 122, 3) := by decide +kernel
theorem dX6_numberRead_15 : decode cX6_numberRead 15 = .ok (.istore_n 1, 1) := by decide +kernel
theorem dX6_numberRead_16 : decode cX6_numberRead 16 = .ok (.aload_n 0, 1) := by decide +kernel
theorem dX6_numberRead_17 : decode cX6_numberRead 17 = .ok (.iconst 0, 1) := by decide +kernel
theorem dX6_numberRead_18 : decode cX6_numberRead 18 = .ok (.putfield 138, 3) := by decide +kernel
theorem dX6_numberRead_21 : decode cX6_numberRead 21 = .ok (.aload_n 0, 1) := by decide +kernel
theorem dX6_numberRead_22 : decode cX6_numberRead 22 = .ok (.bipush 48, 2) := by decide +kernel
theorem dX6_numberRead_24 : decode cX6_numberRead 24 = .ok (.bipush 57, 2) := by decide +kernel
theorem dX6_numberRead_26 : decode cX6_numberRead 26 = .ok (.invokevirtual 129, 3) := by decide +kernel
theorem dX6_numberRead_29 : decode cX6_numberRead 29 = .ok (.ifCond .eq 51, 3) := by decide +kernel
theorem dX6_numberRead_32 : decode cX6_numberRead 32 = .ok (.aload_n 0, 1) := by decide +kernel
theorem dX6_numberRead_33 : decode cX6_numberRead 33 = .ok (.getfield 122, 3) := by decide +kernel
theorem dX6_numberRead_36 : decode cX6_numberRead 36 = .ok (.iload_n 1, 1) := by decide +kernel
theorem dX6_numberRead_37 : decode cX6_numberRead 37 = .ok (.isub, 1) := by decide +kernel
theorem dX6_numberRead_38 : decode cX6_numberRead 38 = .ok (.bipush 6, 2) := by decide +kernel
theorem dX6_numberRead_40 : decode cX6_numberRead 40 = .ok (.if_icmp .ge 40, 3) := by decide +kernel
theorem dX6_numberRead_43 : decode cX6_numberRead 43 = .ok (.aload_n 0, 1) := by decide +kernel
theorem dX6_numberRead_44 : decode cX6_numberRead 44 = .ok (.bipush 10, 2) := by decide +kernel
theorem dX6_numberRead_46 : decode cX6_numberRead 46 = .ok (.aload_n 0, 1) := by decide +kernel
theorem dX6_numberRead_47 : decode cX6_numberRead 47 = .ok (.getfield 138, 3) := by decide +kernel
theorem dX6_numberRead_50 : decode cX6_numberRead 50 = .ok (.imul, 1) := by decide +kernel
theorem dX6_numberRead_51 : decode cX6_numberRead 51 = .ok (.aload_n 0, 1) := by decide +kernel
theorem dX6_numberRead_52 : decode cX6_numberRead 52 = .ok (.getfield 19, 3) := by decide +kernel
theorem dX6_numberRead_55 : decode cX6_numberRead 55 = .ok (.aload_n 0, 1) := by decide +kernel
theorem dX6_numberRead_56 : decode cX6_numberRead 56 = .ok (.getfield 122, 3) := by decide +kernel
theorem dX6_numberRead_59 : decode cX6_numberRead 59 = .ok (.iaload, 1) := by decide +kernel
theorem dX6_numberRead_60 : decode cX6_numberRead 60 = .ok (.iadd, 1) := by decide +kernel
theorem dX6_numberRead_61 : decode cX6_numberRead 61 = .ok (.bipush 48, 2) := by decide +kernel
theorem dX6_numberRead_63 : decode cX6_numberRead 63 = .ok (.isub, 1) := by decide +kernel
theorem dX6_numberRead_64 : decode cX6_numberRead 64 = .ok (.putfield 138, 3) := by decide +kernel
theorem dX6_numberRead_67 : decode cX6_numberRead 67 = .ok (.aload_n 0, 1) := by decide +kernel
theorem dX6_numberRead_68 : decode cX6_numberRead 68 = .ok (.dup, 1) := by decide +kernel
theorem dX6_numberRead_69 : decode cX6_numberRead 69 = .ok (.getfield 122, 3) := by decide +kernel
theorem dX6_numberRead_72 : decode cX6_numberRead 72 = .ok (.iconst 1, 1) := by decide +kernel
theorem dX6_numberRead_73 : decode cX6_numberRead 73 = .ok (.iadd, 1) := by decide +kernel
theorem dX6_numberRead_74 : decode cX6_numberRead 74 = .ok (.putfield 122, 3) := by decide +kernel
theorem dX6_numberRead_77 : decode cX6_numberRead 77 = .ok (.goto (-56), 3) := by decide +kernel
theorem dX6_numberRead_80 : decode cX6_numberRead 80 = .ok (.aload_n 0, 1) := by decide +kernel
theorem dX6_numberRead_81 : decode cX6_numberRead 81 = .ok (.getfield 122, 3) := by decide +kernel
theorem dX6_numberRead_84 : decode cX6_numberRead 84 = .ok (.iload_n 1, 1) := by decide +kernel
theorem dX6_numberRead_85 : decode cX6_numberRead 85 = .ok (.if_icmp .le 7, 3) := by decide +kernel
theorem dX6_numberRead_88 : decode cX6_numberRead 88 = .ok (.iconst 1, 1) := by decide +kernel
theorem dX6_numberRead_89 : decode cX6_numberRead 89 = .ok (.goto 4, 3) := by decide +kernel
theorem dX6_numberRead_92 : decode cX6_numberRead 92 = .ok (.iconst 0, 1) := by decide +kernel
theorem dX6_numberRead_93 : decode cX6_numberRead 93 = .ok (.ireturn, 1) := by decide +kernel
theorem dX6_isForm_0 : decode cX6_isForm 0 = .ok (.iload_n 1, 1) := by decide +kernel
theorem dX6_isForm_1 : decode cX6_isForm 1 = .ok (.ifCond .ne 27, 3) := by decide +kernel
theorem dX6_isForm_4 : decode cX6_isForm 4 = .ok (.aload_n 0, 1) := by decide +kernel
theorem dX6_isForm_5 : decode cX6_isForm 5 = .ok (.bipush 32, 2) := by decide +kernel
theorem dX6_isForm_7 : decode cX6_isForm 7 = .ok (.invokevirtual 132, 3) := by decide +kernel
theorem dX6_isForm_10 : decode cX6_isForm 10 = .ok (.ifCond .eq 14, 3) := by decide +kernel
theorem dX6_isForm_13 : decode cX6_isForm 13 = .ok (.aload_n 0, 1) := by decide +kernel
theorem dX6_isForm_14 : decode cX6_isForm 14 = .ok (.invokevirtual 141, 3) := by decide +kernel
theorem dX6_isForm_17 : decode cX6_isForm 17 = .ok (.ifCond .eq 7, 3) := by decide +kernel
theorem dX6_isForm_20 : decode cX6_isForm 20 = .ok (.iconst 1, 1) := by decide +kernel
theorem dX6_isForm_21 : decode cX6_isForm 21 = .ok (.goto 41, 3) := by decide +kernel
theorem dX6_isForm_24 : decode cX6_isForm 24 = .ok (.iconst 0, 1) := by decide +kernel
theorem dX6_isForm_25 : decode cX6_isForm 25 = .ok (.goto 37, 3) := by decide +kernel
theorem dX6_isForm_28 : decode cX6_isForm 28 = .ok (.iload_n 1, 1) := by decide +kernel
theorem dX6_isForm_29 : decode cX6_isForm 29 = .ok (.iconst 2, 1) := by decide +kernel
theorem dX6_isForm_30 : decode cX6_isForm 30 = .ok (.if_icmp .lt 27, 3) := by decide +kernel
theorem dX6_isForm_33 : decode cX6_isForm 33 = .ok (.iload_n 1, 1) := by decide +kernel
theorem dX6_isForm_34 : decode cX6_isForm 34 = .ok (.iconst 4, 1) := by decide +kernel
theorem dX6_isForm_35 : decode cX6_isForm 35 = .ok (.if_icmp .eq 22, 3) := by decide +kernel
theorem dX6_isForm_38 : decode cX6_isForm 38 = .ok (.aload_n 0, 1) := by decide +kernel
theorem dX6_isForm_39 : decode cX6_isForm 39 = .ok (.invokevirtual 144, 3) := by decide +kernel
theorem dX6_isForm_42 : decode cX6_isForm 42 = .ok (.ifCond .eq 19, 3) := by decide +kernel
theorem dX6_isForm_45 : decode cX6_isForm 45 = .ok (.iload_n 1, 1) := by decide +kernel
theorem dX6_isForm_46 : decode cX6_isForm 46 = .ok (.iconst 2, 1) := by decide +kernel
theorem dX6_isForm_47 : decode cX6_isForm 47 = .ok (.if_icmp .eq 10, 3) := by decide +kernel
theorem dX6_isForm_50 : decode cX6_isForm 50 = .ok (.aload_n 0, 1) := by decide +kernel
theorem dX6_isForm_51 : decode cX6_isForm 51 = .ok (.invokevirtual 147, 3) := by decide +kernel
theorem dX6_isForm_54 : decode cX6_isForm 54 = .ok (.ifCond .eq 7, 3) := by decide +kernel
theorem dX6_isForm_57 : decode cX6_isForm 57 = .ok (.iconst 1, 1) := by decide +kernel
theorem dX6_isForm_58 : decode cX6_isForm 58 = .ok (.goto 4, 3) := by decide +kernel
theorem dX6_isForm_61 : decode cX6_isForm 61 = .ok (.iconst 0, 1) := by decide +kernel
theorem dX6_isForm_62 : decode cX6_isForm 62 = .ok (.istore_n 2, 1) := by decide +kernel
theorem dX6_isForm_63 : decode cX6_isForm 63 = .ok (.iload_n 2, 1) := by decide +kernel
theorem dX6_isForm_64 : decode cX6_isForm 64 = .ok (.ifCond .eq 16, 3) := by decide +kernel
theorem dX6_isForm_67 : decode cX6_isForm 67 = .ok (.aload_n 0, 1) := by decide +kernel
theorem dX6_isForm_68 : decode cX6_isForm 68 = .ok (.bipush 59, 2) := by decide +kernel
theorem dX6_isForm_70 : decode cX6_isForm 70 = .ok (.invokevirtual 132, 3) := by decide +kernel
theorem dX6_isForm_73 : decode cX6_isForm 73 = .ok (.ifCond .eq 7, 3) := by decide +kernel
theorem dX6_isForm_76 : decode cX6_isForm 76 = .ok (.iconst 1, 1) := by decide +kernel
theorem dX6_isForm_77 : decode cX6_isForm 77 = .ok (.goto 4, 3) := by decide +kernel
theorem dX6_isForm_80 : decode cX6_isForm 80 = .ok (.iconst 0, 1) := by decide +kernel
theorem dX6_isForm_81 : decode cX6_isForm 81 = .ok (.ireturn, 1) := by decide +kernel
theorem dX6_lays_0 : decode cX6_lays 0 = .ok (.aload_n 0, 1) := by decide +kernel
theorem dX6_lays_1 : decode cX6_lays 1 = .ok (.getfield 7, 3) := by decide +kernel
theorem dX6_lays_4 : decode cX6_lays 4 = .ok (.iconst 0, 1) := by decide +kernel
theorem dX6_lays_5 : decode cX6_lays 5 = .ok (.iload_n 2, 1) := by decide +kernel
theorem dX6_lays_6 : decode cX6_lays 6 = .ok (.iload_n 1, 1) := by decide +kernel
theorem dX6_lays_7 : decode cX6_lays 7 = .ok (.isub, 1) := by decide +kernel
theorem dX6_lays_8 : decode cX6_lays 8 = .ok (.iastore, 1) := by decide +kernel
theorem dX6_lays_9 : decode cX6_lays 9 = .ok (.iload_n 1, 1) := by decide +kernel
theorem dX6_lays_10 : decode cX6_lays 10 = .ok (.istore_n 3, 1) := by decide +kernel
theorem dX6_lays_11 : decode cX6_lays 11 = .ok (.iload_n 3, 1) := by decide +kernel
theorem dX6_lays_12 : decode cX6_lays 12 = .ok (.iload_n 2, 1) := by decide +kernel
theorem dX6_lays_13 : decode cX6_lays 13 = .ok (.if_icmp .ge 28, 3) := by decide +kernel
theorem dX6_lays_16 : decode cX6_lays 16 = .ok (.aload_n 0, 1) := by decide +kernel
theorem dX6_lays_17 : decode cX6_lays 17 = .ok (.getfield 7, 3) := by decide +kernel
theorem dX6_lays_20 : decode cX6_lays 20 = .ok (.iconst 1, 1) := by decide +kernel
theorem dX6_lays_21 : decode cX6_lays 21 = .ok (.iload_n 3, 1) := by decide +kernel
theorem dX6_lays_22 : decode cX6_lays 22 = .ok (.iadd, 1) := by decide +kernel
theorem dX6_lays_23 : decode cX6_lays 23 = .ok (.iload_n 1, 1) := by decide +kernel
theorem dX6_lays_24 : decode cX6_lays 24 = .ok (.isub, 1) := by decide +kernel
theorem dX6_lays_25 : decode cX6_lays 25 = .ok (.aload_n 0, 1) := by decide +kernel
theorem dX6_lays_26 : decode cX6_lays 26 = .ok (.getfield 19, 3) := by decide +kernel
theorem dX6_lays_29 : decode cX6_lays 29 = .ok (.iload_n 3, 1) := by decide +kernel
theorem dX6_lays_30 : decode cX6_lays 30 = .ok (.iaload, 1) := by decide +kernel
theorem dX6_lays_31 : decode cX6_lays 31 = .ok (.bipush 97, 2) := by decide +kernel
theorem dX6_lays_33 : decode cX6_lays 33 = .ok (.isub, 1) := by decide +kernel
theorem dX6_lays_34 : decode cX6_lays 34 = .ok (.iastore, 1) := by decide +kernel
theorem dX6_lays_35 : decode cX6_lays 35 = .ok (.iinc 3 1, 3) := by decide +kernel
theorem dX6_lays_38 : decode cX6_lays 38 = .ok (.goto (-27), 3) := by decide +kernel
theorem dX6_lays_41 : decode cX6_lays 41 = .ok (.return_, 1) := by decide +kernel
theorem dX6_does_0 : decode cX6_does 0 = .ok (.aload_n 0, 1) := by decide +kernel
theorem dX6_does_1 : decode cX6_does 1 = .ok (.getfield 7, 3) := by decide +kernel
theorem dX6_does_4 : decode cX6_does 4 = .ok (.iconst 0, 1) := by decide +kernel
theorem dX6_does_5 : decode cX6_does 5 = .ok (.iaload, 1) := by decide +kernel
theorem dX6_does_6 : decode cX6_does 6 = .ok (.ifCond .ne 7, 3) := by decide +kernel
theorem dX6_does_9 : decode cX6_does 9 = .ok (.iconst 1, 1) := by decide +kernel
theorem dX6_does_10 : decode cX6_does 10 = .ok (.goto 4, 3) := by decide +kernel
theorem dX6_does_13 : decode cX6_does 13 = .ok (.iconst 0, 1) := by decide +kernel
theorem dX6_does_14 : decode cX6_does 14 = .ok (.istore_n 3, 1) := by decide +kernel
theorem dX6_does_15 : decode cX6_does 15 = .ok (.iload_n 1, 1) := by decide +kernel
theorem dX6_does_16 : decode cX6_does 16 = .ok (.tableswitch 104 0 3 #[32, 47, 62, 81], 32) := by decide +kernel
theorem dX6_does_48 : decode cX6_does 48 = .ok (.aload_n 0, 1) := by decide +kernel
theorem dX6_does_49 : decode cX6_does 49 = .ok (.iload_n 2, 1) := by decide +kernel
theorem dX6_does_50 : decode cX6_does 50 = .ok (.iconst 4, 1) := by decide +kernel
theorem dX6_does_51 : decode cX6_does 51 = .ok (.iadd, 1) := by decide +kernel
theorem dX6_does_52 : decode cX6_does 52 = .ok (.aload_n 0, 1) := by decide +kernel
theorem dX6_does_53 : decode cX6_does 53 = .ok (.getfield 122, 3) := by decide +kernel
theorem dX6_does_56 : decode cX6_does 56 = .ok (.iconst 1, 1) := by decide +kernel
theorem dX6_does_57 : decode cX6_does 57 = .ok (.isub, 1) := by decide +kernel
theorem dX6_does_58 : decode cX6_does 58 = .ok (.invokevirtual 150, 3) := by decide +kernel
theorem dX6_does_61 : decode cX6_does 61 = .ok (.iconst 0, 1) := by decide +kernel
theorem dX6_does_62 : decode cX6_does 62 = .ok (.ireturn, 1) := by decide +kernel
theorem dX6_does_63 : decode cX6_does 63 = .ok (.aload_n 0, 1) := by decide +kernel
theorem dX6_does_64 : decode cX6_does 64 = .ok (.invokevirtual 153, 3) := by decide +kernel
theorem dX6_does_67 : decode cX6_does 67 = .ok (.ldc 49, 2) := by decide +kernel
theorem dX6_does_69 : decode cX6_does 69 = .ok (.if_icmp .ne 7, 3) := by decide +kernel
theorem dX6_does_72 : decode cX6_does 72 = .ok (.iconst 3, 1) := by decide +kernel
theorem dX6_does_73 : decode cX6_does 73 = .ok (.goto 4, 3) := by decide +kernel
theorem dX6_does_76 : decode cX6_does 76 = .ok (.iconst 0, 1) := by decide +kernel
theorem dX6_does_77 : decode cX6_does 77 = .ok (.ireturn, 1) := by decide +kernel
theorem dX6_does_78 : decode cX6_does 78 = .ok (.aload_n 0, 1) := by decide +kernel
theorem dX6_does_79 : decode cX6_does 79 = .ok (.aload_n 0, 1) := by decide +kernel
theorem dX6_does_80 : decode cX6_does 80 = .ok (.getfield 135, 3) := by decide +kernel
theorem dX6_does_83 : decode cX6_does 83 = .ok (.invokevirtual 156, 3) := by decide +kernel
theorem dX6_does_86 : decode cX6_does 86 = .ok (.ldc 49, 2) := by decide +kernel
theorem dX6_does_88 : decode cX6_does 88 = .ok (.if_icmp .ne 7, 3) := by decide +kernel
theorem dX6_does_91 : decode cX6_does 91 = .ok (.iconst 1, 1) := by decide +kernel
theorem dX6_does_92 : decode cX6_does 92 = .ok (.goto 4, 3) := by decide +kernel
theorem dX6_does_95 : decode cX6_does 95 = .ok (.iconst 0, 1) := by decide +kernel
theorem dX6_does_96 : decode cX6_does 96 = .ok (.ireturn, 1) := by decide +kernel
theorem dX6_does_97 : decode cX6_does 97 = .ok (.aload_n 0, 1) := by decide +kernel
theorem dX6_does_98 : decode cX6_does 98 = .ok (.aload_n 0, 1) := by decide +kernel
theorem dX6_does_99 : decode cX6_does 99 = .ok (.getfield 135, 3) := by decide +kernel
theorem dX6_does_102 : decode cX6_does 102 = .ok (.aload_n 0, 1) := by decide +kernel
theorem dX6_does_103 : decode cX6_does 103 = .ok (.getfield 138, 3) := by decide +kernel
theorem dX6_does_106 : decode cX6_does 106 = .ok (.invokevirtual 159, 3) := by decide +kernel
theorem dX6_does_109 : decode cX6_does 109 = .ok (.ldc 49, 2) := by decide +kernel
theorem dX6_does_111 : decode cX6_does 111 = .ok (.if_icmp .ne 7, 3) := by decide +kernel
theorem dX6_does_114 : decode cX6_does 114 = .ok (.iconst 1, 1) := by decide +kernel
theorem dX6_does_115 : decode cX6_does 115 = .ok (.goto 4, 3) := by decide +kernel
theorem dX6_does_118 : decode cX6_does 118 = .ok (.iconst 0, 1) := by decide +kernel
theorem dX6_does_119 : decode cX6_does 119 = .ok (.ireturn, 1) := by decide +kernel
theorem dX6_does_120 : decode cX6_does 120 = .ok (.aload_n 0, 1) := by decide +kernel
theorem dX6_does_121 : decode cX6_does 121 = .ok (.getfield 7, 3) := by decide +kernel
theorem dX6_does_124 : decode cX6_does 124 = .ok (.bipush 27, 2) := by decide +kernel
theorem dX6_does_126 : decode cX6_does 126 = .ok (.iaload, 1) := by decide +kernel
theorem dX6_does_127 : decode cX6_does 127 = .ok (.bipush 8, 2) := by decide +kernel
theorem dX6_does_129 : decode cX6_does 129 = .ok (.if_icmp .ne 7, 3) := by decide +kernel
theorem dX6_does_132 : decode cX6_does 132 = .ok (.iconst 2, 1) := by decide +kernel
theorem dX6_does_133 : decode cX6_does 133 = .ok (.goto 23, 3) := by decide +kernel
theorem dX6_does_136 : decode cX6_does 136 = .ok (.iload_n 3, 1) := by decide +kernel
theorem dX6_does_137 : decode cX6_does 137 = .ok (.ifCond .eq 7, 3) := by decide +kernel
theorem dX6_does_140 : decode cX6_does 140 = .ok (.iconst 3, 1) := by decide +kernel
theorem dX6_does_141 : decode cX6_does 141 = .ok (.goto 15, 3) := by decide +kernel
theorem dX6_does_144 : decode cX6_does 144 = .ok (.aload_n 0, 1) := by decide +kernel
theorem dX6_does_145 : decode cX6_does 145 = .ok (.invokevirtual 162, 3) := by decide +kernel
theorem dX6_does_148 : decode cX6_does 148 = .ok (.ifCond .le 7, 3) := by decide +kernel
theorem dX6_does_151 : decode cX6_does 151 = .ok (.iconst 0, 1) := by decide +kernel
theorem dX6_does_152 : decode cX6_does 152 = .ok (.goto 4, 3) := by decide +kernel
theorem dX6_does_155 : decode cX6_does 155 = .ok (.iconst 2, 1) := by decide +kernel
theorem dX6_does_156 : decode cX6_does 156 = .ok (.ireturn, 1) := by decide +kernel
theorem dX6_plays_0 : decode cX6_plays 0 = .ok (.aload_n 0, 1) := by decide +kernel
theorem dX6_plays_1 : decode cX6_plays 1 = .ok (.iconst 1, 1) := by decide +kernel
theorem dX6_plays_2 : decode cX6_plays 2 = .ok (.putfield 32, 3) := by decide +kernel
theorem dX6_plays_5 : decode cX6_plays 5 = .ok (.aload_n 0, 1) := by decide +kernel
theorem dX6_plays_6 : decode cX6_plays 6 = .ok (.iconst 0, 1) := by decide +kernel
theorem dX6_plays_7 : decode cX6_plays 7 = .ok (.putfield 122, 3) := by decide +kernel
theorem dX6_plays_10 : decode cX6_plays 10 = .ok (.aload_n 0, 1) := by decide +kernel
theorem dX6_plays_11 : decode cX6_plays 11 = .ok (.iconst 0, 1) := by decide +kernel
theorem dX6_plays_12 : decode cX6_plays 12 = .ok (.putfield 165, 3) := by decide +kernel
theorem dX6_plays_15 : decode cX6_plays 15 = .ok (.aload_n 0, 1) := by decide +kernel
theorem dX6_plays_16 : decode cX6_plays 16 = .ok (.iconst 0, 1) := by decide +kernel
theorem dX6_plays_17 : decode cX6_plays 17 = .ok (.putfield 168, 3) := by decide +kernel
theorem dX6_plays_20 : decode cX6_plays 20 = .ok (.aload_n 0, 1) := by decide +kernel
theorem dX6_plays_21 : decode cX6_plays 21 = .ok (.iconst 0, 1) := by decide +kernel
theorem dX6_plays_22 : decode cX6_plays 22 = .ok (.putfield 171, 3) := by decide +kernel
theorem dX6_plays_25 : decode cX6_plays 25 = .ok (.iconst 0, 1) := by decide +kernel
theorem dX6_plays_26 : decode cX6_plays 26 = .ok (.istore_n 1, 1) := by decide +kernel
theorem dX6_plays_27 : decode cX6_plays 27 = .ok (.aload_n 0, 1) := by decide +kernel
theorem dX6_plays_28 : decode cX6_plays 28 = .ok (.getfield 122, 3) := by decide +kernel
theorem dX6_plays_31 : decode cX6_plays 31 = .ok (.aload_n 0, 1) := by decide +kernel
theorem dX6_plays_32 : decode cX6_plays 32 = .ok (.getfield 119, 3) := by decide +kernel
theorem dX6_plays_35 : decode cX6_plays 35 = .ok (.if_icmp .ge 154, 3) := by decide +kernel
theorem dX6_plays_38 : decode cX6_plays 38 = .ok (.aload_n 0, 1) := by decide +kernel
theorem dX6_plays_39 : decode cX6_plays 39 = .ok (.getfield 168, 3) := by decide +kernel
theorem dX6_plays_42 : decode cX6_plays 42 = .ok (.ifCond .ne 147, 3) := by decide +kernel
theorem dX6_plays_45 : decode cX6_plays 45 = .ok (.aload_n 0, 1) := by decide +kernel
theorem dX6_plays_46 : decode cX6_plays 46 = .ok (.getfield 122, 3) := by decide +kernel
theorem dX6_plays_49 : decode cX6_plays 49 = .ok (.istore_n 1, 1) := by decide +kernel
theorem dX6_plays_50 : decode cX6_plays 50 = .ok (.aload_n 0, 1) := by decide +kernel
theorem dX6_plays_51 : decode cX6_plays 51 = .ok (.bipush 97, 2) := by decide +kernel
theorem dX6_plays_53 : decode cX6_plays 53 = .ok (.bipush 122, 2) := by decide +kernel
theorem dX6_plays_55 : decode cX6_plays 55 = .ok (.invokevirtual 129, 3) := by decide +kernel
theorem dX6_plays_58 : decode cX6_plays 58 = .ok (.ifCond .eq 16, 3) := by decide +kernel
theorem dX6_plays_61 : decode cX6_plays 61 = .ok (.aload_n 0, 1) := by decide +kernel
theorem dX6_plays_62 : decode cX6_plays 62 = .ok (.dup, 1) := by decide +kernel
theorem dX6_plays_63 : decode cX6_plays 63 = .ok (.getfield 122, 3) := by decide +kernel
theorem dX6_plays_66 : decode cX6_plays 66 = .ok (.iconst 1, 1) := by decide +kernel
theorem dX6_plays_67 : decode cX6_plays 67 = .ok (.iadd, 1) := by decide +kernel
theorem dX6_plays_68 : decode cX6_plays 68 = .ok (.putfield 122, 3) := by decide +kernel
theorem dX6_plays_71 : decode cX6_plays 71 = .ok (.goto (-21), 3) := by decide +kernel
theorem dX6_plays_74 : decode cX6_plays 74 = .ok (.aload_n 0, 1) := by decide +kernel
theorem dX6_plays_75 : decode cX6_plays 75 = .ok (.iload_n 1, 1) := by decide +kernel
theorem dX6_plays_76 : decode cX6_plays 76 = .ok (.invokevirtual 174, 3) := by decide +kernel
theorem dX6_plays_79 : decode cX6_plays 79 = .ok (.istore_n 2, 1) := by decide +kernel
theorem dX6_plays_80 : decode cX6_plays 80 = .ok (.iload_n 2, 1) := by decide +kernel
theorem dX6_plays_81 : decode cX6_plays 81 = .ok (.ifCond .lt 11, 3) := by decide +kernel
theorem dX6_plays_84 : decode cX6_plays 84 = .ok (.aload_n 0, 1) := by decide +kernel
theorem dX6_plays_85 : decode cX6_plays 85 = .ok (.iload_n 2, 1) := by decide +kernel
theorem dX6_plays_86 : decode cX6_plays 86 = .ok (.invokevirtual 177, 3) := by decide +kernel
theorem dX6_plays_89 : decode cX6_plays 89 = .ok (.ifCond .ne 29, 3) := by decide +kernel
theorem dX6_plays_92 : decode cX6_plays 92 = .ok (.aload_n 0, 1) := by decide +kernel
theorem dX6_plays_93 : decode cX6_plays 93 = .ok (.iconst 1, 1) := by decide +kernel
theorem dX6_plays_94 : decode cX6_plays 94 = .ok (.putfield 168, 3) := by decide +kernel
theorem dX6_plays_97 : decode cX6_plays 97 = .ok (.aload_n 0, 1) := by decide +kernel
theorem dX6_plays_98 : decode cX6_plays 98 = .ok (.iload_n 2, 1) := by decide +kernel
theorem dX6_plays_99 : decode cX6_plays 99 = .ok (.ifCond .ge 7, 3) := by decide +kernel
theorem dX6_plays_102 : decode cX6_plays 102 = .ok (.iconst 0, 1) := by decide +kernel
theorem dX6_plays_103 : decode cX6_plays 103 = .ok (.goto 9, 3) := by decide +kernel
theorem dX6_plays_106 : decode cX6_plays 106 = .ok (.aload_n 0, 1) := by decide +kernel
theorem dX6_plays_107 : decode cX6_plays 107 = .ok (.getfield 122, 3) := by decide +kernel
theorem dX6_plays_110 : decode cX6_plays 110 = .ok (.iload_n 1, 1) := by decide +kernel
theorem dX6_plays_111 : decode cX6_plays 111 = .ok (.isub, 1) := by decide +kernel
theorem dX6_plays_112 : decode cX6_plays 112 = .ok (.putfield 171, 3) := by decide +kernel
theorem dX6_plays_115 : decode cX6_plays 115 = .ok (.goto 71, 3) := by decide +kernel
theorem dX6_plays_118 : decode cX6_plays 118 = .ok (.iload_n 2, 1) := by decide +kernel
theorem dX6_plays_119 : decode cX6_plays 119 = .ok (.iconst 2, 1) := by decide +kernel
theorem dX6_plays_120 : decode cX6_plays 120 = .ok (.if_icmp .eq 8, 3) := by decide +kernel
theorem dX6_plays_123 : decode cX6_plays 123 = .ok (.iload_n 2, 1) := by decide +kernel
theorem dX6_plays_124 : decode cX6_plays 124 = .ok (.iconst 3, 1) := by decide +kernel
theorem dX6_plays_125 : decode cX6_plays 125 = .ok (.if_icmp .ne 25, 3) := by decide +kernel
theorem dX6_plays_128 : decode cX6_plays 128 = .ok (.aload_n 0, 1) := by decide +kernel
theorem dX6_plays_129 : decode cX6_plays 129 = .ok (.getfield 135, 3) := by decide +kernel
theorem dX6_plays_132 : decode cX6_plays 132 = .ok (.iconst 3, 1) := by decide +kernel
theorem dX6_plays_133 : decode cX6_plays 133 = .ok (.if_icmp .le 17, 3) := by decide +kernel
theorem dX6_plays_136 : decode cX6_plays 136 = .ok (.aload_n 0, 1) := by decide +kernel
theorem dX6_plays_137 : decode cX6_plays 137 = .ok (.iconst 2, 1) := by decide +kernel
theorem dX6_plays_138 : decode cX6_plays 138 = .ok (.putfield 168, 3) := by decide +kernel
theorem dX6_plays_141 : decode cX6_plays 141 = .ok (.aload_n 0, 1) := by decide +kernel
theorem dX6_plays_142 : decode cX6_plays 142 = .ok (.ldc 50, 2) := by decide +kernel
theorem dX6_plays_144 : decode cX6_plays 144 = .ok (.putfield 171, 3) := by decide +kernel
theorem dX6_plays_147 : decode cX6_plays 147 = .ok (.goto 39, 3) := by decide +kernel
theorem dX6_plays_150 : decode cX6_plays 150 = .ok (.aload_n 0, 1) := by decide +kernel
theorem dX6_plays_151 : decode cX6_plays 151 = .ok (.aload_n 0, 1) := by decide +kernel
theorem dX6_plays_152 : decode cX6_plays 152 = .ok (.iload_n 2, 1) := by decide +kernel
theorem dX6_plays_153 : decode cX6_plays 153 = .ok (.iload_n 1, 1) := by decide +kernel
theorem dX6_plays_154 : decode cX6_plays 154 = .ok (.invokevirtual 180, 3) := by decide +kernel
theorem dX6_plays_157 : decode cX6_plays 157 = .ok (.putfield 171, 3) := by decide +kernel
theorem dX6_plays_160 : decode cX6_plays 160 = .ok (.aload_n 0, 1) := by decide +kernel
theorem dX6_plays_161 : decode cX6_plays 161 = .ok (.aload_n 0, 1) := by decide +kernel
theorem dX6_plays_162 : decode cX6_plays 162 = .ok (.getfield 171, 3) := by decide +kernel
theorem dX6_plays_165 : decode cX6_plays 165 = .ok (.ifCond .le 7, 3) := by decide +kernel
theorem dX6_plays_168 : decode cX6_plays 168 = .ok (.iconst 3, 1) := by decide +kernel
theorem dX6_plays_169 : decode cX6_plays 169 = .ok (.goto 4, 3) := by decide +kernel
theorem dX6_plays_172 : decode cX6_plays 172 = .ok (.iconst 0, 1) := by decide +kernel
theorem dX6_plays_173 : decode cX6_plays 173 = .ok (.putfield 168, 3) := by decide +kernel
theorem dX6_plays_176 : decode cX6_plays 176 = .ok (.aload_n 0, 1) := by decide +kernel
theorem dX6_plays_177 : decode cX6_plays 177 = .ok (.dup, 1) := by decide +kernel
theorem dX6_plays_178 : decode cX6_plays 178 = .ok (.getfield 165, 3) := by decide +kernel
theorem dX6_plays_181 : decode cX6_plays 181 = .ok (.iconst 1, 1) := by decide +kernel
theorem dX6_plays_182 : decode cX6_plays 182 = .ok (.iadd, 1) := by decide +kernel
theorem dX6_plays_183 : decode cX6_plays 183 = .ok (.putfield 165, 3) := by decide +kernel
theorem dX6_plays_186 : decode cX6_plays 186 = .ok (.goto (-159), 3) := by decide +kernel
theorem dX6_plays_189 : decode cX6_plays 189 = .ok (.aload_n 0, 1) := by decide +kernel
theorem dX6_plays_190 : decode cX6_plays 190 = .ok (.iconst 0, 1) := by decide +kernel
theorem dX6_plays_191 : decode cX6_plays 191 = .ok (.putfield 32, 3) := by decide +kernel
theorem dX6_plays_194 : decode cX6_plays 194 = .ok (.aload_n 0, 1) := by decide +kernel
theorem dX6_plays_195 : decode cX6_plays 195 = .ok (.getfield 168, 3) := by decide +kernel
theorem dX6_plays_198 : decode cX6_plays 198 = .ok (.ifCond .ne 8, 3) := by decide +kernel
theorem dX6_plays_201 : decode cX6_plays 201 = .ok (.ldc 50, 2) := by decide +kernel
theorem dX6_plays_203 : decode cX6_plays 203 = .ok (.goto 4, 3) := by decide +kernel
theorem dX6_plays_206 : decode cX6_plays 206 = .ok (.iload_n 1, 1) := by decide +kernel
theorem dX6_plays_207 : decode cX6_plays 207 = .ok (.ireturn, 1) := by decide +kernel
theorem dX6_fault_0 : decode cX6_fault 0 = .ok (.iload_n 1, 1) := by decide +kernel
theorem dX6_fault_1 : decode cX6_fault 1 = .ok (.iconst 0, 1) := by decide +kernel
theorem dX6_fault_2 : decode cX6_fault 2 = .ok (.iconst 2, 1) := by decide +kernel
theorem dX6_fault_3 : decode cX6_fault 3 = .ok (.invokestatic 28, 3) := by decide +kernel
theorem dX6_fault_6 : decode cX6_fault 6 = .ok (.ifCond .ne 6, 3) := by decide +kernel
theorem dX6_fault_9 : decode cX6_fault 9 = .ok (.ldc 44, 2) := by decide +kernel
theorem dX6_fault_11 : decode cX6_fault 11 = .ok (.ireturn, 1) := by decide +kernel
theorem dX6_fault_12 : decode cX6_fault 12 = .ok (.aload_n 0, 1) := by decide +kernel
theorem dX6_fault_13 : decode cX6_fault 13 = .ok (.aload_n 0, 1) := by decide +kernel
theorem dX6_fault_14 : decode cX6_fault 14 = .ok (.getfield 7, 3) := by decide +kernel
theorem dX6_fault_17 : decode cX6_fault 17 = .ok (.aload_n 0, 1) := by decide +kernel
theorem dX6_fault_18 : decode cX6_fault 18 = .ok (.getfield 16, 3) := by decide +kernel
theorem dX6_fault_21 : decode cX6_fault 21 = .ok (.invokevirtual 183, 3) := by decide +kernel
theorem dX6_fault_24 : decode cX6_fault 24 = .ok (.aload_n 0, 1) := by decide +kernel
theorem dX6_fault_25 : decode cX6_fault 25 = .ok (.invokevirtual 187, 3) := by decide +kernel
theorem dX6_fault_28 : decode cX6_fault 28 = .ok (.istore_n 2, 1) := by decide +kernel
theorem dX6_fault_29 : decode cX6_fault 29 = .ok (.aload_n 0, 1) := by decide +kernel
theorem dX6_fault_30 : decode cX6_fault 30 = .ok (.aload_n 0, 1) := by decide +kernel
theorem dX6_fault_31 : decode cX6_fault 31 = .ok (.getfield 16, 3) := by decide +kernel
theorem dX6_fault_34 : decode cX6_fault 34 = .ok (.aload_n 0, 1) := by decide +kernel
theorem dX6_fault_35 : decode cX6_fault 35 = .ok (.getfield 7, 3) := by decide +kernel
theorem dX6_fault_38 : decode cX6_fault 38 = .ok (.invokevirtual 183, 3) := by decide +kernel
theorem dX6_fault_41 : decode cX6_fault 41 = .ok (.iload_n 2, 1) := by decide +kernel
theorem dX6_fault_42 : decode cX6_fault 42 = .ok (.ldc 50, 2) := by decide +kernel
theorem dX6_fault_44 : decode cX6_fault 44 = .ok (.if_icmp .eq 7, 3) := by decide +kernel
theorem dX6_fault_47 : decode cX6_fault 47 = .ok (.iload_n 1, 1) := by decide +kernel
theorem dX6_fault_48 : decode cX6_fault 48 = .ok (.ifCond .ne 7, 3) := by decide +kernel
theorem dX6_fault_51 : decode cX6_fault 51 = .ok (.iload_n 2, 1) := by decide +kernel
theorem dX6_fault_52 : decode cX6_fault 52 = .ok (.goto 19, 3) := by decide +kernel
theorem dX6_fault_55 : decode cX6_fault 55 = .ok (.iload_n 1, 1) := by decide +kernel
theorem dX6_fault_56 : decode cX6_fault 56 = .ok (.iconst 1, 1) := by decide +kernel
theorem dX6_fault_57 : decode cX6_fault 57 = .ok (.if_icmp .ne 10, 3) := by decide +kernel
theorem dX6_fault_60 : decode cX6_fault 60 = .ok (.aload_n 0, 1) := by decide +kernel
theorem dX6_fault_61 : decode cX6_fault 61 = .ok (.getfield 168, 3) := by decide +kernel
theorem dX6_fault_64 : decode cX6_fault 64 = .ok (.goto 7, 3) := by decide +kernel
theorem dX6_fault_67 : decode cX6_fault 67 = .ok (.aload_n 0, 1) := by decide +kernel
theorem dX6_fault_68 : decode cX6_fault 68 = .ok (.getfield 171, 3) := by decide +kernel
theorem dX6_fault_71 : decode cX6_fault 71 = .ok (.ireturn, 1) := by decide +kernel
theorem dX6_play_0 : decode cX6_play 0 = .ok (.aload_n 0, 1) := by decide +kernel
theorem dX6_play_1 : decode cX6_play 1 = .ok (.aload_n 0, 1) := by decide +kernel
theorem dX6_play_2 : decode cX6_play 2 = .ok (.getfield 7, 3) := by decide +kernel
theorem dX6_play_5 : decode cX6_play 5 = .ok (.aload_n 0, 1) := by decide +kernel
theorem dX6_play_6 : decode cX6_play 6 = .ok (.getfield 16, 3) := by decide +kernel
theorem dX6_play_9 : decode cX6_play 9 = .ok (.invokevirtual 183, 3) := by decide +kernel
theorem dX6_play_12 : decode cX6_play 12 = .ok (.aload_n 0, 1) := by decide +kernel
theorem dX6_play_13 : decode cX6_play 13 = .ok (.invokevirtual 187, 3) := by decide +kernel
theorem dX6_play_16 : decode cX6_play 16 = .ok (.istore_n 1, 1) := by decide +kernel
theorem dX6_play_17 : decode cX6_play 17 = .ok (.aload_n 0, 1) := by decide +kernel
theorem dX6_play_18 : decode cX6_play 18 = .ok (.aload_n 0, 1) := by decide +kernel
theorem dX6_play_19 : decode cX6_play 19 = .ok (.getfield 16, 3) := by decide +kernel
theorem dX6_play_22 : decode cX6_play 22 = .ok (.aload_n 0, 1) := by decide +kernel
theorem dX6_play_23 : decode cX6_play 23 = .ok (.getfield 7, 3) := by decide +kernel
theorem dX6_play_26 : decode cX6_play 26 = .ok (.invokevirtual 183, 3) := by decide +kernel
theorem dX6_play_29 : decode cX6_play 29 = .ok (.iload_n 1, 1) := by decide +kernel
theorem dX6_play_30 : decode cX6_play 30 = .ok (.ldc 50, 2) := by decide +kernel
theorem dX6_play_32 : decode cX6_play 32 = .ok (.if_icmp .eq 6, 3) := by decide +kernel
theorem dX6_play_35 : decode cX6_play 35 = .ok (.ldc 49, 2) := by decide +kernel
theorem dX6_play_37 : decode cX6_play 37 = .ok (.ireturn, 1) := by decide +kernel
theorem dX6_play_38 : decode cX6_play 38 = .ok (.aload_n 0, 1) := by decide +kernel
theorem dX6_play_39 : decode cX6_play 39 = .ok (.invokevirtual 46, 3) := by decide +kernel
theorem dX6_play_42 : decode cX6_play 42 = .ok (.aload_n 0, 1) := by decide +kernel
theorem dX6_play_43 : decode cX6_play 43 = .ok (.invokevirtual 187, 3) := by decide +kernel
theorem dX6_play_46 : decode cX6_play 46 = .ok (.ldc 50, 2) := by decide +kernel
theorem dX6_play_48 : decode cX6_play 48 = .ok (.if_icmp .ne 10, 3) := by decide +kernel
theorem dX6_play_51 : decode cX6_play 51 = .ok (.aload_n 0, 1) := by decide +kernel
theorem dX6_play_52 : decode cX6_play 52 = .ok (.getfield 165, 3) := by decide +kernel
theorem dX6_play_55 : decode cX6_play 55 = .ok (.goto 5, 3) := by decide +kernel
theorem dX6_play_58 : decode cX6_play 58 = .ok (.ldc 50, 2) := by decide +kernel
theorem dX6_play_60 : decode cX6_play 60 = .ok (.ireturn, 1) := by decide +kernel
theorem dJ9_min_7cf53_0 : decode cJ9_min_7cf53 0 = .ok (.iload_n 0, 1) := by decide +kernel
theorem dJ9_min_7cf53_1 : decode cJ9_min_7cf53 1 = .ok (.iload_n 1, 1) := by decide +kernel
theorem dJ9_min_7cf53_2 : decode cJ9_min_7cf53 2 = .ok (.if_icmp .gt 7, 3) := by decide +kernel
theorem dJ9_min_7cf53_5 : decode cJ9_min_7cf53 5 = .ok (.iload_n 0, 1) := by decide +kernel
theorem dJ9_min_7cf53_6 : decode cJ9_min_7cf53 6 = .ok (.goto 4, 3) := by decide +kernel
theorem dJ9_min_7cf53_9 : decode cJ9_min_7cf53 9 = .ok (.iload_n 1, 1) := by decide +kernel
theorem dJ9_min_7cf53_10 : decode cJ9_min_7cf53 10 = .ok (.ireturn, 1) := by decide +kernel
theorem dJ0_length_8abf5_0 : decode cJ0_length_8abf5 0 = .ok (.aload_n 0, 1) := by decide +kernel
theorem dJ0_length_8abf5_1 : decode cJ0_length_8abf5 1 = .ok (.getfield 9, 3) := by decide +kernel
theorem dJ0_length_8abf5_4 : decode cJ0_length_8abf5 4 = .ok (.arraylength, 1) := by decide +kernel
theorem dJ0_length_8abf5_5 : decode cJ0_length_8abf5 5 = .ok (.aload_n 0, 1) := by decide +kernel
theorem dJ0_length_8abf5_6 : decode cJ0_length_8abf5 6 = .ok (.invokevirtual 335, 3) := by decide +kernel
theorem dJ0_length_8abf5_9 : decode cJ0_length_8abf5 9 = .ok (.ishr, 1) := by decide +kernel
theorem dJ0_length_8abf5_10 : decode cJ0_length_8abf5 10 = .ok (.ireturn, 1) := by decide +kernel
theorem dJ0_charAt_5068e_0 : decode cJ0_charAt_5068e 0 = .ok (.aload_n 0, 1) := by decide +kernel
theorem dJ0_charAt_5068e_1 : decode cJ0_charAt_5068e 1 = .ok (.invokevirtual 492, 3) := by decide +kernel
theorem dJ0_charAt_5068e_4 : decode cJ0_charAt_5068e 4 = .ok (.ifCond .eq 12, 3) := by decide +kernel
theorem dJ0_charAt_5068e_7 : decode cJ0_charAt_5068e 7 = .ok (.aload_n 0, 1) := by decide +kernel
theorem dJ0_charAt_5068e_8 : decode cJ0_charAt_5068e 8 = .ok (.getfield 9, 3) := by decide +kernel
theorem dJ0_charAt_5068e_11 : decode cJ0_charAt_5068e 11 = .ok (.iload_n 1, 1) := by decide +kernel
theorem dJ0_charAt_5068e_12 : decode cJ0_charAt_5068e 12 = .ok (.invokestatic 495, 3) := by decide +kernel
theorem dJ0_charAt_5068e_15 : decode cJ0_charAt_5068e 15 = .ok (.ireturn, 1) := by decide +kernel
theorem dJ0_charAt_5068e_16 : decode cJ0_charAt_5068e 16 = .ok (.aload_n 0, 1) := by decide +kernel
theorem dJ0_charAt_5068e_17 : decode cJ0_charAt_5068e 17 = .ok (.getfield 9, 3) := by decide +kernel
theorem dJ0_charAt_5068e_20 : decode cJ0_charAt_5068e 20 = .ok (.iload_n 1, 1) := by decide +kernel
theorem dJ0_charAt_5068e_21 : decode cJ0_charAt_5068e 21 = .ok (.invokestatic 498, 3) := by decide +kernel
theorem dJ0_charAt_5068e_24 : decode cJ0_charAt_5068e 24 = .ok (.ireturn, 1) := by decide +kernel
theorem dJ0_coder_7d493_0 : decode cJ0_coder_7d493 0 = .ok (.getstatic 38, 3) := by decide +kernel
theorem dJ0_coder_7d493_3 : decode cJ0_coder_7d493 3 = .ok (.ifCond .eq 10, 3) := by decide +kernel
theorem dJ0_coder_7d493_6 : decode cJ0_coder_7d493 6 = .ok (.aload_n 0, 1) := by decide +kernel
theorem dJ0_coder_7d493_7 : decode cJ0_coder_7d493 7 = .ok (.getfield 15, 3) := by decide +kernel
theorem dJ0_coder_7d493_10 : decode cJ0_coder_7d493 10 = .ok (.goto 4, 3) := by decide +kernel
theorem dJ0_coder_7d493_13 : decode cJ0_coder_7d493 13 = .ok (.iconst 1, 1) := by decide +kernel
theorem dJ0_coder_7d493_14 : decode cJ0_coder_7d493 14 = .ok (.ireturn, 1) := by decide +kernel
theorem dJ0_isLatin1_aae02_0 : decode cJ0_isLatin1_aae02 0 = .ok (.getstatic 38, 3) := by decide +kernel
theorem dJ0_isLatin1_aae02_3 : decode cJ0_isLatin1_aae02 3 = .ok (.ifCond .eq 14, 3) := by decide +kernel
theorem dJ0_isLatin1_aae02_6 : decode cJ0_isLatin1_aae02 6 = .ok (.aload_n 0, 1) := by decide +kernel
theorem dJ0_isLatin1_aae02_7 : decode cJ0_isLatin1_aae02 7 = .ok (.getfield 15, 3) := by decide +kernel
theorem dJ0_isLatin1_aae02_10 : decode cJ0_isLatin1_aae02 10 = .ok (.ifCond .ne 7, 3) := by decide +kernel
theorem dJ0_isLatin1_aae02_13 : decode cJ0_isLatin1_aae02 13 = .ok (.iconst 1, 1) := by decide +kernel
theorem dJ0_isLatin1_aae02_14 : decode cJ0_isLatin1_aae02 14 = .ok (.goto 4, 3) := by decide +kernel
theorem dJ0_isLatin1_aae02_17 : decode cJ0_isLatin1_aae02 17 = .ok (.iconst 0, 1) := by decide +kernel
theorem dJ0_isLatin1_aae02_18 : decode cJ0_isLatin1_aae02 18 = .ok (.ireturn, 1) := by decide +kernel
theorem dJ0_checkIndex_df160_0 : decode cJ0_checkIndex_df160 0 = .ok (.iload_n 0, 1) := by decide +kernel
theorem dJ0_checkIndex_df160_1 : decode cJ0_checkIndex_df160 1 = .ok (.iload_n 1, 1) := by decide +kernel
theorem dJ0_checkIndex_df160_2 : decode cJ0_checkIndex_df160 2 = .ok (.getstatic 1053, 3) := by decide +kernel
theorem dJ0_checkIndex_df160_5 : decode cJ0_checkIndex_df160 5 = .ok (.invokestatic 1059, 3) := by decide +kernel
theorem dJ0_checkIndex_df160_8 : decode cJ0_checkIndex_df160 8 = .ok (.pop, 1) := by decide +kernel
theorem dJ0_checkIndex_df160_9 : decode cJ0_checkIndex_df160 9 = .ok (.return_, 1) := by decide +kernel
theorem dJ1_charAt_3b067_0 : decode cJ1_charAt_3b067 0 = .ok (.iload_n 1, 1) := by decide +kernel
theorem dJ1_charAt_3b067_1 : decode cJ1_charAt_3b067 1 = .ok (.aload_n 0, 1) := by decide +kernel
theorem dJ1_charAt_3b067_2 : decode cJ1_charAt_3b067 2 = .ok (.arraylength, 1) := by decide +kernel
theorem dJ1_charAt_3b067_3 : decode cJ1_charAt_3b067 3 = .ok (.invokestatic 9, 3) := by decide +kernel
theorem dJ1_charAt_3b067_6 : decode cJ1_charAt_3b067 6 = .ok (.aload_n 0, 1) := by decide +kernel
theorem dJ1_charAt_3b067_7 : decode cJ1_charAt_3b067 7 = .ok (.iload_n 1, 1) := by decide +kernel
theorem dJ1_charAt_3b067_8 : decode cJ1_charAt_3b067 8 = .ok (.baload, 1) := by decide +kernel
theorem dJ1_charAt_3b067_9 : decode cJ1_charAt_3b067 9 = .ok (.sipush 255, 3) := by decide +kernel
theorem dJ1_charAt_3b067_12 : decode cJ1_charAt_3b067 12 = .ok (.iand, 1) := by decide +kernel
theorem dJ1_charAt_3b067_13 : decode cJ1_charAt_3b067 13 = .ok (.i2c, 1) := by decide +kernel
theorem dJ1_charAt_3b067_14 : decode cJ1_charAt_3b067 14 = .ok (.ireturn, 1) := by decide +kernel
theorem dJ2_getChar_3b067_0 : decode cJ2_getChar_3b067 0 = .ok (.getstatic 44, 3) := by decide +kernel
theorem dJ2_getChar_3b067_3 : decode cJ2_getChar_3b067 3 = .ok (.ifCond .ne 25, 3) := by decide +kernel
theorem dJ2_getChar_3b067_6 : decode cJ2_getChar_3b067 6 = .ok (.iload_n 1, 1) := by decide +kernel
theorem dJ2_getChar_3b067_7 : decode cJ2_getChar_3b067 7 = .ok (.ifCond .lt 11, 3) := by decide +kernel
theorem dJ2_getChar_3b067_10 : decode cJ2_getChar_3b067 10 = .ok (.iload_n 1, 1) := by decide +kernel
theorem dJ2_getChar_3b067_11 : decode cJ2_getChar_3b067 11 = .ok (.aload_n 0, 1) := by decide +kernel
theorem dJ2_getChar_3b067_12 : decode cJ2_getChar_3b067 12 = .ok (.invokestatic 48, 3) := by decide +kernel
theorem dJ2_getChar_3b067_15 : decode cJ2_getChar_3b067 15 = .ok (.if_icmp .lt 13, 3) := by decide +kernel
theorem dJ2_getChar_3b067_18 : decode cJ2_getChar_3b067 18 = .ok (.new 52, 3) := by decide +kernel
theorem dJ2_getChar_3b067_21 : decode cJ2_getChar_3b067 21 = .ok (.dup, 1) := by decide +kernel
theorem dJ2_getChar_3b067_22 : decode cJ2_getChar_3b067 22 = .ok (.ldc 54, 2) := by decide +kernel
theorem dJ2_getChar_3b067_24 : decode cJ2_getChar_3b067 24 = .ok (.invokespecial 56, 3) := by decide +kernel
theorem dJ2_getChar_3b067_27 : decode cJ2_getChar_3b067 27 = .ok (.athrow, 1) := by decide +kernel
theorem dJ2_getChar_3b067_28 : decode cJ2_getChar_3b067 28 = .ok (.iload_n 1, 1) := by decide +kernel
theorem dJ2_getChar_3b067_29 : decode cJ2_getChar_3b067 29 = .ok (.iconst 1, 1) := by decide +kernel
theorem dJ2_getChar_3b067_30 : decode cJ2_getChar_3b067 30 = .ok (.ishl, 1) := by decide +kernel
theorem dJ2_getChar_3b067_31 : decode cJ2_getChar_3b067 31 = .ok (.istore_n 1, 1) := by decide +kernel
theorem dJ2_getChar_3b067_32 : decode cJ2_getChar_3b067 32 = .ok (.aload_n 0, 1) := by decide +kernel
theorem dJ2_getChar_3b067_33 : decode cJ2_getChar_3b067 33 = .ok (.iload_n 1, 1) := by decide +kernel
theorem dJ2_getChar_3b067_34 : decode cJ2_getChar_3b067 34 = .ok (.iinc 1 1, 3) := by decide +kernel
theorem dJ2_getChar_3b067_37 : decode cJ2_getChar_3b067 37 = .ok (.baload, 1) := by decide +kernel
theorem dJ2_getChar_3b067_38 : decode cJ2_getChar_3b067 38 = .ok (.sipush 255, 3) := by decide +kernel
theorem dJ2_getChar_3b067_41 : decode cJ2_getChar_3b067 41 = .ok (.iand, 1) := by decide +kernel
theorem dJ2_getChar_3b067_42 : decode cJ2_getChar_3b067 42 = .ok (.getstatic 59, 3) := by decide +kernel
theorem dJ2_getChar_3b067_45 : decode cJ2_getChar_3b067 45 = .ok (.ishl, 1) := by decide +kernel
theorem dJ2_getChar_3b067_46 : decode cJ2_getChar_3b067 46 = .ok (.aload_n 0, 1) := by decide +kernel
theorem dJ2_getChar_3b067_47 : decode cJ2_getChar_3b067 47 = .ok (.iload_n 1, 1) := by decide +kernel
theorem dJ2_getChar_3b067_48 : decode cJ2_getChar_3b067 48 = .ok (.baload, 1) := by decide +kernel
theorem dJ2_getChar_3b067_49 : decode cJ2_getChar_3b067 49 = .ok (.sipush 255, 3) := by decide +kernel
theorem dJ2_getChar_3b067_52 : decode cJ2_getChar_3b067 52 = .ok (.iand, 1) := by decide +kernel
theorem dJ2_getChar_3b067_53 : decode cJ2_getChar_3b067 53 = .ok (.getstatic 63, 3) := by decide +kernel
theorem dJ2_getChar_3b067_56 : decode cJ2_getChar_3b067 56 = .ok (.ishl, 1) := by decide +kernel
theorem dJ2_getChar_3b067_57 : decode cJ2_getChar_3b067 57 = .ok (.ior, 1) := by decide +kernel
theorem dJ2_getChar_3b067_58 : decode cJ2_getChar_3b067 58 = .ok (.i2c, 1) := by decide +kernel
theorem dJ2_getChar_3b067_59 : decode cJ2_getChar_3b067 59 = .ok (.ireturn, 1) := by decide +kernel
theorem dJ2_length_9d52b_0 : decode cJ2_length_9d52b 0 = .ok (.aload_n 0, 1) := by decide +kernel
theorem dJ2_length_9d52b_1 : decode cJ2_length_9d52b 1 = .ok (.arraylength, 1) := by decide +kernel
theorem dJ2_length_9d52b_2 : decode cJ2_length_9d52b 2 = .ok (.iconst 1, 1) := by decide +kernel
theorem dJ2_length_9d52b_3 : decode cJ2_length_9d52b 3 = .ok (.ishr, 1) := by decide +kernel
theorem dJ2_length_9d52b_4 : decode cJ2_length_9d52b 4 = .ok (.ireturn, 1) := by decide +kernel
theorem dJ2_charAt_3b067_0 : decode cJ2_charAt_3b067 0 = .ok (.iload_n 1, 1) := by decide +kernel
theorem dJ2_charAt_3b067_1 : decode cJ2_charAt_3b067 1 = .ok (.aload_n 0, 1) := by decide +kernel
theorem dJ2_charAt_3b067_2 : decode cJ2_charAt_3b067 2 = .ok (.invokestatic 67, 3) := by decide +kernel
theorem dJ2_charAt_3b067_5 : decode cJ2_charAt_3b067 5 = .ok (.aload_n 0, 1) := by decide +kernel
theorem dJ2_charAt_3b067_6 : decode cJ2_charAt_3b067 6 = .ok (.iload_n 1, 1) := by decide +kernel
theorem dJ2_charAt_3b067_7 : decode cJ2_charAt_3b067 7 = .ok (.invokestatic 71, 3) := by decide +kernel
theorem dJ2_charAt_3b067_10 : decode cJ2_charAt_3b067 10 = .ok (.ireturn, 1) := by decide +kernel
theorem dJ2_checkIndex_2214a_0 : decode cJ2_checkIndex_2214a 0 = .ok (.iload_n 0, 1) := by decide +kernel
theorem dJ2_checkIndex_2214a_1 : decode cJ2_checkIndex_2214a 1 = .ok (.aload_n 1, 1) := by decide +kernel
theorem dJ2_checkIndex_2214a_2 : decode cJ2_checkIndex_2214a 2 = .ok (.invokestatic 48, 3) := by decide +kernel
theorem dJ2_checkIndex_2214a_5 : decode cJ2_checkIndex_2214a 5 = .ok (.invokestatic 414, 3) := by decide +kernel
theorem dJ2_checkIndex_2214a_8 : decode cJ2_checkIndex_2214a 8 = .ok (.return_, 1) := by decide +kernel
theorem dJ7_fill_53178_0 : decode cJ7_fill_53178 0 = .ok (.iconst 0, 1) := by decide +kernel
theorem dJ7_fill_53178_1 : decode cJ7_fill_53178 1 = .ok (.istore_n 2, 1) := by decide +kernel
theorem dJ7_fill_53178_2 : decode cJ7_fill_53178 2 = .ok (.aload_n 0, 1) := by decide +kernel
theorem dJ7_fill_53178_3 : decode cJ7_fill_53178 3 = .ok (.arraylength, 1) := by decide +kernel
theorem dJ7_fill_53178_4 : decode cJ7_fill_53178 4 = .ok (.istore_n 3, 1) := by decide +kernel
theorem dJ7_fill_53178_5 : decode cJ7_fill_53178 5 = .ok (.iload_n 2, 1) := by decide +kernel
theorem dJ7_fill_53178_6 : decode cJ7_fill_53178 6 = .ok (.iload_n 3, 1) := by decide +kernel
theorem dJ7_fill_53178_7 : decode cJ7_fill_53178 7 = .ok (.if_icmp .ge 13, 3) := by decide +kernel
theorem dJ7_fill_53178_10 : decode cJ7_fill_53178 10 = .ok (.aload_n 0, 1) := by decide +kernel
theorem dJ7_fill_53178_11 : decode cJ7_fill_53178 11 = .ok (.iload_n 2, 1) := by decide +kernel
theorem dJ7_fill_53178_12 : decode cJ7_fill_53178 12 = .ok (.iload_n 1, 1) := by decide +kernel
theorem dJ7_fill_53178_13 : decode cJ7_fill_53178 13 = .ok (.iastore, 1) := by decide +kernel
theorem dJ7_fill_53178_14 : decode cJ7_fill_53178 14 = .ok (.iinc 2 1, 3) := by decide +kernel
theorem dJ7_fill_53178_17 : decode cJ7_fill_53178 17 = .ok (.goto (-12), 3) := by decide +kernel
theorem dJ7_fill_53178_20 : decode cJ7_fill_53178 20 = .ok (.return_, 1) := by decide +kernel
theorem dJ3_checkIndex_8e157_0 : decode cJ3_checkIndex_8e157 0 = .ok (.iload_n 0, 1) := by decide +kernel
theorem dJ3_checkIndex_8e157_1 : decode cJ3_checkIndex_8e157 1 = .ok (.ifCond .lt 8, 3) := by decide +kernel
theorem dJ3_checkIndex_8e157_4 : decode cJ3_checkIndex_8e157 4 = .ok (.iload_n 0, 1) := by decide +kernel
theorem dJ3_checkIndex_8e157_5 : decode cJ3_checkIndex_8e157 5 = .ok (.iload_n 1, 1) := by decide +kernel
theorem dJ3_checkIndex_8e157_6 : decode cJ3_checkIndex_8e157 6 = .ok (.if_icmp .lt 10, 3) := by decide +kernel
theorem dJ3_checkIndex_8e157_9 : decode cJ3_checkIndex_8e157 9 = .ok (.aload_n 2, 1) := by decide +kernel
theorem dJ3_checkIndex_8e157_10 : decode cJ3_checkIndex_8e157 10 = .ok (.iload_n 0, 1) := by decide +kernel
theorem dJ3_checkIndex_8e157_11 : decode cJ3_checkIndex_8e157 11 = .ok (.iload_n 1, 1) := by decide +kernel
theorem dJ3_checkIndex_8e157_12 : decode cJ3_checkIndex_8e157 12 = .ok (.invokestatic 95, 3) := by decide +kernel
theorem dJ3_checkIndex_8e157_15 : decode cJ3_checkIndex_8e157 15 = .ok (.athrow, 1) := by decide +kernel
theorem dJ3_checkIndex_8e157_16 : decode cJ3_checkIndex_8e157 16 = .ok (.iload_n 0, 1) := by decide +kernel
theorem dJ3_checkIndex_8e157_17 : decode cJ3_checkIndex_8e157 17 = .ok (.ireturn, 1) := by decide +kernel
theorem dL_law_0 : decode cL_law 0 = .ok (.new 7, 3) := by decide +kernel
theorem dL_law_3 : decode cL_law 3 = .ok (.dup, 1) := by decide +kernel
theorem dL_law_4 : decode cL_law 4 = .ok (.invokespecial 9, 3) := by decide +kernel
theorem dL_law_7 : decode cL_law 7 = .ok (.astore_n 1, 1) := by decide +kernel
theorem dL_law_8 : decode cL_law 8 = .ok (.new 10, 3) := by decide +kernel
theorem dL_law_11 : decode cL_law 11 = .ok (.dup, 1) := by decide +kernel
theorem dL_law_12 : decode cL_law 12 = .ok (.invokespecial 12, 3) := by decide +kernel
theorem dL_law_15 : decode cL_law 15 = .ok (.astore_n 2, 1) := by decide +kernel
theorem dL_law_16 : decode cL_law 16 = .ok (.iconst 0, 1) := by decide +kernel
theorem dL_law_17 : decode cL_law 17 = .ok (.istore_n 3, 1) := by decide +kernel
theorem dL_law_18 : decode cL_law 18 = .ok (.iload_n 3, 1) := by decide +kernel
theorem dL_law_19 : decode cL_law 19 = .ok (.aload_n 0, 1) := by decide +kernel
theorem dL_law_20 : decode cL_law 20 = .ok (.arraylength, 1) := by decide +kernel
theorem dL_law_21 : decode cL_law 21 = .ok (.bipush 6, 2) := by decide +kernel
theorem dL_law_23 : decode cL_law 23 = .ok (.isub, 1) := by decide +kernel
theorem dL_law_24 : decode cL_law 24 = .ok (.if_icmp .gt 832, 3) := by decide +kernel
theorem dL_law_27 : decode cL_law 27 = .ok (.aload_n 0, 1) := by decide +kernel
theorem dL_law_28 : decode cL_law 28 = .ok (.iload_n 3, 1) := by decide +kernel
theorem dL_law_29 : decode cL_law 29 = .ok (.iaload, 1) := by decide +kernel
theorem dL_law_30 : decode cL_law 30 = .ok (.bipush 31, 2) := by decide +kernel
theorem dL_law_32 : decode cL_law 32 = .ok (.iand, 1) := by decide +kernel
theorem dL_law_33 : decode cL_law 33 = .ok (.tableswitch 817 0 25 #[119, 142, 155, 198, 211, 234, 267, 300, 343, 366, 389, 432, 455, 478, 511, 554, 617, 650, 663, 686, 709, 732, 745, 768, 781, 804], 119) := by decide +kernel
theorem dL_law_152 : decode cL_law 152 = .ok (.aload_n 1, 1) := by decide +kernel
theorem dL_law_153 : decode cL_law 153 = .ok (.aload_n 0, 1) := by decide +kernel
theorem dL_law_154 : decode cL_law 154 = .ok (.iload_n 3, 1) := by decide +kernel
theorem dL_law_155 : decode cL_law 155 = .ok (.iconst 1, 1) := by decide +kernel
theorem dL_law_156 : decode cL_law 156 = .ok (.iadd, 1) := by decide +kernel
theorem dL_law_157 : decode cL_law 157 = .ok (.iaload, 1) := by decide +kernel
theorem dL_law_158 : decode cL_law 158 = .ok (.invokevirtual 13, 3) := by decide +kernel
theorem dL_law_161 : decode cL_law 161 = .ok (.aload_n 2, 1) := by decide +kernel
theorem dL_law_162 : decode cL_law 162 = .ok (.aload_n 0, 1) := by decide +kernel
theorem dL_law_163 : decode cL_law 163 = .ok (.iload_n 3, 1) := by decide +kernel
theorem dL_law_164 : decode cL_law 164 = .ok (.iconst 1, 1) := by decide +kernel
theorem dL_law_165 : decode cL_law 165 = .ok (.iadd, 1) := by decide +kernel
theorem dL_law_166 : decode cL_law 166 = .ok (.iaload, 1) := by decide +kernel
theorem dL_law_167 : decode cL_law 167 = .ok (.invokevirtual 17, 3) := by decide +kernel
theorem dL_law_170 : decode cL_law 170 = .ok (.if_icmp .eq 680, 3) := by decide +kernel
theorem dL_law_173 : decode cL_law 173 = .ok (.iconst 0, 1) := by decide +kernel
theorem dL_law_174 : decode cL_law 174 = .ok (.ireturn, 1) := by decide +kernel
theorem dL_law_175 : decode cL_law 175 = .ok (.aload_n 1, 1) := by decide +kernel
theorem dL_law_176 : decode cL_law 176 = .ok (.invokevirtual 18, 3) := by decide +kernel
theorem dL_law_179 : decode cL_law 179 = .ok (.aload_n 2, 1) := by decide +kernel
theorem dL_law_180 : decode cL_law 180 = .ok (.invokevirtual 22, 3) := by decide +kernel
theorem dL_law_183 : decode cL_law 183 = .ok (.if_icmp .eq 667, 3) := by decide +kernel
theorem dL_law_186 : decode cL_law 186 = .ok (.iconst 0, 1) := by decide +kernel
theorem dL_law_187 : decode cL_law 187 = .ok (.ireturn, 1) := by decide +kernel
theorem dL_law_188 : decode cL_law 188 = .ok (.aload_n 1, 1) := by decide +kernel
theorem dL_law_189 : decode cL_law 189 = .ok (.aload_n 0, 1) := by decide +kernel
theorem dL_law_190 : decode cL_law 190 = .ok (.iload_n 3, 1) := by decide +kernel
theorem dL_law_191 : decode cL_law 191 = .ok (.iconst 1, 1) := by decide +kernel
theorem dL_law_192 : decode cL_law 192 = .ok (.iadd, 1) := by decide +kernel
theorem dL_law_193 : decode cL_law 193 = .ok (.iaload, 1) := by decide +kernel
theorem dL_law_194 : decode cL_law 194 = .ok (.aload_n 0, 1) := by decide +kernel
theorem dL_law_195 : decode cL_law 195 = .ok (.iload_n 3, 1) := by decide +kernel
theorem dL_law_196 : decode cL_law 196 = .ok (.iconst 2, 1) := by decide +kernel
theorem dL_law_197 : decode cL_law 197 = .ok (.iadd, 1) := by decide +kernel
theorem dL_law_198 : decode cL_law 198 = .ok (.iaload, 1) := by decide +kernel
theorem dL_law_199 : decode cL_law 199 = .ok (.aload_n 0, 1) := by decide +kernel
theorem dL_law_200 : decode cL_law 200 = .ok (.iload_n 3, 1) := by decide +kernel
theorem dL_law_201 : decode cL_law 201 = .ok (.iconst 3, 1) := by decide +kernel
theorem dL_law_202 : decode cL_law 202 = .ok (.iadd, 1) := by decide +kernel
theorem dL_law_203 : decode cL_law 203 = .ok (.iaload, 1) := by decide +kernel
theorem dL_law_204 : decode cL_law 204 = .ok (.invokevirtual 23, 3) := by decide +kernel
theorem dL_law_207 : decode cL_law 207 = .ok (.aload_n 2, 1) := by decide +kernel
theorem dL_law_208 : decode cL_law 208 = .ok (.aload_n 0, 1) := by decide +kernel
theorem dL_law_209 : decode cL_law 209 = .ok (.iload_n 3, 1) := by decide +kernel
theorem dL_law_210 : decode cL_law 210 = .ok (.iconst 1, 1) := by decide +kernel
theorem dL_law_211 : decode cL_law 211 = .ok (.iadd, 1) := by decide +kernel
theorem dL_law_212 : decode cL_law 212 = .ok (.iaload, 1) := by decide +kernel
theorem dL_law_213 : decode cL_law 213 = .ok (.aload_n 0, 1) := by decide +kernel
theorem dL_law_214 : decode cL_law 214 = .ok (.iload_n 3, 1) := by decide +kernel
theorem dL_law_215 : decode cL_law 215 = .ok (.iconst 2, 1) := by decide +kernel
theorem dL_law_216 : decode cL_law 216 = .ok (.iadd, 1) := by decide +kernel
theorem dL_law_217 : decode cL_law 217 = .ok (.iaload, 1) := by decide +kernel
theorem dL_law_218 : decode cL_law 218 = .ok (.aload_n 0, 1) := by decide +kernel
theorem dL_law_219 : decode cL_law 219 = .ok (.iload_n 3, 1) := by decide +kernel
theorem dL_law_220 : decode cL_law 220 = .ok (.iconst 3, 1) := by decide +kernel
theorem dL_law_221 : decode cL_law 221 = .ok (.iadd, 1) := by decide +kernel
theorem dL_law_222 : decode cL_law 222 = .ok (.iaload, 1) := by decide +kernel
theorem dL_law_223 : decode cL_law 223 = .ok (.invokevirtual 27, 3) := by decide +kernel
theorem dL_law_226 : decode cL_law 226 = .ok (.if_icmp .eq 624, 3) := by decide +kernel
theorem dL_law_229 : decode cL_law 229 = .ok (.iconst 0, 1) := by decide +kernel
theorem dL_law_230 : decode cL_law 230 = .ok (.ireturn, 1) := by decide +kernel
theorem dL_law_231 : decode cL_law 231 = .ok (.aload_n 1, 1) := by decide +kernel
theorem dL_law_232 : decode cL_law 232 = .ok (.invokevirtual 28, 3) := by decide +kernel
theorem dL_law_235 : decode cL_law 235 = .ok (.aload_n 2, 1) := by decide +kernel
theorem dL_law_236 : decode cL_law 236 = .ok (.invokevirtual 31, 3) := by decide +kernel
theorem dL_law_239 : decode cL_law 239 = .ok (.if_icmp .eq 611, 3) := by decide +kernel
theorem dL_law_242 : decode cL_law 242 = .ok (.iconst 0, 1) := by decide +kernel
theorem dL_law_243 : decode cL_law 243 = .ok (.ireturn, 1) := by decide +kernel
theorem dL_law_244 : decode cL_law 244 = .ok (.aload_n 1, 1) := by decide +kernel
theorem dL_law_245 : decode cL_law 245 = .ok (.aload_n 0, 1) := by decide +kernel
theorem dL_law_246 : decode cL_law 246 = .ok (.iload_n 3, 1) := by decide +kernel
theorem dL_law_247 : decode cL_law 247 = .ok (.iconst 1, 1) := by decide +kernel
theorem dL_law_248 : decode cL_law 248 = .ok (.iadd, 1) := by decide +kernel
theorem dL_law_249 : decode cL_law 249 = .ok (.iaload, 1) := by decide +kernel
theorem dL_law_250 : decode cL_law 250 = .ok (.invokevirtual 32, 3) := by decide +kernel
theorem dL_law_253 : decode cL_law 253 = .ok (.aload_n 2, 1) := by decide +kernel
theorem dL_law_254 : decode cL_law 254 = .ok (.aload_n 0, 1) := by decide +kernel
theorem dL_law_255 : decode cL_law 255 = .ok (.iload_n 3, 1) := by decide +kernel
theorem dL_law_256 : decode cL_law 256 = .ok (.iconst 1, 1) := by decide +kernel
theorem dL_law_257 : decode cL_law 257 = .ok (.iadd, 1) := by decide +kernel
theorem dL_law_258 : decode cL_law 258 = .ok (.iaload, 1) := by decide +kernel
theorem dL_law_259 : decode cL_law 259 = .ok (.invokevirtual 35, 3) := by decide +kernel
theorem dL_law_262 : decode cL_law 262 = .ok (.if_icmp .eq 588, 3) := by decide +kernel
theorem dL_law_265 : decode cL_law 265 = .ok (.iconst 0, 1) := by decide +kernel
theorem dL_law_266 : decode cL_law 266 = .ok (.ireturn, 1) := by decide +kernel
theorem dL_law_267 : decode cL_law 267 = .ok (.aload_n 1, 1) := by decide +kernel
theorem dL_law_268 : decode cL_law 268 = .ok (.aload_n 0, 1) := by decide +kernel
theorem dL_law_269 : decode cL_law 269 = .ok (.iload_n 3, 1) := by decide +kernel
theorem dL_law_270 : decode cL_law 270 = .ok (.iconst 1, 1) := by decide +kernel
theorem dL_law_271 : decode cL_law 271 = .ok (.iadd, 1) := by decide +kernel
theorem dL_law_272 : decode cL_law 272 = .ok (.iaload, 1) := by decide +kernel
theorem dL_law_273 : decode cL_law 273 = .ok (.aload_n 0, 1) := by decide +kernel
theorem dL_law_274 : decode cL_law 274 = .ok (.iload_n 3, 1) := by decide +kernel
theorem dL_law_275 : decode cL_law 275 = .ok (.iconst 2, 1) := by decide +kernel
theorem dL_law_276 : decode cL_law 276 = .ok (.iadd, 1) := by decide +kernel
theorem dL_law_277 : decode cL_law 277 = .ok (.iaload, 1) := by decide +kernel
theorem dL_law_278 : decode cL_law 278 = .ok (.invokevirtual 36, 3) := by decide +kernel
theorem dL_law_281 : decode cL_law 281 = .ok (.aload_n 2, 1) := by decide +kernel
theorem dL_law_282 : decode cL_law 282 = .ok (.aload_n 0, 1) := by decide +kernel
theorem dL_law_283 : decode cL_law 283 = .ok (.iload_n 3, 1) := by decide +kernel
theorem dL_law_284 : decode cL_law 284 = .ok (.iconst 1, 1) := by decide +kernel
theorem dL_law_285 : decode cL_law 285 = .ok (.iadd, 1) := by decide +kernel
theorem dL_law_286 : decode cL_law 286 = .ok (.iaload, 1) := by decide +kernel
theorem dL_law_287 : decode cL_law 287 = .ok (.aload_n 0, 1) := by decide +kernel
theorem dL_law_288 : decode cL_law 288 = .ok (.iload_n 3, 1) := by decide +kernel
theorem dL_law_289 : decode cL_law 289 = .ok (.iconst 2, 1) := by decide +kernel
theorem dL_law_290 : decode cL_law 290 = .ok (.iadd, 1) := by decide +kernel
theorem dL_law_291 : decode cL_law 291 = .ok (.iaload, 1) := by decide +kernel
theorem dL_law_292 : decode cL_law 292 = .ok (.invokevirtual 40, 3) := by decide +kernel
theorem dL_law_295 : decode cL_law 295 = .ok (.if_icmp .eq 555, 3) := by decide +kernel
theorem dL_law_298 : decode cL_law 298 = .ok (.iconst 0, 1) := by decide +kernel
theorem dL_law_299 : decode cL_law 299 = .ok (.ireturn, 1) := by decide +kernel
theorem dL_law_300 : decode cL_law 300 = .ok (.aload_n 1, 1) := by decide +kernel
theorem dL_law_301 : decode cL_law 301 = .ok (.aload_n 0, 1) := by decide +kernel
theorem dL_law_302 : decode cL_law 302 = .ok (.iload_n 3, 1) := by decide +kernel
theorem dL_law_303 : decode cL_law 303 = .ok (.iconst 1, 1) := by decide +kernel
theorem dL_law_304 : decode cL_law 304 = .ok (.iadd, 1) := by decide +kernel
theorem dL_law_305 : decode cL_law 305 = .ok (.iaload, 1) := by decide +kernel
theorem dL_law_306 : decode cL_law 306 = .ok (.aload_n 0, 1) := by decide +kernel
theorem dL_law_307 : decode cL_law 307 = .ok (.iload_n 3, 1) := by decide +kernel
theorem dL_law_308 : decode cL_law 308 = .ok (.iconst 2, 1) := by decide +kernel
theorem dL_law_309 : decode cL_law 309 = .ok (.iadd, 1) := by decide +kernel
theorem dL_law_310 : decode cL_law 310 = .ok (.iaload, 1) := by decide +kernel
theorem dL_law_311 : decode cL_law 311 = .ok (.invokevirtual 41, 3) := by decide +kernel
theorem dL_law_314 : decode cL_law 314 = .ok (.aload_n 2, 1) := by decide +kernel
theorem dL_law_315 : decode cL_law 315 = .ok (.aload_n 0, 1) := by decide +kernel
theorem dL_law_316 : decode cL_law 316 = .ok (.iload_n 3, 1) := by decide +kernel
theorem dL_law_317 : decode cL_law 317 = .ok (.iconst 1, 1) := by decide +kernel
theorem dL_law_318 : decode cL_law 318 = .ok (.iadd, 1) := by decide +kernel
theorem dL_law_319 : decode cL_law 319 = .ok (.iaload, 1) := by decide +kernel
theorem dL_law_320 : decode cL_law 320 = .ok (.aload_n 0, 1) := by decide +kernel
theorem dL_law_321 : decode cL_law 321 = .ok (.iload_n 3, 1) := by decide +kernel
theorem dL_law_322 : decode cL_law 322 = .ok (.iconst 2, 1) := by decide +kernel
theorem dL_law_323 : decode cL_law 323 = .ok (.iadd, 1) := by decide +kernel
theorem dL_law_324 : decode cL_law 324 = .ok (.iaload, 1) := by decide +kernel
theorem dL_law_325 : decode cL_law 325 = .ok (.invokevirtual 44, 3) := by decide +kernel
theorem dL_law_328 : decode cL_law 328 = .ok (.if_icmp .eq 522, 3) := by decide +kernel
theorem dL_law_331 : decode cL_law 331 = .ok (.iconst 0, 1) := by decide +kernel
theorem dL_law_332 : decode cL_law 332 = .ok (.ireturn, 1) := by decide +kernel
theorem dL_law_333 : decode cL_law 333 = .ok (.aload_n 1, 1) := by decide +kernel
theorem dL_law_334 : decode cL_law 334 = .ok (.aload_n 0, 1) := by decide +kernel
theorem dL_law_335 : decode cL_law 335 = .ok (.iload_n 3, 1) := by decide +kernel
theorem dL_law_336 : decode cL_law 336 = .ok (.iconst 1, 1) := by decide +kernel
theorem dL_law_337 : decode cL_law 337 = .ok (.iadd, 1) := by decide +kernel
theorem dL_law_338 : decode cL_law 338 = .ok (.iaload, 1) := by decide +kernel
theorem dL_law_339 : decode cL_law 339 = .ok (.aload_n 0, 1) := by decide +kernel
theorem dL_law_340 : decode cL_law 340 = .ok (.iload_n 3, 1) := by decide +kernel
theorem dL_law_341 : decode cL_law 341 = .ok (.iconst 2, 1) := by decide +kernel
theorem dL_law_342 : decode cL_law 342 = .ok (.iadd, 1) := by decide +kernel
theorem dL_law_343 : decode cL_law 343 = .ok (.iaload, 1) := by decide +kernel
theorem dL_law_344 : decode cL_law 344 = .ok (.aload_n 0, 1) := by decide +kernel
theorem dL_law_345 : decode cL_law 345 = .ok (.iload_n 3, 1) := by decide +kernel
theorem dL_law_346 : decode cL_law 346 = .ok (.iconst 3, 1) := by decide +kernel
theorem dL_law_347 : decode cL_law 347 = .ok (.iadd, 1) := by decide +kernel
theorem dL_law_348 : decode cL_law 348 = .ok (.iaload, 1) := by decide +kernel
theorem dL_law_349 : decode cL_law 349 = .ok (.invokevirtual 45, 3) := by decide +kernel
theorem dL_law_352 : decode cL_law 352 = .ok (.aload_n 2, 1) := by decide +kernel
theorem dL_law_353 : decode cL_law 353 = .ok (.aload_n 0, 1) := by decide +kernel
theorem dL_law_354 : decode cL_law 354 = .ok (.iload_n 3, 1) := by decide +kernel
theorem dL_law_355 : decode cL_law 355 = .ok (.iconst 1, 1) := by decide +kernel
theorem dL_law_356 : decode cL_law 356 = .ok (.iadd, 1) := by decide +kernel
theorem dL_law_357 : decode cL_law 357 = .ok (.iaload, 1) := by decide +kernel
theorem dL_law_358 : decode cL_law 358 = .ok (.aload_n 0, 1) := by decide +kernel
theorem dL_law_359 : decode cL_law 359 = .ok (.iload_n 3, 1) := by decide +kernel
theorem dL_law_360 : decode cL_law 360 = .ok (.iconst 2, 1) := by decide +kernel
theorem dL_law_361 : decode cL_law 361 = .ok (.iadd, 1) := by decide +kernel
theorem dL_law_362 : decode cL_law 362 = .ok (.iaload, 1) := by decide +kernel
theorem dL_law_363 : decode cL_law 363 = .ok (.aload_n 0, 1) := by decide +kernel
theorem dL_law_364 : decode cL_law 364 = .ok (.iload_n 3, 1) := by decide +kernel
theorem dL_law_365 : decode cL_law 365 = .ok (.iconst 3, 1) := by decide +kernel
theorem dL_law_366 : decode cL_law 366 = .ok (.iadd, 1) := by decide +kernel
theorem dL_law_367 : decode cL_law 367 = .ok (.iaload, 1) := by decide +kernel
theorem dL_law_368 : decode cL_law 368 = .ok (.invokevirtual 48, 3) := by decide +kernel
theorem dL_law_371 : decode cL_law 371 = .ok (.if_icmp .eq 479, 3) := by decide +kernel
theorem dL_law_374 : decode cL_law 374 = .ok (.iconst 0, 1) := by decide +kernel
theorem dL_law_375 : decode cL_law 375 = .ok (.ireturn, 1) := by decide +kernel
theorem dL_law_376 : decode cL_law 376 = .ok (.aload_n 1, 1) := by decide +kernel
theorem dL_law_377 : decode cL_law 377 = .ok (.aload_n 0, 1) := by decide +kernel
theorem dL_law_378 : decode cL_law 378 = .ok (.iload_n 3, 1) := by decide +kernel
theorem dL_law_379 : decode cL_law 379 = .ok (.iconst 1, 1) := by decide +kernel
theorem dL_law_380 : decode cL_law 380 = .ok (.iadd, 1) := by decide +kernel
theorem dL_law_381 : decode cL_law 381 = .ok (.iaload, 1) := by decide +kernel
theorem dL_law_382 : decode cL_law 382 = .ok (.invokevirtual 49, 3) := by decide +kernel
theorem dL_law_385 : decode cL_law 385 = .ok (.aload_n 2, 1) := by decide +kernel
theorem dL_law_386 : decode cL_law 386 = .ok (.aload_n 0, 1) := by decide +kernel
theorem dL_law_387 : decode cL_law 387 = .ok (.iload_n 3, 1) := by decide +kernel
theorem dL_law_388 : decode cL_law 388 = .ok (.iconst 1, 1) := by decide +kernel
theorem dL_law_389 : decode cL_law 389 = .ok (.iadd, 1) := by decide +kernel
theorem dL_law_390 : decode cL_law 390 = .ok (.iaload, 1) := by decide +kernel
theorem dL_law_391 : decode cL_law 391 = .ok (.invokevirtual 52, 3) := by decide +kernel
theorem dL_law_394 : decode cL_law 394 = .ok (.if_icmp .eq 456, 3) := by decide +kernel
theorem dL_law_397 : decode cL_law 397 = .ok (.iconst 0, 1) := by decide +kernel
theorem dL_law_398 : decode cL_law 398 = .ok (.ireturn, 1) := by decide +kernel
theorem dL_law_399 : decode cL_law 399 = .ok (.aload_n 1, 1) := by decide +kernel
theorem dL_law_400 : decode cL_law 400 = .ok (.aload_n 0, 1) := by decide +kernel
theorem dL_law_401 : decode cL_law 401 = .ok (.iload_n 3, 1) := by decide +kernel
theorem dL_law_402 : decode cL_law 402 = .ok (.iconst 1, 1) := by decide +kernel
theorem dL_law_403 : decode cL_law 403 = .ok (.iadd, 1) := by decide +kernel
theorem dL_law_404 : decode cL_law 404 = .ok (.iaload, 1) := by decide +kernel
theorem dL_law_405 : decode cL_law 405 = .ok (.invokevirtual 53, 3) := by decide +kernel
theorem dL_law_408 : decode cL_law 408 = .ok (.aload_n 2, 1) := by decide +kernel
theorem dL_law_409 : decode cL_law 409 = .ok (.aload_n 0, 1) := by decide +kernel
theorem dL_law_410 : decode cL_law 410 = .ok (.iload_n 3, 1) := by decide +kernel
theorem dL_law_411 : decode cL_law 411 = .ok (.iconst 1, 1) := by decide +kernel
theorem dL_law_412 : decode cL_law 412 = .ok (.iadd, 1) := by decide +kernel
theorem dL_law_413 : decode cL_law 413 = .ok (.iaload, 1) := by decide +kernel
theorem dL_law_414 : decode cL_law 414 = .ok (.invokevirtual 56, 3) := by decide +kernel
theorem dL_law_417 : decode cL_law 417 = .ok (.if_icmp .eq 433, 3) := by decide +kernel
theorem dL_law_420 : decode cL_law 420 = .ok (.iconst 0, 1) := by decide +kernel
theorem dL_law_421 : decode cL_law 421 = .ok (.ireturn, 1) := by decide +kernel
theorem dL_law_422 : decode cL_law 422 = .ok (.aload_n 1, 1) := by decide +kernel
theorem dL_law_423 : decode cL_law 423 = .ok (.aload_n 0, 1) := by decide +kernel
theorem dL_law_424 : decode cL_law 424 = .ok (.iload_n 3, 1) := by decide +kernel
theorem dL_law_425 : decode cL_law 425 = .ok (.iconst 1, 1) := by decide +kernel
theorem dL_law_426 : decode cL_law 426 = .ok (.iadd, 1) := by decide +kernel
theorem dL_law_427 : decode cL_law 427 = .ok (.iaload, 1) := by decide +kernel
theorem dL_law_428 : decode cL_law 428 = .ok (.aload_n 0, 1) := by decide +kernel
theorem dL_law_429 : decode cL_law 429 = .ok (.iload_n 3, 1) := by decide +kernel
theorem dL_law_430 : decode cL_law 430 = .ok (.iconst 2, 1) := by decide +kernel
theorem dL_law_431 : decode cL_law 431 = .ok (.iadd, 1) := by decide +kernel
theorem dL_law_432 : decode cL_law 432 = .ok (.iaload, 1) := by decide +kernel
theorem dL_law_433 : decode cL_law 433 = .ok (.aload_n 0, 1) := by decide +kernel
theorem dL_law_434 : decode cL_law 434 = .ok (.iload_n 3, 1) := by decide +kernel
theorem dL_law_435 : decode cL_law 435 = .ok (.iconst 3, 1) := by decide +kernel
theorem dL_law_436 : decode cL_law 436 = .ok (.iadd, 1) := by decide +kernel
theorem dL_law_437 : decode cL_law 437 = .ok (.iaload, 1) := by decide +kernel
theorem dL_law_438 : decode cL_law 438 = .ok (.invokevirtual 57, 3) := by decide +kernel
theorem dL_law_441 : decode cL_law 441 = .ok (.aload_n 2, 1) := by decide +kernel
theorem dL_law_442 : decode cL_law 442 = .ok (.aload_n 0, 1) := by decide +kernel
theorem dL_law_443 : decode cL_law 443 = .ok (.iload_n 3, 1) := by decide +kernel
theorem dL_law_444 : decode cL_law 444 = .ok (.iconst 1, 1) := by decide +kernel
theorem dL_law_445 : decode cL_law 445 = .ok (.iadd, 1) := by decide +kernel
theorem dL_law_446 : decode cL_law 446 = .ok (.iaload, 1) := by decide +kernel
theorem dL_law_447 : decode cL_law 447 = .ok (.aload_n 0, 1) := by decide +kernel
theorem dL_law_448 : decode cL_law 448 = .ok (.iload_n 3, 1) := by decide +kernel
theorem dL_law_449 : decode cL_law 449 = .ok (.iconst 2, 1) := by decide +kernel
theorem dL_law_450 : decode cL_law 450 = .ok (.iadd, 1) := by decide +kernel
theorem dL_law_451 : decode cL_law 451 = .ok (.iaload, 1) := by decide +kernel
theorem dL_law_452 : decode cL_law 452 = .ok (.aload_n 0, 1) := by decide +kernel
theorem dL_law_453 : decode cL_law 453 = .ok (.iload_n 3, 1) := by decide +kernel
theorem dL_law_454 : decode cL_law 454 = .ok (.iconst 3, 1) := by decide +kernel
theorem dL_law_455 : decode cL_law 455 = .ok (.iadd, 1) := by decide +kernel
theorem dL_law_456 : decode cL_law 456 = .ok (.iaload, 1) := by decide +kernel
theorem dL_law_457 : decode cL_law 457 = .ok (.invokevirtual 60, 3) := by decide +kernel
theorem dL_law_460 : decode cL_law 460 = .ok (.if_icmp .eq 390, 3) := by decide +kernel
theorem dL_law_463 : decode cL_law 463 = .ok (.iconst 0, 1) := by decide +kernel
theorem dL_law_464 : decode cL_law 464 = .ok (.ireturn, 1) := by decide +kernel
theorem dL_law_465 : decode cL_law 465 = .ok (.aload_n 1, 1) := by decide +kernel
theorem dL_law_466 : decode cL_law 466 = .ok (.aload_n 0, 1) := by decide +kernel
theorem dL_law_467 : decode cL_law 467 = .ok (.iload_n 3, 1) := by decide +kernel
theorem dL_law_468 : decode cL_law 468 = .ok (.iconst 1, 1) := by decide +kernel
theorem dL_law_469 : decode cL_law 469 = .ok (.iadd, 1) := by decide +kernel
theorem dL_law_470 : decode cL_law 470 = .ok (.iaload, 1) := by decide +kernel
theorem dL_law_471 : decode cL_law 471 = .ok (.invokevirtual 61, 3) := by decide +kernel
theorem dL_law_474 : decode cL_law 474 = .ok (.aload_n 2, 1) := by decide +kernel
theorem dL_law_475 : decode cL_law 475 = .ok (.aload_n 0, 1) := by decide +kernel
theorem dL_law_476 : decode cL_law 476 = .ok (.iload_n 3, 1) := by decide +kernel
theorem dL_law_477 : decode cL_law 477 = .ok (.iconst 1, 1) := by decide +kernel
theorem dL_law_478 : decode cL_law 478 = .ok (.iadd, 1) := by decide +kernel
theorem dL_law_479 : decode cL_law 479 = .ok (.iaload, 1) := by decide +kernel
theorem dL_law_480 : decode cL_law 480 = .ok (.invokevirtual 64, 3) := by decide +kernel
theorem dL_law_483 : decode cL_law 483 = .ok (.if_icmp .eq 367, 3) := by decide +kernel
theorem dL_law_486 : decode cL_law 486 = .ok (.iconst 0, 1) := by decide +kernel
theorem dL_law_487 : decode cL_law 487 = .ok (.ireturn, 1) := by decide +kernel
theorem dL_law_488 : decode cL_law 488 = .ok (.aload_n 1, 1) := by decide +kernel
theorem dL_law_489 : decode cL_law 489 = .ok (.aload_n 0, 1) := by decide +kernel
theorem dL_law_490 : decode cL_law 490 = .ok (.iload_n 3, 1) := by decide +kernel
theorem dL_law_491 : decode cL_law 491 = .ok (.iconst 1, 1) := by decide +kernel
theorem dL_law_492 : decode cL_law 492 = .ok (.iadd, 1) := by decide +kernel
theorem dL_law_493 : decode cL_law 493 = .ok (.iaload, 1) := by decide +kernel
theorem dL_law_494 : decode cL_law 494 = .ok (.invokevirtual 65, 3) := by decide +kernel
theorem dL_law_497 : decode cL_law 497 = .ok (.aload_n 2, 1) := by decide +kernel
theorem dL_law_498 : decode cL_law 498 = .ok (.aload_n 0, 1) := by decide +kernel
theorem dL_law_499 : decode cL_law 499 = .ok (.iload_n 3, 1) := by decide +kernel
theorem dL_law_500 : decode cL_law 500 = .ok (.iconst 1, 1) := by decide +kernel
theorem dL_law_501 : decode cL_law 501 = .ok (.iadd, 1) := by decide +kernel
theorem dL_law_502 : decode cL_law 502 = .ok (.iaload, 1) := by decide +kernel
theorem dL_law_503 : decode cL_law 503 = .ok (.invokevirtual 68, 3) := by decide +kernel
theorem dL_law_506 : decode cL_law 506 = .ok (.if_icmp .eq 344, 3) := by decide +kernel
theorem dL_law_509 : decode cL_law 509 = .ok (.iconst 0, 1) := by decide +kernel
theorem dL_law_510 : decode cL_law 510 = .ok (.ireturn, 1) := by decide +kernel
theorem dL_law_511 : decode cL_law 511 = .ok (.aload_n 1, 1) := by decide +kernel
theorem dL_law_512 : decode cL_law 512 = .ok (.aload_n 0, 1) := by decide +kernel
theorem dL_law_513 : decode cL_law 513 = .ok (.iload_n 3, 1) := by decide +kernel
theorem dL_law_514 : decode cL_law 514 = .ok (.iconst 1, 1) := by decide +kernel
theorem dL_law_515 : decode cL_law 515 = .ok (.iadd, 1) := by decide +kernel
theorem dL_law_516 : decode cL_law 516 = .ok (.iaload, 1) := by decide +kernel
theorem dL_law_517 : decode cL_law 517 = .ok (.aload_n 0, 1) := by decide +kernel
theorem dL_law_518 : decode cL_law 518 = .ok (.iload_n 3, 1) := by decide +kernel
theorem dL_law_519 : decode cL_law 519 = .ok (.iconst 2, 1) := by decide +kernel
theorem dL_law_520 : decode cL_law 520 = .ok (.iadd, 1) := by decide +kernel
theorem dL_law_521 : decode cL_law 521 = .ok (.iaload, 1) := by decide +kernel
theorem dL_law_522 : decode cL_law 522 = .ok (.invokevirtual 69, 3) := by decide +kernel
theorem dL_law_525 : decode cL_law 525 = .ok (.aload_n 2, 1) := by decide +kernel
theorem dL_law_526 : decode cL_law 526 = .ok (.aload_n 0, 1) := by decide +kernel
theorem dL_law_527 : decode cL_law 527 = .ok (.iload_n 3, 1) := by decide +kernel
theorem dL_law_528 : decode cL_law 528 = .ok (.iconst 1, 1) := by decide +kernel
theorem dL_law_529 : decode cL_law 529 = .ok (.iadd, 1) := by decide +kernel
theorem dL_law_530 : decode cL_law 530 = .ok (.iaload, 1) := by decide +kernel
theorem dL_law_531 : decode cL_law 531 = .ok (.aload_n 0, 1) := by decide +kernel
theorem dL_law_532 : decode cL_law 532 = .ok (.iload_n 3, 1) := by decide +kernel
theorem dL_law_533 : decode cL_law 533 = .ok (.iconst 2, 1) := by decide +kernel
theorem dL_law_534 : decode cL_law 534 = .ok (.iadd, 1) := by decide +kernel
theorem dL_law_535 : decode cL_law 535 = .ok (.iaload, 1) := by decide +kernel
theorem dL_law_536 : decode cL_law 536 = .ok (.invokevirtual 72, 3) := by decide +kernel
theorem dL_law_539 : decode cL_law 539 = .ok (.if_icmp .eq 311, 3) := by decide +kernel
theorem dL_law_542 : decode cL_law 542 = .ok (.iconst 0, 1) := by decide +kernel
theorem dL_law_543 : decode cL_law 543 = .ok (.ireturn, 1) := by decide +kernel
theorem dL_law_544 : decode cL_law 544 = .ok (.aload_n 1, 1) := by decide +kernel
theorem dL_law_545 : decode cL_law 545 = .ok (.aload_n 0, 1) := by decide +kernel
theorem dL_law_546 : decode cL_law 546 = .ok (.iload_n 3, 1) := by decide +kernel
theorem dL_law_547 : decode cL_law 547 = .ok (.iconst 1, 1) := by decide +kernel
theorem dL_law_548 : decode cL_law 548 = .ok (.iadd, 1) := by decide +kernel
theorem dL_law_549 : decode cL_law 549 = .ok (.iaload, 1) := by decide +kernel
theorem dL_law_550 : decode cL_law 550 = .ok (.aload_n 0, 1) := by decide +kernel
theorem dL_law_551 : decode cL_law 551 = .ok (.iload_n 3, 1) := by decide +kernel
theorem dL_law_552 : decode cL_law 552 = .ok (.iconst 2, 1) := by decide +kernel
theorem dL_law_553 : decode cL_law 553 = .ok (.iadd, 1) := by decide +kernel
theorem dL_law_554 : decode cL_law 554 = .ok (.iaload, 1) := by decide +kernel
theorem dL_law_555 : decode cL_law 555 = .ok (.aload_n 0, 1) := by decide +kernel
theorem dL_law_556 : decode cL_law 556 = .ok (.iload_n 3, 1) := by decide +kernel
theorem dL_law_557 : decode cL_law 557 = .ok (.iconst 3, 1) := by decide +kernel
theorem dL_law_558 : decode cL_law 558 = .ok (.iadd, 1) := by decide +kernel
theorem dL_law_559 : decode cL_law 559 = .ok (.iaload, 1) := by decide +kernel
theorem dL_law_560 : decode cL_law 560 = .ok (.invokevirtual 73, 3) := by decide +kernel
theorem dL_law_563 : decode cL_law 563 = .ok (.aload_n 2, 1) := by decide +kernel
theorem dL_law_564 : decode cL_law 564 = .ok (.aload_n 0, 1) := by decide +kernel
theorem dL_law_565 : decode cL_law 565 = .ok (.iload_n 3, 1) := by decide +kernel
theorem dL_law_566 : decode cL_law 566 = .ok (.iconst 1, 1) := by decide +kernel
theorem dL_law_567 : decode cL_law 567 = .ok (.iadd, 1) := by decide +kernel
theorem dL_law_568 : decode cL_law 568 = .ok (.iaload, 1) := by decide +kernel
theorem dL_law_569 : decode cL_law 569 = .ok (.aload_n 0, 1) := by decide +kernel
theorem dL_law_570 : decode cL_law 570 = .ok (.iload_n 3, 1) := by decide +kernel
theorem dL_law_571 : decode cL_law 571 = .ok (.iconst 2, 1) := by decide +kernel
theorem dL_law_572 : decode cL_law 572 = .ok (.iadd, 1) := by decide +kernel
theorem dL_law_573 : decode cL_law 573 = .ok (.iaload, 1) := by decide +kernel
theorem dL_law_574 : decode cL_law 574 = .ok (.aload_n 0, 1) := by decide +kernel
theorem dL_law_575 : decode cL_law 575 = .ok (.iload_n 3, 1) := by decide +kernel
theorem dL_law_576 : decode cL_law 576 = .ok (.iconst 3, 1) := by decide +kernel
theorem dL_law_577 : decode cL_law 577 = .ok (.iadd, 1) := by decide +kernel
theorem dL_law_578 : decode cL_law 578 = .ok (.iaload, 1) := by decide +kernel
theorem dL_law_579 : decode cL_law 579 = .ok (.invokevirtual 76, 3) := by decide +kernel
theorem dL_law_582 : decode cL_law 582 = .ok (.if_icmp .eq 268, 3) := by decide +kernel
theorem dL_law_585 : decode cL_law 585 = .ok (.iconst 0, 1) := by decide +kernel
theorem dL_law_586 : decode cL_law 586 = .ok (.ireturn, 1) := by decide +kernel
theorem dL_law_587 : decode cL_law 587 = .ok (.aload_n 1, 1) := by decide +kernel
theorem dL_law_588 : decode cL_law 588 = .ok (.aload_n 0, 1) := by decide +kernel
theorem dL_law_589 : decode cL_law 589 = .ok (.iload_n 3, 1) := by decide +kernel
theorem dL_law_590 : decode cL_law 590 = .ok (.iconst 1, 1) := by decide +kernel
theorem dL_law_591 : decode cL_law 591 = .ok (.iadd, 1) := by decide +kernel
theorem dL_law_592 : decode cL_law 592 = .ok (.iaload, 1) := by decide +kernel
theorem dL_law_593 : decode cL_law 593 = .ok (.aload_n 0, 1) := by decide +kernel
theorem dL_law_594 : decode cL_law 594 = .ok (.iload_n 3, 1) := by decide +kernel
theorem dL_law_595 : decode cL_law 595 = .ok (.iconst 2, 1) := by decide +kernel
theorem dL_law_596 : decode cL_law 596 = .ok (.iadd, 1) := by decide +kernel
theorem dL_law_597 : decode cL_law 597 = .ok (.iaload, 1) := by decide +kernel
theorem dL_law_598 : decode cL_law 598 = .ok (.aload_n 0, 1) := by decide +kernel
theorem dL_law_599 : decode cL_law 599 = .ok (.iload_n 3, 1) := by decide +kernel
theorem dL_law_600 : decode cL_law 600 = .ok (.iconst 3, 1) := by decide +kernel
theorem dL_law_601 : decode cL_law 601 = .ok (.iadd, 1) := by decide +kernel
theorem dL_law_602 : decode cL_law 602 = .ok (.iaload, 1) := by decide +kernel
theorem dL_law_603 : decode cL_law 603 = .ok (.aload_n 0, 1) := by decide +kernel
theorem dL_law_604 : decode cL_law 604 = .ok (.iload_n 3, 1) := by decide +kernel
theorem dL_law_605 : decode cL_law 605 = .ok (.iconst 4, 1) := by decide +kernel
theorem dL_law_606 : decode cL_law 606 = .ok (.iadd, 1) := by decide +kernel
theorem dL_law_607 : decode cL_law 607 = .ok (.iaload, 1) := by decide +kernel
theorem dL_law_608 : decode cL_law 608 = .ok (.aload_n 0, 1) := by decide +kernel
theorem dL_law_609 : decode cL_law 609 = .ok (.iload_n 3, 1) := by decide +kernel
theorem dL_law_610 : decode cL_law 610 = .ok (.iconst 5, 1) := by decide +kernel
theorem dL_law_611 : decode cL_law 611 = .ok (.iadd, 1) := by decide +kernel
theorem dL_law_612 : decode cL_law 612 = .ok (.iaload, 1) := by decide +kernel
theorem dL_law_613 : decode cL_law 613 = .ok (.invokevirtual 77, 3) := by decide +kernel
theorem dL_law_616 : decode cL_law 616 = .ok (.aload_n 2, 1) := by decide +kernel
theorem dL_law_617 : decode cL_law 617 = .ok (.aload_n 0, 1) := by decide +kernel
theorem dL_law_618 : decode cL_law 618 = .ok (.iload_n 3, 1) := by decide +kernel
theorem dL_law_619 : decode cL_law 619 = .ok (.iconst 1, 1) := by decide +kernel
theorem dL_law_620 : decode cL_law 620 = .ok (.iadd, 1) := by decide +kernel
theorem dL_law_621 : decode cL_law 621 = .ok (.iaload, 1) := by decide +kernel
theorem dL_law_622 : decode cL_law 622 = .ok (.aload_n 0, 1) := by decide +kernel
theorem dL_law_623 : decode cL_law 623 = .ok (.iload_n 3, 1) := by decide +kernel
theorem dL_law_624 : decode cL_law 624 = .ok (.iconst 2, 1) := by decide +kernel
theorem dL_law_625 : decode cL_law 625 = .ok (.iadd, 1) := by decide +kernel
theorem dL_law_626 : decode cL_law 626 = .ok (.iaload, 1) := by decide +kernel
theorem dL_law_627 : decode cL_law 627 = .ok (.aload_n 0, 1) := by decide +kernel
theorem dL_law_628 : decode cL_law 628 = .ok (.iload_n 3, 1) := by decide +kernel
theorem dL_law_629 : decode cL_law 629 = .ok (.iconst 3, 1) := by decide +kernel
theorem dL_law_630 : decode cL_law 630 = .ok (.iadd, 1) := by decide +kernel
theorem dL_law_631 : decode cL_law 631 = .ok (.iaload, 1) := by decide +kernel
theorem dL_law_632 : decode cL_law 632 = .ok (.aload_n 0, 1) := by decide +kernel
theorem dL_law_633 : decode cL_law 633 = .ok (.iload_n 3, 1) := by decide +kernel
theorem dL_law_634 : decode cL_law 634 = .ok (.iconst 4, 1) := by decide +kernel
theorem dL_law_635 : decode cL_law 635 = .ok (.iadd, 1) := by decide +kernel
theorem dL_law_636 : decode cL_law 636 = .ok (.iaload, 1) := by decide +kernel
theorem dL_law_637 : decode cL_law 637 = .ok (.aload_n 0, 1) := by decide +kernel
theorem dL_law_638 : decode cL_law 638 = .ok (.iload_n 3, 1) := by decide +kernel
theorem dL_law_639 : decode cL_law 639 = .ok (.iconst 5, 1) := by decide +kernel
theorem dL_law_640 : decode cL_law 640 = .ok (.iadd, 1) := by decide +kernel
theorem dL_law_641 : decode cL_law 641 = .ok (.iaload, 1) := by decide +kernel
theorem dL_law_642 : decode cL_law 642 = .ok (.invokevirtual 81, 3) := by decide +kernel
theorem dL_law_645 : decode cL_law 645 = .ok (.if_icmp .eq 205, 3) := by decide +kernel
theorem dL_law_648 : decode cL_law 648 = .ok (.iconst 0, 1) := by decide +kernel
theorem dL_law_649 : decode cL_law 649 = .ok (.ireturn, 1) := by decide +kernel
theorem dL_law_650 : decode cL_law 650 = .ok (.aload_n 1, 1) := by decide +kernel
theorem dL_law_651 : decode cL_law 651 = .ok (.aload_n 0, 1) := by decide +kernel
theorem dL_law_652 : decode cL_law 652 = .ok (.iload_n 3, 1) := by decide +kernel
theorem dL_law_653 : decode cL_law 653 = .ok (.iconst 1, 1) := by decide +kernel
theorem dL_law_654 : decode cL_law 654 = .ok (.iadd, 1) := by decide +kernel
theorem dL_law_655 : decode cL_law 655 = .ok (.iaload, 1) := by decide +kernel
theorem dL_law_656 : decode cL_law 656 = .ok (.aload_n 0, 1) := by decide +kernel
theorem dL_law_657 : decode cL_law 657 = .ok (.iload_n 3, 1) := by decide +kernel
theorem dL_law_658 : decode cL_law 658 = .ok (.iconst 2, 1) := by decide +kernel
theorem dL_law_659 : decode cL_law 659 = .ok (.iadd, 1) := by decide +kernel
theorem dL_law_660 : decode cL_law 660 = .ok (.iaload, 1) := by decide +kernel
theorem dL_law_661 : decode cL_law 661 = .ok (.invokevirtual 82, 3) := by decide +kernel
theorem dL_law_664 : decode cL_law 664 = .ok (.aload_n 2, 1) := by decide +kernel
theorem dL_law_665 : decode cL_law 665 = .ok (.aload_n 0, 1) := by decide +kernel
theorem dL_law_666 : decode cL_law 666 = .ok (.iload_n 3, 1) := by decide +kernel
theorem dL_law_667 : decode cL_law 667 = .ok (.iconst 1, 1) := by decide +kernel
theorem dL_law_668 : decode cL_law 668 = .ok (.iadd, 1) := by decide +kernel
theorem dL_law_669 : decode cL_law 669 = .ok (.iaload, 1) := by decide +kernel
theorem dL_law_670 : decode cL_law 670 = .ok (.aload_n 0, 1) := by decide +kernel
theorem dL_law_671 : decode cL_law 671 = .ok (.iload_n 3, 1) := by decide +kernel
theorem dL_law_672 : decode cL_law 672 = .ok (.iconst 2, 1) := by decide +kernel
theorem dL_law_673 : decode cL_law 673 = .ok (.iadd, 1) := by decide +kernel
theorem dL_law_674 : decode cL_law 674 = .ok (.iaload, 1) := by decide +kernel
theorem dL_law_675 : decode cL_law 675 = .ok (.invokevirtual 85, 3) := by decide +kernel
theorem dL_law_678 : decode cL_law 678 = .ok (.if_icmp .eq 172, 3) := by decide +kernel
theorem dL_law_681 : decode cL_law 681 = .ok (.iconst 0, 1) := by decide +kernel
theorem dL_law_682 : decode cL_law 682 = .ok (.ireturn, 1) := by decide +kernel
theorem dL_law_683 : decode cL_law 683 = .ok (.aload_n 1, 1) := by decide +kernel
theorem dL_law_684 : decode cL_law 684 = .ok (.invokevirtual 86, 3) := by decide +kernel
theorem dL_law_687 : decode cL_law 687 = .ok (.aload_n 2, 1) := by decide +kernel
theorem dL_law_688 : decode cL_law 688 = .ok (.invokevirtual 89, 3) := by decide +kernel
theorem dL_law_691 : decode cL_law 691 = .ok (.if_icmp .eq 159, 3) := by decide +kernel
theorem dL_law_694 : decode cL_law 694 = .ok (.iconst 0, 1) := by decide +kernel
theorem dL_law_695 : decode cL_law 695 = .ok (.ireturn, 1) := by decide +kernel
theorem dL_law_696 : decode cL_law 696 = .ok (.aload_n 1, 1) := by decide +kernel
theorem dL_law_697 : decode cL_law 697 = .ok (.aload_n 0, 1) := by decide +kernel
theorem dL_law_698 : decode cL_law 698 = .ok (.iload_n 3, 1) := by decide +kernel
theorem dL_law_699 : decode cL_law 699 = .ok (.iconst 1, 1) := by decide +kernel
theorem dL_law_700 : decode cL_law 700 = .ok (.iadd, 1) := by decide +kernel
theorem dL_law_701 : decode cL_law 701 = .ok (.iaload, 1) := by decide +kernel
theorem dL_law_702 : decode cL_law 702 = .ok (.invokevirtual 90, 3) := by decide +kernel
theorem dL_law_705 : decode cL_law 705 = .ok (.aload_n 2, 1) := by decide +kernel
theorem dL_law_706 : decode cL_law 706 = .ok (.aload_n 0, 1) := by decide +kernel
theorem dL_law_707 : decode cL_law 707 = .ok (.iload_n 3, 1) := by decide +kernel
theorem dL_law_708 : decode cL_law 708 = .ok (.iconst 1, 1) := by decide +kernel
theorem dL_law_709 : decode cL_law 709 = .ok (.iadd, 1) := by decide +kernel
theorem dL_law_710 : decode cL_law 710 = .ok (.iaload, 1) := by decide +kernel
theorem dL_law_711 : decode cL_law 711 = .ok (.invokevirtual 93, 3) := by decide +kernel
theorem dL_law_714 : decode cL_law 714 = .ok (.if_icmp .eq 136, 3) := by decide +kernel
theorem dL_law_717 : decode cL_law 717 = .ok (.iconst 0, 1) := by decide +kernel
theorem dL_law_718 : decode cL_law 718 = .ok (.ireturn, 1) := by decide +kernel
theorem dL_law_719 : decode cL_law 719 = .ok (.aload_n 1, 1) := by decide +kernel
theorem dL_law_720 : decode cL_law 720 = .ok (.aload_n 0, 1) := by decide +kernel
theorem dL_law_721 : decode cL_law 721 = .ok (.iload_n 3, 1) := by decide +kernel
theorem dL_law_722 : decode cL_law 722 = .ok (.iconst 1, 1) := by decide +kernel
theorem dL_law_723 : decode cL_law 723 = .ok (.iadd, 1) := by decide +kernel
theorem dL_law_724 : decode cL_law 724 = .ok (.iaload, 1) := by decide +kernel
theorem dL_law_725 : decode cL_law 725 = .ok (.invokevirtual 94, 3) := by decide +kernel
theorem dL_law_728 : decode cL_law 728 = .ok (.aload_n 2, 1) := by decide +kernel
theorem dL_law_729 : decode cL_law 729 = .ok (.aload_n 0, 1) := by decide +kernel
theorem dL_law_730 : decode cL_law 730 = .ok (.iload_n 3, 1) := by decide +kernel
theorem dL_law_731 : decode cL_law 731 = .ok (.iconst 1, 1) := by decide +kernel
theorem dL_law_732 : decode cL_law 732 = .ok (.iadd, 1) := by decide +kernel
theorem dL_law_733 : decode cL_law 733 = .ok (.iaload, 1) := by decide +kernel
theorem dL_law_734 : decode cL_law 734 = .ok (.invokevirtual 97, 3) := by decide +kernel
theorem dL_law_737 : decode cL_law 737 = .ok (.if_icmp .eq 113, 3) := by decide +kernel
theorem dL_law_740 : decode cL_law 740 = .ok (.iconst 0, 1) := by decide +kernel
theorem dL_law_741 : decode cL_law 741 = .ok (.ireturn, 1) := by decide +kernel
theorem dL_law_742 : decode cL_law 742 = .ok (.aload_n 1, 1) := by decide +kernel
theorem dL_law_743 : decode cL_law 743 = .ok (.aload_n 0, 1) := by decide +kernel
theorem dL_law_744 : decode cL_law 744 = .ok (.iload_n 3, 1) := by decide +kernel
theorem dL_law_745 : decode cL_law 745 = .ok (.iconst 1, 1) := by decide +kernel
theorem dL_law_746 : decode cL_law 746 = .ok (.iadd, 1) := by decide +kernel
theorem dL_law_747 : decode cL_law 747 = .ok (.iaload, 1) := by decide +kernel
theorem dL_law_748 : decode cL_law 748 = .ok (.invokevirtual 98, 3) := by decide +kernel
theorem dL_law_751 : decode cL_law 751 = .ok (.aload_n 2, 1) := by decide +kernel
theorem dL_law_752 : decode cL_law 752 = .ok (.aload_n 0, 1) := by decide +kernel
theorem dL_law_753 : decode cL_law 753 = .ok (.iload_n 3, 1) := by decide +kernel
theorem dL_law_754 : decode cL_law 754 = .ok (.iconst 1, 1) := by decide +kernel
theorem dL_law_755 : decode cL_law 755 = .ok (.iadd, 1) := by decide +kernel
theorem dL_law_756 : decode cL_law 756 = .ok (.iaload, 1) := by decide +kernel
theorem dL_law_757 : decode cL_law 757 = .ok (.invokevirtual 101, 3) := by decide +kernel
theorem dL_law_760 : decode cL_law 760 = .ok (.if_icmp .eq 90, 3) := by decide +kernel
theorem dL_law_763 : decode cL_law 763 = .ok (.iconst 0, 1) := by decide +kernel
theorem dL_law_764 : decode cL_law 764 = .ok (.ireturn, 1) := by decide +kernel
theorem dL_law_765 : decode cL_law 765 = .ok (.aload_n 1, 1) := by decide +kernel
theorem dL_law_766 : decode cL_law 766 = .ok (.invokevirtual 102, 3) := by decide +kernel
theorem dL_law_769 : decode cL_law 769 = .ok (.aload_n 2, 1) := by decide +kernel
theorem dL_law_770 : decode cL_law 770 = .ok (.invokevirtual 105, 3) := by decide +kernel
theorem dL_law_773 : decode cL_law 773 = .ok (.if_icmp .eq 77, 3) := by decide +kernel
theorem dL_law_776 : decode cL_law 776 = .ok (.iconst 0, 1) := by decide +kernel
theorem dL_law_777 : decode cL_law 777 = .ok (.ireturn, 1) := by decide +kernel
theorem dL_law_778 : decode cL_law 778 = .ok (.aload_n 1, 1) := by decide +kernel
theorem dL_law_779 : decode cL_law 779 = .ok (.aload_n 0, 1) := by decide +kernel
theorem dL_law_780 : decode cL_law 780 = .ok (.iload_n 3, 1) := by decide +kernel
theorem dL_law_781 : decode cL_law 781 = .ok (.iconst 1, 1) := by decide +kernel
theorem dL_law_782 : decode cL_law 782 = .ok (.iadd, 1) := by decide +kernel
theorem dL_law_783 : decode cL_law 783 = .ok (.iaload, 1) := by decide +kernel
theorem dL_law_784 : decode cL_law 784 = .ok (.invokevirtual 106, 3) := by decide +kernel
theorem dL_law_787 : decode cL_law 787 = .ok (.aload_n 2, 1) := by decide +kernel
theorem dL_law_788 : decode cL_law 788 = .ok (.aload_n 0, 1) := by decide +kernel
theorem dL_law_789 : decode cL_law 789 = .ok (.iload_n 3, 1) := by decide +kernel
theorem dL_law_790 : decode cL_law 790 = .ok (.iconst 1, 1) := by decide +kernel
theorem dL_law_791 : decode cL_law 791 = .ok (.iadd, 1) := by decide +kernel
theorem dL_law_792 : decode cL_law 792 = .ok (.iaload, 1) := by decide +kernel
theorem dL_law_793 : decode cL_law 793 = .ok (.invokevirtual 109, 3) := by decide +kernel
theorem dL_law_796 : decode cL_law 796 = .ok (.if_icmp .eq 54, 3) := by decide +kernel
theorem dL_law_799 : decode cL_law 799 = .ok (.iconst 0, 1) := by decide +kernel
theorem dL_law_800 : decode cL_law 800 = .ok (.ireturn, 1) := by decide +kernel
theorem dL_law_801 : decode cL_law 801 = .ok (.aload_n 1, 1) := by decide +kernel
theorem dL_law_802 : decode cL_law 802 = .ok (.invokevirtual 110, 3) := by decide +kernel
theorem dL_law_805 : decode cL_law 805 = .ok (.aload_n 2, 1) := by decide +kernel
theorem dL_law_806 : decode cL_law 806 = .ok (.invokevirtual 113, 3) := by decide +kernel
theorem dL_law_809 : decode cL_law 809 = .ok (.if_icmp .eq 41, 3) := by decide +kernel
theorem dL_law_812 : decode cL_law 812 = .ok (.iconst 0, 1) := by decide +kernel
theorem dL_law_813 : decode cL_law 813 = .ok (.ireturn, 1) := by decide +kernel
theorem dL_law_814 : decode cL_law 814 = .ok (.aload_n 1, 1) := by decide +kernel
theorem dL_law_815 : decode cL_law 815 = .ok (.aload_n 0, 1) := by decide +kernel
theorem dL_law_816 : decode cL_law 816 = .ok (.iload_n 3, 1) := by decide +kernel
theorem dL_law_817 : decode cL_law 817 = .ok (.iconst 1, 1) := by decide +kernel
theorem dL_law_818 : decode cL_law 818 = .ok (.iadd, 1) := by decide +kernel
theorem dL_law_819 : decode cL_law 819 = .ok (.iaload, 1) := by decide +kernel
theorem dL_law_820 : decode cL_law 820 = .ok (.invokevirtual 114, 3) := by decide +kernel
theorem dL_law_823 : decode cL_law 823 = .ok (.aload_n 2, 1) := by decide +kernel
theorem dL_law_824 : decode cL_law 824 = .ok (.aload_n 0, 1) := by decide +kernel
theorem dL_law_825 : decode cL_law 825 = .ok (.iload_n 3, 1) := by decide +kernel
theorem dL_law_826 : decode cL_law 826 = .ok (.iconst 1, 1) := by decide +kernel
theorem dL_law_827 : decode cL_law 827 = .ok (.iadd, 1) := by decide +kernel
theorem dL_law_828 : decode cL_law 828 = .ok (.iaload, 1) := by decide +kernel
theorem dL_law_829 : decode cL_law 829 = .ok (.invokevirtual 117, 3) := by decide +kernel
theorem dL_law_832 : decode cL_law 832 = .ok (.if_icmp .eq 18, 3) := by decide +kernel
theorem dL_law_835 : decode cL_law 835 = .ok (.iconst 0, 1) := by decide +kernel
theorem dL_law_836 : decode cL_law 836 = .ok (.ireturn, 1) := by decide +kernel
theorem dL_law_837 : decode cL_law 837 = .ok (.aload_n 1, 1) := by decide +kernel
theorem dL_law_838 : decode cL_law 838 = .ok (.invokevirtual 118, 3) := by decide +kernel
theorem dL_law_841 : decode cL_law 841 = .ok (.aload_n 2, 1) := by decide +kernel
theorem dL_law_842 : decode cL_law 842 = .ok (.invokevirtual 121, 3) := by decide +kernel
theorem dL_law_845 : decode cL_law 845 = .ok (.if_icmp .eq 5, 3) := by decide +kernel
theorem dL_law_848 : decode cL_law 848 = .ok (.iconst 0, 1) := by decide +kernel
theorem dL_law_849 : decode cL_law 849 = .ok (.ireturn, 1) := by decide +kernel
theorem dL_law_850 : decode cL_law 850 = .ok (.iinc 3 6, 3) := by decide +kernel
theorem dL_law_853 : decode cL_law 853 = .ok (.goto (-835), 3) := by decide +kernel
theorem dL_law_856 : decode cL_law 856 = .ok (.iconst 1, 1) := by decide +kernel
theorem dL_law_857 : decode cL_law 857 = .ok (.ireturn, 1) := by decide +kernel
abbrev vwCl : List vw_C := [(RX0, TX0, 5), (RX1, TX1, 4), (RX2, TX2, 8), (RX3, TX3, 5), (RX4, TX4, 13), (RX5, TX5, 8), (RX6, TX6, 15)]
