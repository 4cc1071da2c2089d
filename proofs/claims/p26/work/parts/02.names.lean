/-! ===== BEGIN printed: names, fields, word lists, decode rows ===== -/
def RX0 : String := "LentParts$Claims"
def TX0 : u_T := fun k => match k with
  | 0 => ("LentParts$Claims", "agents", "[I", true)
  | _ => ("LentParts$Claims", "sizes", "[I", true)
def tyX0 : Nat → FieldType := fun k => match k with
  | 0 => .array .int
  | _ => .array .int
abbrev wsX00 : List Cond := u_ws RX0 TX0 2
theorem nmX0 : ∀ a, a < 2 → ∀ b, b < 2 → a ≠ b → (TX0 a).2.1 ≠ (TX0 b).2.1 := by decide +kernel
theorem tyX0_ok : ∀ k, k < 2 → parseFieldDescriptor (TX0 k).2.2.1 = some (tyX0 k) := by decide +kernel
abbrev cX0_init : ByteArray := prog_2_method_1_code
def yX0_init : MethodName := ⟨RX0, "<init>", "()V"⟩
abbrev cX0_copyFrom : ByteArray := prog_2_method_2_code
def yX0_copyFrom : MethodName := ⟨RX0, "copyFrom", "(LLentParts$Claims;)V"⟩
abbrev cX0_size : ByteArray := prog_2_method_3_code
def yX0_size : MethodName := ⟨RX0, "size", "(I)I"⟩
abbrev cX0_sizeOfAll : ByteArray := prog_2_method_4_code
def yX0_sizeOfAll : MethodName := ⟨RX0, "sizeOfAll", "()I"⟩
abbrev cX0_first : ByteArray := prog_2_method_5_code
def yX0_first : MethodName := ⟨RX0, "first", "(I)I"⟩
abbrev cX0_placeOf : ByteArray := prog_2_method_6_code
def yX0_placeOf : MethodName := ⟨RX0, "placeOf", "(II)I"⟩
abbrev cX0_append : ByteArray := prog_2_method_7_code
def yX0_append : MethodName := ⟨RX0, "append", "(II)V"⟩
abbrev cX0_remove : ByteArray := prog_2_method_8_code
def yX0_remove : MethodName := ⟨RX0, "remove", "(II)V"⟩
def RX1 : String := "LentParts$Gathering"
def TX1 : u_T := fun k => match k with
  | _ => ("LentParts$Gathering", "idleAt", "[I", true)
def tyX1 : Nat → FieldType := fun k => match k with
  | _ => .array .int
abbrev wsX10 : List Cond := u_ws RX1 TX1 1
theorem nmX1 : ∀ a, a < 1 → ∀ b, b < 1 → a ≠ b → (TX1 a).2.1 ≠ (TX1 b).2.1 := by decide +kernel
theorem tyX1_ok : ∀ k, k < 1 → parseFieldDescriptor (TX1 k).2.2.1 = some (tyX1 k) := by decide +kernel
abbrev cX1_init : ByteArray := prog_3_method_1_code
def yX1_init : MethodName := ⟨RX1, "<init>", "()V"⟩
abbrev cX1_run : ByteArray := prog_3_method_2_code
def yX1_run : MethodName := ⟨RX1, "run", "(LLentParts$State;II)I"⟩
abbrev cX1_gatherFor : ByteArray := prog_3_method_3_code
def yX1_gatherFor : MethodName := ⟨RX1, "gatherFor", "(LLentParts$State;[IIIII)V"⟩
abbrev cX1_needyBorrower : ByteArray := prog_3_method_4_code
def yX1_needyBorrower : MethodName := ⟨RX1, "needyBorrower", "(LLentParts$State;II)I"⟩
def RX2 : String := "LentParts$History"
def TX2 : u_T := fun k => match k with
  | 0 => ("LentParts$History", "rows", "[LLentParts$State;", true)
  | 1 => ("LentParts$History", "open", "I", false)
  | _ => ("LentParts$History", "size", "I", false)
def tyX2 : Nat → FieldType := fun k => match k with
  | 0 => .array (.object "LentParts$State")
  | 1 => .int
  | _ => .int
abbrev wsX20 : List Cond := u_ws RX2 TX2 3
theorem nmX2 : ∀ a, a < 3 → ∀ b, b < 3 → a ≠ b → (TX2 a).2.1 ≠ (TX2 b).2.1 := by decide +kernel
theorem tyX2_ok : ∀ k, k < 3 → parseFieldDescriptor (TX2 k).2.2.1 = some (tyX2 k) := by decide +kernel
abbrev cX2_init : ByteArray := prog_4_method_1_code
def yX2_init : MethodName := ⟨RX2, "<init>", "()V"⟩
abbrev cX2_size : ByteArray := prog_4_method_2_code
def yX2_size : MethodName := ⟨RX2, "size", "()I"⟩
abbrev cX2_open : ByteArray := prog_4_method_3_code
def yX2_open : MethodName := ⟨RX2, "open", "(LLentParts$State;)V"⟩
abbrev cX2_opened : ByteArray := prog_4_method_4_code
def yX2_opened : MethodName := ⟨RX2, "opened", "()LLentParts$State;"⟩
abbrev cX2_record : ByteArray := prog_4_method_5_code
def yX2_record : MethodName := ⟨RX2, "record", "()V"⟩
abbrev cX2_takeLatest : ByteArray := prog_4_method_6_code
def yX2_takeLatest : MethodName := ⟨RX2, "takeLatest", "()LLentParts$State;"⟩
def RX3 : String := "LentParts$Loans"
def TX3 : u_T := fun k => match k with
  | 0 => ("LentParts$Loans", "number", "[I", true)
  | 1 => ("LentParts$Loans", "lender", "[I", true)
  | 2 => ("LentParts$Loans", "borrower", "[I", true)
  | 3 => ("LentParts$Loans", "cell", "[I", true)
  | 4 => ("LentParts$Loans", "parts", "[I", true)
  | 5 => ("LentParts$Loans", "standing", "I", false)
  | 6 => ("LentParts$Loans", "made", "I", false)
  | _ => ("LentParts$Loans", "ended", "I", false)
def tyX3 : Nat → FieldType := fun k => match k with
  | 0 => .array .int
  | 1 => .array .int
  | 2 => .array .int
  | 3 => .array .int
  | 4 => .array .int
  | 5 => .int
  | 6 => .int
  | _ => .int
abbrev wsX30 : List Cond := u_ws RX3 TX3 8
theorem nmX3 : ∀ a, a < 8 → ∀ b, b < 8 → a ≠ b → (TX3 a).2.1 ≠ (TX3 b).2.1 := by decide +kernel
theorem tyX3_ok : ∀ k, k < 8 → parseFieldDescriptor (TX3 k).2.2.1 = some (tyX3 k) := by decide +kernel
abbrev cX3_init : ByteArray := prog_5_method_1_code
def yX3_init : MethodName := ⟨RX3, "<init>", "()V"⟩
abbrev cX3_copyFrom : ByteArray := prog_5_method_2_code
def yX3_copyFrom : MethodName := ⟨RX3, "copyFrom", "(LLentParts$Loans;)V"⟩
abbrev cX3_hasRoom : ByteArray := prog_5_method_3_code
def yX3_hasRoom : MethodName := ⟨RX3, "hasRoom", "()Z"⟩
abbrev cX3_append : ByteArray := prog_5_method_4_code
def yX3_append : MethodName := ⟨RX3, "append", "(IIII)I"⟩
abbrev cX3_remove : ByteArray := prog_5_method_5_code
def yX3_remove : MethodName := ⟨RX3, "remove", "(I)V"⟩
abbrev cX3_rowOf : ByteArray := prog_5_method_6_code
def yX3_rowOf : MethodName := ⟨RX3, "rowOf", "(I)I"⟩
abbrev cX3_latestAhead : ByteArray := prog_5_method_7_code
def yX3_latestAhead : MethodName := ⟨RX3, "latestAhead", "(III)I"⟩
abbrev cX3_countOf : ByteArray := prog_5_method_8_code
def yX3_countOf : MethodName := ⟨RX3, "countOf", "(I)I"⟩
abbrev cX3_partsLent : ByteArray := prog_5_method_9_code
def yX3_partsLent : MethodName := ⟨RX3, "partsLent", "(II)I"⟩
abbrev cX3_partsBorrowed : ByteArray := prog_5_method_10_code
def yX3_partsBorrowed : MethodName := ⟨RX3, "partsBorrowed", "(II)I"⟩
abbrev cX3_sumParts : ByteArray := prog_5_method_11_code
def yX3_sumParts : MethodName := ⟨RX3, "sumParts", "([III)I"⟩
abbrev cX3_longestChain : ByteArray := prog_5_method_12_code
def yX3_longestChain : MethodName := ⟨RX3, "longestChain", "(I)I"⟩
abbrev cX3_linksOf : ByteArray := prog_5_method_13_code
def yX3_linksOf : MethodName := ⟨RX3, "linksOf", "(I)J"⟩
abbrev cX3_longestFrom : ByteArray := prog_5_method_14_code
def yX3_longestFrom : MethodName := ⟨RX3, "longestFrom", "(JIII)I"⟩
def RX4 : String := "LentParts$State"
def TX4 : u_T := fun k => match k with
  | 0 => ("LentParts$State", "value", "[I", true)
  | 1 => ("LentParts$State", "version", "[I", true)
  | 2 => ("LentParts$State", "owner", "[I", true)
  | 3 => ("LentParts$State", "held", "[I", true)
  | 4 => ("LentParts$State", "holding", "[I", true)
  | 5 => ("LentParts$State", "claims", "LLentParts$Claims;", true)
  | 6 => ("LentParts$State", "loans", "LLentParts$Loans;", true)
  | _ => ("LentParts$State", "writes", "I", false)
def tyX4 : Nat → FieldType := fun k => match k with
  | 0 => .array .int
  | 1 => .array .int
  | 2 => .array .int
  | 3 => .array .int
  | 4 => .array .int
  | 5 => .object "LentParts$Claims"
  | 6 => .object "LentParts$Loans"
  | _ => .int
abbrev wsX40 : List Cond := u_ws RX4 TX4 8
theorem nmX4 : ∀ a, a < 8 → ∀ b, b < 8 → a ≠ b → (TX4 a).2.1 ≠ (TX4 b).2.1 := by decide +kernel
theorem tyX4_ok : ∀ k, k < 8 → parseFieldDescriptor (TX4 k).2.2.1 = some (tyX4 k) := by decide +kernel
abbrev cX4_init : ByteArray := prog_6_method_1_code
def yX4_init : MethodName := ⟨RX4, "<init>", "()V"⟩
abbrev cX4_copyFrom : ByteArray := prog_6_method_2_code
def yX4_copyFrom : MethodName := ⟨RX4, "copyFrom", "(LLentParts$State;)V"⟩
abbrev cX4_heldBy : ByteArray := prog_6_method_3_code
def yX4_heldBy : MethodName := ⟨RX4, "heldBy", "(II)I"⟩
abbrev cX4_isHolding : ByteArray := prog_6_method_4_code
def yX4_isHolding : MethodName := ⟨RX4, "isHolding", "(II)Z"⟩
abbrev cX4_makeLoan : ByteArray := prog_6_method_5_code
def yX4_makeLoan : MethodName := ⟨RX4, "makeLoan", "(IIII)I"⟩
abbrev cX4_makeHalfLoan : ByteArray := prog_6_method_6_code
def yX4_makeHalfLoan : MethodName := ⟨RX4, "makeHalfLoan", "(III)I"⟩
abbrev cX4_endLoan : ByteArray := prog_6_method_7_code
def yX4_endLoan : MethodName := ⟨RX4, "endLoan", "(I)I"⟩
abbrev cX4_canEndLoan : ByteArray := prog_6_method_8_code
def yX4_canEndLoan : MethodName := ⟨RX4, "canEndLoan", "(I)Z"⟩
abbrev cX4_moveParts : ByteArray := prog_6_method_9_code
def yX4_moveParts : MethodName := ⟨RX4, "moveParts", "(IIII)V"⟩
abbrev cX4_setHolding : ByteArray := prog_6_method_10_code
def yX4_setHolding : MethodName := ⟨RX4, "setHolding", "(IIZ)I"⟩
abbrev cX4_writeValue : ByteArray := prog_6_method_11_code
def yX4_writeValue : MethodName := ⟨RX4, "writeValue", "(III)I"⟩
abbrev cX4_setClaim : ByteArray := prog_6_method_12_code
def yX4_setClaim : MethodName := ⟨RX4, "setClaim", "(IIZ)I"⟩
abbrev cX4_grantFirstClaim : ByteArray := prog_6_method_13_code
def yX4_grantFirstClaim : MethodName := ⟨RX4, "grantFirstClaim", "(I)I"⟩
abbrev cX4_changeOwner : ByteArray := prog_6_method_14_code
def yX4_changeOwner : MethodName := ⟨RX4, "changeOwner", "(II)I"⟩
abbrev cX4_countReaders : ByteArray := prog_6_method_15_code
def yX4_countReaders : MethodName := ⟨RX4, "countReaders", "(I)I"⟩
abbrev cX4_holderOfWhole : ByteArray := prog_6_method_16_code
def yX4_holderOfWhole : MethodName := ⟨RX4, "holderOfWhole", "(I)I"⟩
abbrev cX4_countWholeCells : ByteArray := prog_6_method_17_code
def yX4_countWholeCells : MethodName := ⟨RX4, "countWholeCells", "()I"⟩
abbrev cX4_countHolding : ByteArray := prog_6_method_18_code
def yX4_countHolding : MethodName := ⟨RX4, "countHolding", "(I)I"⟩
abbrev cX4_countAllHolding : ByteArray := prog_6_method_19_code
def yX4_countAllHolding : MethodName := ⟨RX4, "countAllHolding", "()I"⟩
def RX5 : String := "LentParts$Text"
def TX5 : u_T := fun k => match k with
  | 0 => ("LentParts$Text", "signs", "[I", true)
  | 1 => ("LentParts$Text", "length", "I", false)
  | 2 => ("LentParts$Text", "place", "I", false)
  | 3 => ("LentParts$Text", "slots", "[I", true)
  | _ => ("LentParts$Text", "acts", "I", false)
def tyX5 : Nat → FieldType := fun k => match k with
  | 0 => .array .int
  | 1 => .int
  | 2 => .int
  | 3 => .array .int
  | _ => .int
abbrev wsX50 : List Cond := u_ws RX5 TX5 5
theorem nmX5 : ∀ a, a < 5 → ∀ b, b < 5 → a ≠ b → (TX5 a).2.1 ≠ (TX5 b).2.1 := by decide +kernel
theorem tyX5_ok : ∀ k, k < 5 → parseFieldDescriptor (TX5 k).2.2.1 = some (tyX5 k) := by decide +kernel
abbrev cX5_init : ByteArray := prog_7_method_1_code
def yX5_init : MethodName := ⟨RX5, "<init>", "()V"⟩
abbrev cX5_size : ByteArray := prog_7_method_2_code
def yX5_size : MethodName := ⟨RX5, "size", "()I"⟩
def RX6 : String := "LentParts"
def TX6 : u_T := fun k => match k with
  | 0 => ("LentParts", "now", "LLentParts$State;", true)
  | 1 => ("LentParts", "trial", "LLentParts$State;", true)
  | 2 => ("LentParts", "snapshot", "LLentParts$State;", true)
  | 3 => ("LentParts", "history", "LLentParts$History;", true)
  | 4 => ("LentParts", "gathering", "LLentParts$Gathering;", true)
  | 5 => ("LentParts", "text", "LLentParts$Text;", true)
  | 6 => ("LentParts", "kept", "Z", false)
  | 7 => ("LentParts", "stopped", "Z", false)
  | 8 => ("LentParts", "stoppedAct", "I", false)
  | _ => ("LentParts", "stoppedBy", "I", false)
def tyX6 : Nat → FieldType := fun k => match k with
  | 0 => .object "LentParts$State"
  | 1 => .object "LentParts$State"
  | 2 => .object "LentParts$State"
  | 3 => .object "LentParts$History"
  | 4 => .object "LentParts$Gathering"
  | 5 => .object "LentParts$Text"
  | 6 => .boolean
  | 7 => .boolean
  | 8 => .int
  | _ => .int
abbrev wsX60 : List Cond := u_ws RX6 TX6 10
theorem nmX6 : ∀ a, a < 10 → ∀ b, b < 10 → a ≠ b → (TX6 a).2.1 ≠ (TX6 b).2.1 := by decide +kernel
theorem tyX6_ok : ∀ k, k < 10 → parseFieldDescriptor (TX6 k).2.2.1 = some (tyX6 k) := by decide +kernel
abbrev cX6_init : ByteArray := prog_1_method_1_code
def yX6_init : MethodName := ⟨RX6, "<init>", "()V"⟩
abbrev cX6_lend : ByteArray := prog_1_method_2_code
def yX6_lend : MethodName := ⟨RX6, "lend", "(IIII)I"⟩
abbrev cX6_half : ByteArray := prog_1_method_3_code
def yX6_half : MethodName := ⟨RX6, "half", "(III)I"⟩
abbrev cX6_giveBack : ByteArray := prog_1_method_4_code
def yX6_giveBack : MethodName := ⟨RX6, "giveBack", "(I)I"⟩
abbrev cX6_gather : ByteArray := prog_1_method_5_code
def yX6_gather : MethodName := ⟨RX6, "gather", "(II)I"⟩
abbrev cX6_hold : ByteArray := prog_1_method_6_code
def yX6_hold : MethodName := ⟨RX6, "hold", "(IIZ)I"⟩
abbrev cX6_write : ByteArray := prog_1_method_7_code
def yX6_write : MethodName := ⟨RX6, "write", "(III)I"⟩
abbrev cX6_read : ByteArray := prog_1_method_8_code
def yX6_read : MethodName := ⟨RX6, "read", "(II)I"⟩
abbrev cX6_claim : ByteArray := prog_1_method_9_code
def yX6_claim : MethodName := ⟨RX6, "claim", "(IIZ)I"⟩
abbrev cX6_serve : ByteArray := prog_1_method_10_code
def yX6_serve : MethodName := ⟨RX6, "serve", "(I)I"⟩
abbrev cX6_handOver : ByteArray := prog_1_method_11_code
def yX6_handOver : MethodName := ⟨RX6, "handOver", "(II)I"⟩
abbrev cX6_undo : ByteArray := prog_1_method_16_code
def yX6_undo : MethodName := ⟨RX6, "undo", "()I"⟩
abbrev cX6_cell : ByteArray := prog_1_method_19_code
def yX6_cell : MethodName := ⟨RX6, "cell", "(II)I"⟩
abbrev cX6_part : ByteArray := prog_1_method_20_code
def yX6_part : MethodName := ⟨RX6, "part", "(III)I"⟩
abbrev cX6_loan : ByteArray := prog_1_method_21_code
def yX6_loan : MethodName := ⟨RX6, "loan", "(II)I"⟩
abbrev cX6_reason : ByteArray := prog_1_method_22_code
def yX6_reason : MethodName := ⟨RX6, "reason", "(II)I"⟩
abbrev cX6_chain : ByteArray := prog_1_method_23_code
def yX6_chain : MethodName := ⟨RX6, "chain", "(I)I"⟩
abbrev cX6_count : ByteArray := prog_1_method_24_code
def yX6_count : MethodName := ⟨RX6, "count", "(I)I"⟩
abbrev cX6_close : ByteArray := prog_1_method_25_code
def yX6_close : MethodName := ⟨RX6, "close", "(I)I"⟩
abbrev cX6_gatherCell : ByteArray := prog_1_method_26_code
def yX6_gatherCell : MethodName := ⟨RX6, "gatherCell", "(II)I"⟩
abbrev cX6_heldAfterGathering : ByteArray := prog_1_method_27_code
def yX6_heldAfterGathering : MethodName := ⟨RX6, "heldAfterGathering", "(II)I"⟩
abbrev cX6_serveClaims : ByteArray := prog_1_method_28_code
def yX6_serveClaims : MethodName := ⟨RX6, "serveClaims", "(I)I"⟩
abbrev cX6_isAgent : ByteArray := prog_1_method_31_code
def yX6_isAgent : MethodName := ⟨RX6, "isAgent", "(I)Z"⟩
abbrev cX6_isCell : ByteArray := prog_1_method_32_code
def yX6_isCell : MethodName := ⟨RX6, "isCell", "(I)Z"⟩
def RX7 : String := "LentPartsModel"
def TX7 : u_T := fun k => match k with
  | _ => ("", "", "", false)
def tyX7 : Nat → FieldType := fun k => match k with
  | _ => .int
abbrev wsX70 : List Cond := u_ws RX7 TX7 0
theorem nmX7 : ∀ a, a < 0 → ∀ b, b < 0 → a ≠ b → (TX7 a).2.1 ≠ (TX7 b).2.1 := by decide +kernel
theorem tyX7_ok : ∀ k, k < 0 → parseFieldDescriptor (TX7 k).2.2.1 = some (tyX7 k) := by decide +kernel
def RJ6 : String := "java/lang/Integer"
def TJ6 : u_T := fun k => match k with
  | _ => ("", "", "", false)
def tyJ6 : Nat → FieldType := fun k => match k with
  | _ => .int
abbrev wsJ60 : List Cond := u_ws RJ6 TJ6 0
theorem nmJ6 : ∀ a, a < 0 → ∀ b, b < 0 → a ≠ b → (TJ6 a).2.1 ≠ (TJ6 b).2.1 := by decide +kernel
theorem tyJ6_ok : ∀ k, k < 0 → parseFieldDescriptor (TJ6 k).2.2.1 = some (tyJ6 k) := by decide +kernel
abbrev cJ6_bitCount_0f7a4 : ByteArray := prog_10_method_49_code
def yJ6_bitCount_0f7a4 : MethodName := ⟨RJ6, "bitCount", "(I)I"⟩
def RJ9 : String := "java/lang/Math"
def TJ9 : u_T := fun k => match k with
  | _ => ("", "", "", false)
def tyJ9 : Nat → FieldType := fun k => match k with
  | _ => .int
abbrev wsJ90 : List Cond := u_ws RJ9 TJ9 0
theorem nmJ9 : ∀ a, a < 0 → ∀ b, b < 0 → a ≠ b → (TJ9 a).2.1 ≠ (TJ9 b).2.1 := by decide +kernel
theorem tyJ9_ok : ∀ k, k < 0 → parseFieldDescriptor (TJ9 k).2.2.1 = some (tyJ9 k) := by decide +kernel
abbrev cJ9_max_7cf53 : ByteArray := prog_11_method_65_code
def yJ9_max_7cf53 : MethodName := ⟨RJ9, "max", "(II)I"⟩
abbrev cJ9_min_7cf53 : ByteArray := prog_11_method_69_code
def yJ9_min_7cf53 : MethodName := ⟨RJ9, "min", "(II)I"⟩
def RJ10 : String := "java/lang/System"
def TJ10 : u_T := fun k => match k with
  | _ => ("", "", "", false)
def tyJ10 : Nat → FieldType := fun k => match k with
  | _ => .int
abbrev wsJ100 : List Cond := u_ws RJ10 TJ10 0
theorem nmJ10 : ∀ a, a < 0 → ∀ b, b < 0 → a ≠ b → (TJ10 a).2.1 ≠ (TJ10 b).2.1 := by decide +kernel
theorem tyJ10_ok : ∀ k, k < 0 → parseFieldDescriptor (TJ10 k).2.2.1 = some (tyJ10 k) := by decide +kernel
def RJ7 : String := "java/util/Arrays"
def TJ7 : u_T := fun k => match k with
  | _ => ("", "", "", false)
def tyJ7 : Nat → FieldType := fun k => match k with
  | _ => .int
abbrev wsJ70 : List Cond := u_ws RJ7 TJ7 0
theorem nmJ7 : ∀ a, a < 0 → ∀ b, b < 0 → a ≠ b → (TJ7 a).2.1 ≠ (TJ7 b).2.1 := by decide +kernel
theorem tyJ7_ok : ∀ k, k < 0 → parseFieldDescriptor (TJ7 k).2.2.1 = some (tyJ7 k) := by decide +kernel
abbrev cJ7_fill_53178 : ByteArray := prog_13_method_103_code
def yJ7_fill_53178 : MethodName := ⟨RJ7, "fill", "([II)V"⟩
def RL : String := "LentPartsLaw"
abbrev cL_cell : ByteArray := method_2_code
def yL_cell : MethodName := ⟨RL, "cell", "([II)I"⟩
abbrev cL_low : ByteArray := method_3_code
def yL_low : MethodName := ⟨RL, "low", "(II)I"⟩
abbrev cL_does : ByteArray := method_4_code
def yL_does : MethodName := ⟨RL, "does", "(LLentParts;I)I"⟩
abbrev cL_isCellSo : ByteArray := method_5_code
def yL_isCellSo : MethodName := ⟨RL, "isCellSo", "(LLentParts;I)Z"⟩
abbrev cL_isGatherSo : ByteArray := method_6_code
def yL_isGatherSo : MethodName := ⟨RL, "isGatherSo", "(LLentParts;II)Z"⟩
abbrev cL_law : ByteArray := code
def yL_law : MethodName := ⟨RL, "law", "([I)Z"⟩
theorem inX0 : ∀ w ∈ wsX00, w ∈ lw_tbl := by decide +kernel
theorem inX1 : ∀ w ∈ wsX10, w ∈ lw_tbl := by decide +kernel
theorem inX2 : ∀ w ∈ wsX20, w ∈ lw_tbl := by decide +kernel
theorem inX3 : ∀ w ∈ wsX30, w ∈ lw_tbl := by decide +kernel
theorem inX4 : ∀ w ∈ wsX40, w ∈ lw_tbl := by decide +kernel
theorem inX5 : ∀ w ∈ wsX50, w ∈ lw_tbl := by decide +kernel
theorem inX6 : ∀ w ∈ wsX60, w ∈ lw_tbl := by decide +kernel
theorem inX7 : ∀ w ∈ wsX70, w ∈ lw_tbl := by decide +kernel
abbrev vwCl : List vw_C := [(RX0, TX0, 2), (RX1, TX1, 1), (RX2, TX2, 3), (RX3, TX3, 8), (RX4, TX4, 8), (RX5, TX5, 5), (RX6, TX6, 10)]
