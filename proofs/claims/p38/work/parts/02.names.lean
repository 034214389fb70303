def RX0 : String := "SlipWheel$Cells"
def TX0 : u_T := fun k => match k with
  | 0 => ("SlipWheel$Cells", "kinds", "[I", true)
  | 1 => ("SlipWheel$Cells", "isDead", "[Z", true)
  | 2 => ("SlipWheel$Cells", "weights", "[I", true)
  | _ => ("SlipWheel$Cells", "number", "I", false)
def tyX0 : Nat → FieldType := fun k => match k with
  | 0 => .array .int
  | 1 => .array .boolean
  | 2 => .array .int
  | _ => .int
abbrev wsX00 : List Cond := u_ws RX0 TX0 4
theorem nmX0 : ∀ a, a < 4 → ∀ b, b < 4 → a ≠ b → (TX0 a).2.1 ≠ (TX0 b).2.1 := by decide +kernel
theorem tyX0_ok : ∀ k, k < 4 → parseFieldDescriptor (TX0 k).2.2.1 = some (tyX0 k) := by decide +kernel
abbrev cX0_init : ByteArray := prog_2_method_1_code
def yX0_init : MethodName := ⟨RX0, "<init>", "()V"⟩
abbrev cX0_copyFrom : ByteArray := prog_2_method_2_code
def yX0_copyFrom : MethodName := ⟨RX0, "copyFrom", "(LSlipWheel$Cells;)V"⟩
abbrev cX0_has : ByteArray := prog_2_method_3_code
def yX0_has : MethodName := ⟨RX0, "has", "(I)Z"⟩
abbrev cX0_append : ByteArray := prog_2_method_4_code
def yX0_append : MethodName := ⟨RX0, "append", "(I)I"⟩
abbrev cX0_kindOf : ByteArray := prog_2_method_5_code
def yX0_kindOf : MethodName := ⟨RX0, "kindOf", "(I)I"⟩
abbrev cX0_isAlive : ByteArray := prog_2_method_6_code
def yX0_isAlive : MethodName := ⟨RX0, "isAlive", "(I)Z"⟩
abbrev cX0_changeDead : ByteArray := prog_2_method_7_code
def yX0_changeDead : MethodName := ⟨RX0, "changeDead", "(IZ)Z"⟩
abbrev cX0_living : ByteArray := prog_2_method_8_code
def yX0_living : MethodName := ⟨RX0, "living", "()I"⟩
abbrev cX0_weightOf : ByteArray := prog_2_method_9_code
def yX0_weightOf : MethodName := ⟨RX0, "weightOf", "(II)I"⟩
abbrev cX0_changeWeight : ByteArray := prog_2_method_10_code
def yX0_changeWeight : MethodName := ⟨RX0, "changeWeight", "(III)I"⟩
abbrev cX0_weightOfSet : ByteArray := prog_2_method_11_code
def yX0_weightOfSet : MethodName := ⟨RX0, "weightOfSet", "(II)I"⟩
abbrev cX0_weightedWords : ByteArray := prog_2_method_12_code
def yX0_weightedWords : MethodName := ⟨RX0, "weightedWords", "(I)I"⟩
def RX1 : String := "SlipWheel$Everything"
def TX1 : u_T := fun k => match k with
  | 0 => ("SlipWheel$Everything", "tongue", "LSlipWheel$Tongue;", true)
  | 1 => ("SlipWheel$Everything", "cells", "LSlipWheel$Cells;", true)
  | 2 => ("SlipWheel$Everything", "wheel", "LSlipWheel$Wheel;", true)
  | 3 => ("SlipWheel$Everything", "pages", "LSlipWheel$Pages;", true)
  | _ => ("SlipWheel$Everything", "lot", "I", false)
def tyX1 : Nat → FieldType := fun k => match k with
  | 0 => .object "SlipWheel$Tongue"
  | 1 => .object "SlipWheel$Cells"
  | 2 => .object "SlipWheel$Wheel"
  | 3 => .object "SlipWheel$Pages"
  | _ => .int
abbrev wsX10 : List Cond := u_ws RX1 TX1 5
theorem nmX1 : ∀ a, a < 5 → ∀ b, b < 5 → a ≠ b → (TX1 a).2.1 ≠ (TX1 b).2.1 := by decide +kernel
theorem tyX1_ok : ∀ k, k < 5 → parseFieldDescriptor (TX1 k).2.2.1 = some (tyX1 k) := by decide +kernel
abbrev cX1_init : ByteArray := prog_3_method_1_code
def yX1_init : MethodName := ⟨RX1, "<init>", "()V"⟩
abbrev cX1_copyFrom : ByteArray := prog_3_method_2_code
def yX1_copyFrom : MethodName := ⟨RX1, "copyFrom", "(LSlipWheel$Everything;)V"⟩
abbrev cX1_canCome : ByteArray := prog_3_method_3_code
def yX1_canCome : MethodName := ⟨RX1, "canCome", "(II)I"⟩
abbrev cX1_hasEnded : ByteArray := prog_3_method_5_code
def yX1_hasEnded : MethodName := ⟨RX1, "hasEnded", "(I)Z"⟩
abbrev cX1_addDrawnWord : ByteArray := prog_3_method_6_code
def yX1_addDrawnWord : MethodName := ⟨RX1, "addDrawnWord", "()V"⟩
abbrev cX1_drawnWord : ByteArray := prog_3_method_7_code
def yX1_drawnWord : MethodName := ⟨RX1, "drawnWord", "(II)I"⟩
abbrev cX1_lineEndingAt : ByteArray := prog_3_method_10_code
def yX1_lineEndingAt : MethodName := ⟨RX1, "lineEndingAt", "(I)I"⟩
abbrev cX1_firstLineEnd : ByteArray := prog_3_method_11_code
def yX1_firstLineEnd : MethodName := ⟨RX1, "firstLineEnd", "()I"⟩
abbrev cX1_preventers : ByteArray := prog_3_method_12_code
def yX1_preventers : MethodName := ⟨RX1, "preventers", "(I)I"⟩
abbrev cX1_couldHaveWrittenElse : ByteArray := prog_3_method_13_code
def yX1_couldHaveWrittenElse : MethodName := ⟨RX1, "couldHaveWrittenElse", "(II)Z"⟩
def RX2 : String := "SlipWheel$Pages"
def TX2 : u_T := fun k => match k with
  | 0 => ("SlipWheel$Pages", "words", "[I", true)
  | 1 => ("SlipWheel$Pages", "writers", "[I", true)
  | _ => ("SlipWheel$Pages", "length", "I", false)
def tyX2 : Nat → FieldType := fun k => match k with
  | 0 => .array .int
  | 1 => .array .int
  | _ => .int
abbrev wsX20 : List Cond := u_ws RX2 TX2 3
theorem nmX2 : ∀ a, a < 3 → ∀ b, b < 3 → a ≠ b → (TX2 a).2.1 ≠ (TX2 b).2.1 := by decide +kernel
theorem tyX2_ok : ∀ k, k < 3 → parseFieldDescriptor (TX2 k).2.2.1 = some (tyX2 k) := by decide +kernel
abbrev cX2_init : ByteArray := prog_4_method_1_code
def yX2_init : MethodName := ⟨RX2, "<init>", "()V"⟩
abbrev cX2_copyFrom : ByteArray := prog_4_method_2_code
def yX2_copyFrom : MethodName := ⟨RX2, "copyFrom", "(LSlipWheel$Pages;)V"⟩
abbrev cX2_isFull : ByteArray := prog_4_method_3_code
def yX2_isFull : MethodName := ⟨RX2, "isFull", "()Z"⟩
abbrev cX2_has : ByteArray := prog_4_method_4_code
def yX2_has : MethodName := ⟨RX2, "has", "(I)Z"⟩
abbrev cX2_append : ByteArray := prog_4_method_6_code
def yX2_append : MethodName := ⟨RX2, "append", "(II)V"⟩
abbrev cX2_wordAt : ByteArray := prog_4_method_7_code
def yX2_wordAt : MethodName := ⟨RX2, "wordAt", "(I)I"⟩
abbrev cX2_writerAt : ByteArray := prog_4_method_8_code
def yX2_writerAt : MethodName := ⟨RX2, "writerAt", "(I)I"⟩
abbrev cX2_known : ByteArray := prog_4_method_10_code
def yX2_known : MethodName := ⟨RX2, "known", "()I"⟩
abbrev cX2_habitOf : ByteArray := prog_4_method_11_code
def yX2_habitOf : MethodName := ⟨RX2, "habitOf", "(II)I"⟩
abbrev cX2_slip : ByteArray := prog_4_method_12_code
def yX2_slip : MethodName := ⟨RX2, "slip", "()I"⟩
abbrev cX2_slipAheadOf : ByteArray := prog_4_method_13_code
def yX2_slipAheadOf : MethodName := ⟨RX2, "slipAheadOf", "(I)I"⟩
def RX3 : String := "SlipWheel$Search"
def TX3 : u_T := fun k => match k with
  | 0 => ("SlipWheel$Search", "slips", "[I", true)
  | 1 => ("SlipWheel$Search", "seenOnSeats", "[B", true)
  | _ => ("SlipWheel$Search", "found", "I", false)
def tyX3 : Nat → FieldType := fun k => match k with
  | 0 => .array .int
  | 1 => .array .byte
  | _ => .int
abbrev wsX30 : List Cond := u_ws RX3 TX3 3
theorem nmX3 : ∀ a, a < 3 → ∀ b, b < 3 → a ≠ b → (TX3 a).2.1 ≠ (TX3 b).2.1 := by decide +kernel
theorem tyX3_ok : ∀ k, k < 3 → parseFieldDescriptor (TX3 k).2.2.1 = some (tyX3 k) := by decide +kernel
abbrev cX3_init : ByteArray := prog_5_method_1_code
def yX3_init : MethodName := ⟨RX3, "<init>", "()V"⟩
abbrev cX3_fewestTurns : ByteArray := prog_5_method_2_code
def yX3_fewestTurns : MethodName := ⟨RX3, "fewestTurns", "(LSlipWheel$Everything;II)I"⟩
abbrev cX3_hasAim : ByteArray := prog_5_method_3_code
def yX3_hasAim : MethodName := ⟨RX3, "hasAim", "(LSlipWheel$Everything;IIII)Z"⟩
abbrev cX3_slipAt : ByteArray := prog_5_method_4_code
def yX3_slipAt : MethodName := ⟨RX3, "slipAt", "(I)I"⟩
abbrev cX3_spread : ByteArray := prog_5_method_5_code
def yX3_spread : MethodName := ⟨RX3, "spread", "(LSlipWheel$Everything;III)V"⟩
abbrev cX3_note : ByteArray := prog_5_method_6_code
def yX3_note : MethodName := ⟨RX3, "note", "(II)V"⟩
def RX4 : String := "SlipWheel$Sheet"
def TX4 : u_T := fun k => match k with
  | 0 => ("SlipWheel$Sheet", "items", "[I", true)
  | 1 => ("SlipWheel$Sheet", "rowLane", "I", false)
  | _ => ("SlipWheel$Sheet", "length", "I", false)
def tyX4 : Nat → FieldType := fun k => match k with
  | 0 => .array .int
  | 1 => .int
  | _ => .int
abbrev wsX40 : List Cond := u_ws RX4 TX4 3
theorem nmX4 : ∀ a, a < 3 → ∀ b, b < 3 → a ≠ b → (TX4 a).2.1 ≠ (TX4 b).2.1 := by decide +kernel
theorem tyX4_ok : ∀ k, k < 3 → parseFieldDescriptor (TX4 k).2.2.1 = some (tyX4 k) := by decide +kernel
abbrev cX4_init : ByteArray := prog_6_method_1_code
def yX4_init : MethodName := ⟨RX4, "<init>", "()V"⟩
def RX5 : String := "SlipWheel$Tape"
def TX5 : u_T := fun k => match k with
  | 0 => ("SlipWheel$Tape", "bytes", "[I", true)
  | 1 => ("SlipWheel$Tape", "parsed", "[I", true)
  | _ => ("SlipWheel$Tape", "length", "I", false)
def tyX5 : Nat → FieldType := fun k => match k with
  | 0 => .array .int
  | 1 => .array .int
  | _ => .int
abbrev wsX50 : List Cond := u_ws RX5 TX5 3
theorem nmX5 : ∀ a, a < 3 → ∀ b, b < 3 → a ≠ b → (TX5 a).2.1 ≠ (TX5 b).2.1 := by decide +kernel
theorem tyX5_ok : ∀ k, k < 3 → parseFieldDescriptor (TX5 k).2.2.1 = some (tyX5 k) := by decide +kernel
abbrev cX5_init : ByteArray := prog_7_method_1_code
def yX5_init : MethodName := ⟨RX5, "<init>", "()V"⟩
def RX6 : String := "SlipWheel$Tongue"
def TX6 : u_T := fun k => match k with
  | 0 => ("SlipWheel$Tongue", "following", "[I", true)
  | 1 => ("SlipWheel$Tongue", "lineWords", "[I", true)
  | 2 => ("SlipWheel$Tongue", "lineLengths", "[I", true)
  | _ => ("SlipWheel$Tongue", "lines", "I", false)
def tyX6 : Nat → FieldType := fun k => match k with
  | 0 => .array .int
  | 1 => .array .int
  | 2 => .array .int
  | _ => .int
abbrev wsX60 : List Cond := u_ws RX6 TX6 4
theorem nmX6 : ∀ a, a < 4 → ∀ b, b < 4 → a ≠ b → (TX6 a).2.1 ≠ (TX6 b).2.1 := by decide +kernel
theorem tyX6_ok : ∀ k, k < 4 → parseFieldDescriptor (TX6 k).2.2.1 = some (tyX6 k) := by decide +kernel
abbrev cX6_init : ByteArray := prog_8_method_1_code
def yX6_init : MethodName := ⟨RX6, "<init>", "()V"⟩
abbrev cX6_copyFrom : ByteArray := prog_8_method_2_code
def yX6_copyFrom : MethodName := ⟨RX6, "copyFrom", "(LSlipWheel$Tongue;)V"⟩
abbrev cX6_changeFollowing : ByteArray := prog_8_method_3_code
def yX6_changeFollowing : MethodName := ⟨RX6, "changeFollowing", "(II)I"⟩
abbrev cX6_appendLine : ByteArray := prog_8_method_4_code
def yX6_appendLine : MethodName := ⟨RX6, "appendLine", "(II)I"⟩
abbrev cX6_mayCome : ByteArray := prog_8_method_5_code
def yX6_mayCome : MethodName := ⟨RX6, "mayCome", "(II)I"⟩
abbrev cX6_lineAtEndOf : ByteArray := prog_8_method_6_code
def yX6_lineAtEndOf : MethodName := ⟨RX6, "lineAtEndOf", "(II)I"⟩
abbrev cX6_lengthOfLine : ByteArray := prog_8_method_7_code
def yX6_lengthOfLine : MethodName := ⟨RX6, "lengthOfLine", "(I)I"⟩
def RX7 : String := "SlipWheel$Wheel"
def TX7 : u_T := fun k => match k with
  | 0 => ("SlipWheel$Wheel", "cells", "LSlipWheel$Cells;", true)
  | 1 => ("SlipWheel$Wheel", "onSeat", "[I", true)
  | 2 => ("SlipWheel$Wheel", "standing", "I", false)
  | 3 => ("SlipWheel$Wheel", "turns", "I", false)
  | _ => ("SlipWheel$Wheel", "backwards", "Z", false)
def tyX7 : Nat → FieldType := fun k => match k with
  | 0 => .object "SlipWheel$Cells"
  | 1 => .array .int
  | 2 => .int
  | 3 => .int
  | _ => .boolean
abbrev wsX70 : List Cond := u_ws RX7 TX7 5
theorem nmX7 : ∀ a, a < 5 → ∀ b, b < 5 → a ≠ b → (TX7 a).2.1 ≠ (TX7 b).2.1 := by decide +kernel
theorem tyX7_ok : ∀ k, k < 5 → parseFieldDescriptor (TX7 k).2.2.1 = some (tyX7 k) := by decide +kernel
abbrev cX7_init : ByteArray := prog_9_method_1_code
def yX7_init : MethodName := ⟨RX7, "<init>", "(LSlipWheel$Cells;)V"⟩
abbrev cX7_copyFrom : ByteArray := prog_9_method_2_code
def yX7_copyFrom : MethodName := ⟨RX7, "copyFrom", "(LSlipWheel$Wheel;)V"⟩
abbrev cX7_takeSeat : ByteArray := prog_9_method_3_code
def yX7_takeSeat : MethodName := ⟨RX7, "takeSeat", "(I)V"⟩
abbrev cX7_cellOn : ByteArray := prog_9_method_4_code
def yX7_cellOn : MethodName := ⟨RX7, "cellOn", "(I)I"⟩
abbrev cX7_seatOf : ByteArray := prog_9_method_5_code
def yX7_seatOf : MethodName := ⟨RX7, "seatOf", "(I)I"⟩
abbrev cX7_changeSeats : ByteArray := prog_9_method_6_code
def yX7_changeSeats : MethodName := ⟨RX7, "changeSeats", "(II)V"⟩
abbrev cX7_seatOfTurn : ByteArray := prog_9_method_7_code
def yX7_seatOfTurn : MethodName := ⟨RX7, "seatOfTurn", "()I"⟩
abbrev cX7_seatBehind : ByteArray := prog_9_method_8_code
def yX7_seatBehind : MethodName := ⟨RX7, "seatBehind", "(I)I"⟩
abbrev cX7_livingSeatPast : ByteArray := prog_9_method_9_code
def yX7_livingSeatPast : MethodName := ⟨RX7, "livingSeatPast", "(II)I"⟩
abbrev cX7_goOn : ByteArray := prog_9_method_10_code
def yX7_goOn : MethodName := ⟨RX7, "goOn", "()V"⟩
def RX8 : String := "SlipWheel"
def TX8 : u_T := fun k => match k with
  | 0 => ("SlipWheel", "now", "LSlipWheel$Everything;", true)
  | 1 => ("SlipWheel", "kept", "LSlipWheel$Everything;", true)
  | 2 => ("SlipWheel", "tape", "LSlipWheel$Tape;", true)
  | 3 => ("SlipWheel", "sheets", "[LSlipWheel$Sheet;", true)
  | 4 => ("SlipWheel", "search", "LSlipWheel$Search;", true)
  | 5 => ("SlipWheel", "seatSets", "[I", true)
  | _ => ("SlipWheel", "hasImage", "Z", false)
def tyX8 : Nat → FieldType := fun k => match k with
  | 0 => .object "SlipWheel$Everything"
  | 1 => .object "SlipWheel$Everything"
  | 2 => .object "SlipWheel$Tape"
  | 3 => .array (.object "SlipWheel$Sheet")
  | 4 => .object "SlipWheel$Search"
  | 5 => .array .int
  | _ => .boolean
abbrev wsX80 : List Cond := u_ws RX8 TX8 7
theorem nmX8 : ∀ a, a < 7 → ∀ b, b < 7 → a ≠ b → (TX8 a).2.1 ≠ (TX8 b).2.1 := by decide +kernel
theorem tyX8_ok : ∀ k, k < 7 → parseFieldDescriptor (TX8 k).2.2.1 = some (tyX8 k) := by decide +kernel
abbrev cX8_init : ByteArray := prog_1_method_1_code
def yX8_init : MethodName := ⟨RX8, "<init>", "()V"⟩
abbrev cX8_follow : ByteArray := prog_1_method_2_code
def yX8_follow : MethodName := ⟨RX8, "follow", "(II)I"⟩
abbrev cX8_line : ByteArray := prog_1_method_3_code
def yX8_line : MethodName := ⟨RX8, "line", "(II)I"⟩
abbrev cX8_cell : ByteArray := prog_1_method_4_code
def yX8_cell : MethodName := ⟨RX8, "cell", "(I)I"⟩
abbrev cX8_weight : ByteArray := prog_1_method_5_code
def yX8_weight : MethodName := ⟨RX8, "weight", "(III)I"⟩
abbrev cX8_dead : ByteArray := prog_1_method_6_code
def yX8_dead : MethodName := ⟨RX8, "dead", "(IZ)I"⟩
abbrev cX8_swap : ByteArray := prog_1_method_7_code
def yX8_swap : MethodName := ⟨RX8, "swap", "(II)I"⟩
abbrev cX8_turn : ByteArray := prog_1_method_8_code
def yX8_turn : MethodName := ⟨RX8, "turn", "(Z)I"⟩
abbrev cX8_told : ByteArray := prog_1_method_9_code
def yX8_told : MethodName := ⟨RX8, "told", "(II)I"⟩
abbrev cX8_count : ByteArray := prog_1_method_13_code
def yX8_count : MethodName := ⟨RX8, "count", "(I)I"⟩
abbrev cX8_read : ByteArray := prog_1_method_14_code
def yX8_read : MethodName := ⟨RX8, "read", "(II)I"⟩
abbrev cX8_come : ByteArray := prog_1_method_15_code
def yX8_come : MethodName := ⟨RX8, "come", "(I)I"⟩
abbrev cX8_draw : ByteArray := prog_1_method_18_code
def yX8_draw : MethodName := ⟨RX8, "draw", "(I)I"⟩
abbrev cX8_seed : ByteArray := prog_1_method_19_code
def yX8_seed : MethodName := ⟨RX8, "seed", "(I)I"⟩
abbrev cX8_undo : ByteArray := prog_1_method_20_code
def yX8_undo : MethodName := ⟨RX8, "undo", "(I)I"⟩
abbrev cX8_reach : ByteArray := prog_1_method_21_code
def yX8_reach : MethodName := ⟨RX8, "reach", "(II)I"⟩
abbrev cX8_soon : ByteArray := prog_1_method_23_code
def yX8_soon : MethodName := ⟨RX8, "soon", "(II)I"⟩
abbrev cX8_habit : ByteArray := prog_1_method_25_code
def yX8_habit : MethodName := ⟨RX8, "habit", "(II)I"⟩
abbrev cX8_prevented : ByteArray := prog_1_method_27_code
def yX8_prevented : MethodName := ⟨RX8, "prevented", "(I)I"⟩
abbrev cX8_image : ByteArray := prog_1_method_29_code
def yX8_image : MethodName := ⟨RX8, "image", "()I"⟩
abbrev cX8_restore : ByteArray := prog_1_method_30_code
def yX8_restore : MethodName := ⟨RX8, "restore", "()I"⟩
abbrev cX8_isWord : ByteArray := prog_1_method_37_code
def yX8_isWord : MethodName := ⟨RX8, "isWord", "(I)Z"⟩
abbrev cX8_isRowOfWords : ByteArray := prog_1_method_38_code
def yX8_isRowOfWords : MethodName := ⟨RX8, "isRowOfWords", "(III)Z"⟩
abbrev cX8_holds : ByteArray := prog_1_method_40_code
def yX8_holds : MethodName := ⟨RX8, "holds", "(II)Z"⟩
abbrev cX8_bit : ByteArray := prog_1_method_41_code
def yX8_bit : MethodName := ⟨RX8, "bit", "(Z)I"⟩
abbrev cX8_slipWith : ByteArray := prog_1_method_43_code
def yX8_slipWith : MethodName := ⟨RX8, "slipWith", "(II)I"⟩
abbrev cX8_slipEndsWith : ByteArray := prog_1_method_44_code
def yX8_slipEndsWith : MethodName := ⟨RX8, "slipEndsWith", "(III)Z"⟩
abbrev cX8_soonWithin : ByteArray := prog_1_method_45_code
def yX8_soonWithin : MethodName := ⟨RX8, "soonWithin", "(LSlipWheel$Everything;IIII)I"⟩
def RX9 : String := "SlipWheelModel"
def TX9 : u_T := fun k => match k with
  | _ => ("", "", "", false)
def tyX9 : Nat → FieldType := fun k => match k with
  | _ => .int
abbrev wsX90 : List Cond := u_ws RX9 TX9 0
theorem nmX9 : ∀ a, a < 0 → ∀ b, b < 0 → a ≠ b → (TX9 a).2.1 ≠ (TX9 b).2.1 := by decide +kernel
theorem tyX9_ok : ∀ k, k < 0 → parseFieldDescriptor (TX9 k).2.2.1 = some (tyX9 k) := by decide +kernel
def RJ6 : String := "java/lang/Integer"
def TJ6 : u_T := fun k => match k with
  | _ => ("", "", "", false)
def tyJ6 : Nat → FieldType := fun k => match k with
  | _ => .int
abbrev wsJ60 : List Cond := u_ws RJ6 TJ6 0
theorem nmJ6 : ∀ a, a < 0 → ∀ b, b < 0 → a ≠ b → (TJ6 a).2.1 ≠ (TJ6 b).2.1 := by decide +kernel
theorem tyJ6_ok : ∀ k, k < 0 → parseFieldDescriptor (TJ6 k).2.2.1 = some (tyJ6 k) := by decide +kernel
abbrev cJ6_bitCount_0f7a4 : ByteArray := prog_12_method_49_code
def yJ6_bitCount_0f7a4 : MethodName := ⟨RJ6, "bitCount", "(I)I"⟩
def RJ9 : String := "java/lang/Math"
def TJ9 : u_T := fun k => match k with
  | _ => ("", "", "", false)
def tyJ9 : Nat → FieldType := fun k => match k with
  | _ => .int
abbrev wsJ90 : List Cond := u_ws RJ9 TJ9 0
theorem nmJ9 : ∀ a, a < 0 → ∀ b, b < 0 → a ≠ b → (TJ9 a).2.1 ≠ (TJ9 b).2.1 := by decide +kernel
theorem tyJ9_ok : ∀ k, k < 0 → parseFieldDescriptor (TJ9 k).2.2.1 = some (tyJ9 k) := by decide +kernel
abbrev cJ9_floorMod_7cf53 : ByteArray := prog_13_method_50_code
def yJ9_floorMod_7cf53 : MethodName := ⟨RJ9, "floorMod", "(II)I"⟩
abbrev cJ9_max_7cf53 : ByteArray := prog_13_method_65_code
def yJ9_max_7cf53 : MethodName := ⟨RJ9, "max", "(II)I"⟩
def RJ10 : String := "java/lang/System"
def TJ10 : u_T := fun k => match k with
  | _ => ("", "", "", false)
def tyJ10 : Nat → FieldType := fun k => match k with
  | _ => .int
abbrev wsJ100 : List Cond := u_ws RJ10 TJ10 0
theorem nmJ10 : ∀ a, a < 0 → ∀ b, b < 0 → a ≠ b → (TJ10 a).2.1 ≠ (TJ10 b).2.1 := by decide +kernel
theorem tyJ10_ok : ∀ k, k < 0 → parseFieldDescriptor (TJ10 k).2.2.1 = some (tyJ10 k) := by decide +kernel
def RL : String := "SlipWheelLaw"
abbrev cL_cell : ByteArray := method_2_code
def yL_cell : MethodName := ⟨RL, "cell", "([II)I"⟩
abbrev cL_some : ByteArray := method_3_code
def yL_some : MethodName := ⟨RL, "some", "(II)I"⟩
abbrev cL_build : ByteArray := method_14_code
def yL_build : MethodName := ⟨RL, "build", "(LSlipWheel;[II[I[I[I[I[II)Z"⟩
abbrev cL_law : ByteArray := code
def yL_law : MethodName := ⟨RL, "law", "([I)Z"⟩
abbrev zCl : List vw_C := [(RX0, TX0, 4), (RX1, TX1, 5), (RX2, TX2, 3), (RX3, TX3, 3), (RX4, TX4, 3), (RX5, TX5, 3), (RX6, TX6, 4), (RX7, TX7, 5), (RX8, TX8, 7)]
