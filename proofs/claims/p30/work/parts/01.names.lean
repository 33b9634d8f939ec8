-- ===== PART A: goes FIRST, ahead of the names: the tables' words, and 'selects' of the private methods out of them =====
/-- a private method of a class that the tables say can be made, by its rows of tables_1 -/
def lw_okq (q : MethodName × Nat) : Prop := (q.1.cls ≠ "java/lang/invoke/MethodHandle" ∧ q.1.cls ≠ "java/lang/invoke/VarHandle") ∧ Cond.instantiable q.1.cls q.2 ∈ tables_1 ∧ Cond.privateMethod q.1 ∈ tables_1 ∧ Cond.instanceMethod q.1 ∈ tables_1
theorem lw_p0 : lw_okq (⟨"TypeWorkshop", "recordState", "()V"⟩, 9) := ⟨⟨by decide +kernel, by decide +kernel⟩, List.mem_of_getElem? (i := 11) (by decide +kernel), List.mem_of_getElem? (i := 156) (by decide +kernel), List.mem_of_getElem? (i := 157) (by decide +kernel)⟩
theorem lw_p1 : lw_okq (⟨"TypeWorkshop", "dropOldestState", "()V"⟩, 9) := ⟨⟨by decide +kernel, by decide +kernel⟩, List.mem_of_getElem? (i := 11) (by decide +kernel), List.mem_of_getElem? (i := 160) (by decide +kernel), List.mem_of_getElem? (i := 161) (by decide +kernel)⟩
theorem lw_p2 : lw_okq (⟨"TypeWorkshop", "isCase", "(I)Z"⟩, 9) := ⟨⟨by decide +kernel, by decide +kernel⟩, List.mem_of_getElem? (i := 11) (by decide +kernel), List.mem_of_getElem? (i := 179) (by decide +kernel), List.mem_of_getElem? (i := 180) (by decide +kernel)⟩
theorem lw_p3 : lw_okq (⟨"TypeWorkshop", "castWanted", "(I)I"⟩, 9) := ⟨⟨by decide +kernel, by decide +kernel⟩, List.mem_of_getElem? (i := 11) (by decide +kernel), List.mem_of_getElem? (i := 186) (by decide +kernel), List.mem_of_getElem? (i := 187) (by decide +kernel)⟩
theorem lw_p4 : lw_okq (⟨"TypeWorkshop$Layout", "addLine", "(III)V"⟩, 9) := ⟨⟨by decide +kernel, by decide +kernel⟩, List.mem_of_getElem? (i := 236) (by decide +kernel), List.mem_of_getElem? (i := 245) (by decide +kernel), List.mem_of_getElem? (i := 246) (by decide +kernel)⟩
theorem lw_p5 : lw_okq (⟨"TypeWorkshop$Layout", "addGaps", "(II)V"⟩, 9) := ⟨⟨by decide +kernel, by decide +kernel⟩, List.mem_of_getElem? (i := 236) (by decide +kernel), List.mem_of_getElem? (i := 254) (by decide +kernel), List.mem_of_getElem? (i := 255) (by decide +kernel)⟩
theorem lw_p6 : lw_okq (⟨"TypeWorkshop", "findPiece", "(LTypeWorkshop$Job;II)I"⟩, 9) := ⟨⟨by decide +kernel, by decide +kernel⟩, List.mem_of_getElem? (i := 11) (by decide +kernel), List.mem_of_getElem? (i := 487) (by decide +kernel), List.mem_of_getElem? (i := 488) (by decide +kernel)⟩
theorem lw_p7 : lw_okq (⟨"TypeWorkshop", "reckon", "(LTypeWorkshop$Job;)V"⟩, 9) := ⟨⟨by decide +kernel, by decide +kernel⟩, List.mem_of_getElem? (i := 11) (by decide +kernel), List.mem_of_getElem? (i := 557) (by decide +kernel), List.mem_of_getElem? (i := 558) (by decide +kernel)⟩
theorem lw_p8 : lw_okq (⟨"TypeWorkshop", "missingOf", "(I)I"⟩, 9) := ⟨⟨by decide +kernel, by decide +kernel⟩, List.mem_of_getElem? (i := 11) (by decide +kernel), List.mem_of_getElem? (i := 566) (by decide +kernel), List.mem_of_getElem? (i := 567) (by decide +kernel)⟩
theorem lw_p9 : lw_okq (⟨"TypeWorkshop", "takeNeeded", "(I)[I"⟩, 9) := ⟨⟨by decide +kernel, by decide +kernel⟩, List.mem_of_getElem? (i := 11) (by decide +kernel), List.mem_of_getElem? (i := 575) (by decide +kernel), List.mem_of_getElem? (i := 576) (by decide +kernel)⟩
theorem lw_p10 : lw_okq (⟨"TypeWorkshop", "takePieces", "([IIII)I"⟩, 9) := ⟨⟨by decide +kernel, by decide +kernel⟩, List.mem_of_getElem? (i := 11) (by decide +kernel), List.mem_of_getElem? (i := 579) (by decide +kernel), List.mem_of_getElem? (i := 580) (by decide +kernel)⟩
theorem lw_p11 : lw_okq (⟨"TypeWorkshop", "giveBack", "(LTypeWorkshop$Job;Z)I"⟩, 9) := ⟨⟨by decide +kernel, by decide +kernel⟩, List.mem_of_getElem? (i := 11) (by decide +kernel), List.mem_of_getElem? (i := 597) (by decide +kernel), List.mem_of_getElem? (i := 598) (by decide +kernel)⟩
def lw_privs_1 : List (MethodName × Nat) := [(⟨"TypeWorkshop", "recordState", "()V"⟩, 9), (⟨"TypeWorkshop", "dropOldestState", "()V"⟩, 9), (⟨"TypeWorkshop", "isCase", "(I)Z"⟩, 9), (⟨"TypeWorkshop", "castWanted", "(I)I"⟩, 9), (⟨"TypeWorkshop$Layout", "addLine", "(III)V"⟩, 9), (⟨"TypeWorkshop$Layout", "addGaps", "(II)V"⟩, 9), (⟨"TypeWorkshop", "findPiece", "(LTypeWorkshop$Job;II)I"⟩, 9), (⟨"TypeWorkshop", "reckon", "(LTypeWorkshop$Job;)V"⟩, 9), (⟨"TypeWorkshop", "missingOf", "(I)I"⟩, 9), (⟨"TypeWorkshop", "takeNeeded", "(I)[I"⟩, 9), (⟨"TypeWorkshop", "takePieces", "([IIII)I"⟩, 9), (⟨"TypeWorkshop", "giveBack", "(LTypeWorkshop$Job;Z)I"⟩, 9)]
theorem lw_r1 : ∀ q ∈ lw_privs_1, lw_okq q := List.forall_mem_cons.mpr ⟨lw_p0, List.forall_mem_cons.mpr ⟨lw_p1, List.forall_mem_cons.mpr ⟨lw_p2, List.forall_mem_cons.mpr ⟨lw_p3, List.forall_mem_cons.mpr ⟨lw_p4, List.forall_mem_cons.mpr ⟨lw_p5, List.forall_mem_cons.mpr ⟨lw_p6, List.forall_mem_cons.mpr ⟨lw_p7, List.forall_mem_cons.mpr ⟨lw_p8, List.forall_mem_cons.mpr ⟨lw_p9, List.forall_mem_cons.mpr ⟨lw_p10, List.forall_mem_cons.mpr ⟨lw_p11, fun _ h => absurd h List.not_mem_nil⟩⟩⟩⟩⟩⟩⟩⟩⟩⟩⟩⟩
def lw_privs : List (MethodName × Nat) := lw_privs_1
def lw_tbl : List Cond := k2_sels lw_privs ++ tables_1
theorem lw_privs_ok : ∀ q ∈ lw_privs, lw_okq q := lw_r1
def RX0 : String := "TypeWorkshop$Draft"
def TX0 : u_T := fun k => match k with
  | 0 => ("TypeWorkshop$Draft", "signs", "[C", true)
  | _ => ("TypeWorkshop$Draft", "length", "I", false)
def tyX0 : Nat → FieldType := fun k => match k with
  | 0 => .array .char
  | _ => .int
theorem nmX0 : ∀ a, a < 2 → ∀ b, b < 2 → a ≠ b → (TX0 a).2.1 ≠ (TX0 b).2.1 := by decide +kernel
theorem tyX0_ok : ∀ k, k < 2 → parseFieldDescriptor (TX0 k).2.2.1 = some (tyX0 k) := by decide +kernel
abbrev cX0_init : ByteArray := prog_2_method_1_code
def yX0_init : MethodName := ⟨RX0, "<init>", "()V"⟩
abbrev cX0_append : ByteArray := prog_2_method_2_code
def yX0_append : MethodName := ⟨RX0, "append", "(C)Z"⟩
abbrev cX0_findFault : ByteArray := prog_2_method_3_code
def yX0_findFault : MethodName := ⟨RX0, "findFault", "()I"⟩
def RX1 : String := "TypeWorkshop$Job"
def TX1 : u_T := fun k => match k with
  | 0 => ("TypeWorkshop$Job", "order", "LTypeWorkshop$Order;", true)
  | 1 => ("TypeWorkshop$Job", "state", "I", true)
  | 2 => ("TypeWorkshop$Job", "printedOn", "I", true)
  | _ => ("TypeWorkshop$Job", "taken", "[I", true)
def tyX1 : Nat → FieldType := fun k => match k with
  | 0 => .object "TypeWorkshop$Order"
  | 1 => .int
  | 2 => .int
  | _ => .array .int
theorem nmX1 : ∀ a, a < 4 → ∀ b, b < 4 → a ≠ b → (TX1 a).2.1 ≠ (TX1 b).2.1 := by decide +kernel
theorem tyX1_ok : ∀ k, k < 4 → parseFieldDescriptor (TX1 k).2.2.1 = some (tyX1 k) := by decide +kernel
abbrev cX1_init : ByteArray := prog_3_method_1_code
def yX1_init : MethodName := ⟨RX1, "<init>", "(LTypeWorkshop$Order;II[I)V"⟩
abbrev cX1_isOpen : ByteArray := prog_3_method_2_code
def yX1_isOpen : MethodName := ⟨RX1, "isOpen", "()Z"⟩
abbrev cX1_hasForme : ByteArray := prog_3_method_3_code
def yX1_hasForme : MethodName := ⟨RX1, "hasForme", "()Z"⟩
abbrev cX1_daysLate : ByteArray := prog_3_method_4_code
def yX1_daysLate : MethodName := ⟨RX1, "daysLate", "()I"⟩
abbrev cX1_takenFrom : ByteArray := prog_3_method_5_code
def yX1_takenFrom : MethodName := ⟨RX1, "takenFrom", "(II)I"⟩
abbrev cX1_takenInAll : ByteArray := prog_3_method_6_code
def yX1_takenInAll : MethodName := ⟨RX1, "takenInAll", "(I)I"⟩
abbrev cX1_formePieces : ByteArray := prog_3_method_7_code
def yX1_formePieces : MethodName := ⟨RX1, "formePieces", "()I"⟩
abbrev cX1_borrowedPieces : ByteArray := prog_3_method_8_code
def yX1_borrowedPieces : MethodName := ⟨RX1, "borrowedPieces", "()I"⟩
abbrev cX1_formeMetal : ByteArray := prog_3_method_9_code
def yX1_formeMetal : MethodName := ⟨RX1, "formeMetal", "()I"⟩
def RX2 : String := "TypeWorkshop$Layout"
def TX2 : u_T := fun k => match k with
  | 0 => ("TypeWorkshop$Layout", "text", "[C", true)
  | 1 => ("TypeWorkshop$Layout", "letters", "[I", true)
  | 2 => ("TypeWorkshop$Layout", "lineEnds", "[I", true)
  | 3 => ("TypeWorkshop$Layout", "gapsUpTo", "[I", true)
  | 4 => ("TypeWorkshop$Layout", "gapWidths", "[I", true)
  | 5 => ("TypeWorkshop$Layout", "lineCount", "I", false)
  | 6 => ("TypeWorkshop$Layout", "letterCount", "I", false)
  | 7 => ("TypeWorkshop$Layout", "gapCount", "I", false)
  | _ => ("TypeWorkshop$Layout", "tooWide", "Z", false)
def tyX2 : Nat → FieldType := fun k => match k with
  | 0 => .array .char
  | 1 => .array .int
  | 2 => .array .int
  | 3 => .array .int
  | 4 => .array .int
  | 5 => .int
  | 6 => .int
  | 7 => .int
  | _ => .boolean
theorem nmX2 : ∀ a, a < 9 → ∀ b, b < 9 → a ≠ b → (TX2 a).2.1 ≠ (TX2 b).2.1 := by decide +kernel
theorem tyX2_ok : ∀ k, k < 9 → parseFieldDescriptor (TX2 k).2.2.1 = some (tyX2 k) := by decide +kernel
abbrev cX2_init : ByteArray := prog_4_method_1_code
def yX2_init : MethodName := ⟨RX2, "<init>", "(LTypeWorkshop$Draft;I)V"⟩
abbrev cX2_addLine : ByteArray := prog_4_method_2_code
def yX2_addLine : MethodName := ⟨RX2, "addLine", "(III)V"⟩
abbrev cX2_addGaps : ByteArray := prog_4_method_3_code
def yX2_addGaps : MethodName := ⟨RX2, "addGaps", "(II)V"⟩
abbrev cX2_hasLine : ByteArray := prog_4_method_4_code
def yX2_hasLine : MethodName := ⟨RX2, "hasLine", "(I)Z"⟩
abbrev cX2_lineStart : ByteArray := prog_4_method_5_code
def yX2_lineStart : MethodName := ⟨RX2, "lineStart", "(I)I"⟩
abbrev cX2_firstGap : ByteArray := prog_4_method_6_code
def yX2_firstGap : MethodName := ⟨RX2, "firstGap", "(I)I"⟩
abbrev cX2_gapWidth : ByteArray := prog_4_method_7_code
def yX2_gapWidth : MethodName := ⟨RX2, "gapWidth", "(I)I"⟩
abbrev cX2_signAt : ByteArray := prog_4_method_8_code
def yX2_signAt : MethodName := ⟨RX2, "signAt", "(I)C"⟩
def RX3 : String := "TypeWorkshop$Order"
def TX3 : u_T := fun k => match k with
  | 0 => ("TypeWorkshop$Order", "box", "I", true)
  | 1 => ("TypeWorkshop$Order", "measure", "I", true)
  | 2 => ("TypeWorkshop$Order", "due", "I", true)
  | _ => ("TypeWorkshop$Order", "layout", "LTypeWorkshop$Layout;", true)
def tyX3 : Nat → FieldType := fun k => match k with
  | 0 => .int
  | 1 => .int
  | 2 => .int
  | _ => .object "TypeWorkshop$Layout"
theorem nmX3 : ∀ a, a < 4 → ∀ b, b < 4 → a ≠ b → (TX3 a).2.1 ≠ (TX3 b).2.1 := by decide +kernel
theorem tyX3_ok : ∀ k, k < 4 → parseFieldDescriptor (TX3 k).2.2.1 = some (tyX3 k) := by decide +kernel
abbrev cX3_init : ByteArray := prog_5_method_1_code
def yX3_init : MethodName := ⟨RX3, "<init>", "(IIILTypeWorkshop$Layout;)V"⟩
def RX4 : String := "TypeWorkshop$Spacer"
def TX4 : u_T := fun k => match k with
  | 0 => ("TypeWorkshop$Spacer", "foursLeft", "I", false)
  | 1 => ("TypeWorkshop$Spacer", "twosLeft", "I", false)
  | 2 => ("TypeWorkshop$Spacer", "fours", "I", false)
  | 3 => ("TypeWorkshop$Spacer", "twos", "I", false)
  | 4 => ("TypeWorkshop$Spacer", "ones", "I", false)
  | 5 => ("TypeWorkshop$Spacer", "allFours", "I", false)
  | 6 => ("TypeWorkshop$Spacer", "allTwos", "I", false)
  | _ => ("TypeWorkshop$Spacer", "allOnes", "I", false)
def tyX4 : Nat → FieldType := fun k => match k with
  | 0 => .int
  | 1 => .int
  | 2 => .int
  | 3 => .int
  | 4 => .int
  | 5 => .int
  | 6 => .int
  | _ => .int
theorem nmX4 : ∀ a, a < 8 → ∀ b, b < 8 → a ≠ b → (TX4 a).2.1 ≠ (TX4 b).2.1 := by decide +kernel
theorem tyX4_ok : ∀ k, k < 8 → parseFieldDescriptor (TX4 k).2.2.1 = some (tyX4 k) := by decide +kernel
abbrev cX4_init : ByteArray := prog_6_method_1_code
def yX4_init : MethodName := ⟨RX4, "<init>", "()V"⟩
abbrev cX4_begin : ByteArray := prog_6_method_2_code
def yX4_begin : MethodName := ⟨RX4, "begin", "(II)V"⟩
abbrev cX4_fill : ByteArray := prog_6_method_3_code
def yX4_fill : MethodName := ⟨RX4, "fill", "(I)V"⟩
abbrev cX4_pieceCount : ByteArray := prog_6_method_4_code
def yX4_pieceCount : MethodName := ⟨RX4, "pieceCount", "()I"⟩
abbrev cX4_digitAt : ByteArray := prog_6_method_5_code
def yX4_digitAt : MethodName := ⟨RX4, "digitAt", "(I)C"⟩
def RX5 : String := "TypeWorkshop$State"
def TX5 : u_T := fun k => match k with
  | 0 => ("TypeWorkshop$State", "inCases", "[I", true)
  | 1 => ("TypeWorkshop$State", "worn", "[I", true)
  | 2 => ("TypeWorkshop$State", "jobs", "[LTypeWorkshop$Job;", true)
  | 3 => ("TypeWorkshop$State", "caseCount", "I", false)
  | 4 => ("TypeWorkshop$State", "jobCount", "I", false)
  | 5 => ("TypeWorkshop$State", "pot", "I", false)
  | 6 => ("TypeWorkshop$State", "day", "I", false)
  | 7 => ("TypeWorkshop$State", "bought", "I", false)
  | 8 => ("TypeWorkshop$State", "dross", "I", false)
  | 9 => ("TypeWorkshop$State", "castPieces", "I", false)
  | _ => ("TypeWorkshop$State", "meltedPieces", "I", false)
def tyX5 : Nat → FieldType := fun k => match k with
  | 0 => .array .int
  | 1 => .array .int
  | 2 => .array (.object "TypeWorkshop$Job")
  | 3 => .int
  | 4 => .int
  | 5 => .int
  | 6 => .int
  | 7 => .int
  | 8 => .int
  | 9 => .int
  | _ => .int
theorem nmX5 : ∀ a, a < 11 → ∀ b, b < 11 → a ≠ b → (TX5 a).2.1 ≠ (TX5 b).2.1 := by decide +kernel
theorem tyX5_ok : ∀ k, k < 11 → parseFieldDescriptor (TX5 k).2.2.1 = some (tyX5 k) := by decide +kernel
abbrev cX5_init : ByteArray := prog_7_method_1_code
def yX5_init : MethodName := ⟨RX5, "<init>", "()V"⟩
abbrev cX5_copyFrom : ByteArray := prog_7_method_2_code
def yX5_copyFrom : MethodName := ⟨RX5, "copyFrom", "(LTypeWorkshop$State;)V"⟩
abbrev cX5_findJob : ByteArray := prog_7_method_3_code
def yX5_findJob : MethodName := ⟨RX5, "findJob", "(I)LTypeWorkshop$Job;"⟩
abbrev cX5_putJob : ByteArray := prog_7_method_4_code
def yX5_putJob : MethodName := ⟨RX5, "putJob", "(ILTypeWorkshop$Job;)V"⟩
abbrev cX5_held : ByteArray := prog_7_method_5_code
def yX5_held : MethodName := ⟨RX5, "held", "(II)I"⟩
abbrev cX5_heldInAll : ByteArray := prog_7_method_6_code
def yX5_heldInAll : MethodName := ⟨RX5, "heldInAll", "(I)I"⟩
abbrev cX5_put : ByteArray := prog_7_method_7_code
def yX5_put : MethodName := ⟨RX5, "put", "(III)V"⟩
abbrev cX5_wornPieces : ByteArray := prog_7_method_8_code
def yX5_wornPieces : MethodName := ⟨RX5, "wornPieces", "()I"⟩
abbrev cX5_wornMetal : ByteArray := prog_7_method_9_code
def yX5_wornMetal : MethodName := ⟨RX5, "wornMetal", "()I"⟩
abbrev cX5_emptyWornBox : ByteArray := prog_7_method_10_code
def yX5_emptyWornBox : MethodName := ⟨RX5, "emptyWornBox", "()V"⟩
abbrev cX5_metalInCases : ByteArray := prog_7_method_11_code
def yX5_metalInCases : MethodName := ⟨RX5, "metalInCases", "()I"⟩
abbrev cX5_metalInFormes : ByteArray := prog_7_method_12_code
def yX5_metalInFormes : MethodName := ⟨RX5, "metalInFormes", "()I"⟩
abbrev cX5_allDaysLate : ByteArray := prog_7_method_13_code
def yX5_allDaysLate : MethodName := ⟨RX5, "allDaysLate", "()I"⟩
abbrev cX5_overdueJobs : ByteArray := prog_7_method_14_code
def yX5_overdueJobs : MethodName := ⟨RX5, "overdueJobs", "()I"⟩
def RX6 : String := "TypeWorkshop"
def TX6 : u_T := fun k => match k with
  | 0 => ("TypeWorkshop", "draft", "LTypeWorkshop$Draft;", true)
  | 1 => ("TypeWorkshop", "now", "LTypeWorkshop$State;", true)
  | 2 => ("TypeWorkshop", "history", "[LTypeWorkshop$State;", true)
  | 3 => ("TypeWorkshop", "historyLength", "I", false)
  | 4 => ("TypeWorkshop", "snapshot", "LTypeWorkshop$State;", false)
  | 5 => ("TypeWorkshop", "spacer", "LTypeWorkshop$Spacer;", true)
  | 6 => ("TypeWorkshop", "needed", "[I", true)
  | 7 => ("TypeWorkshop", "available", "[I", true)
  | _ => ("TypeWorkshop", "wanted", "[I", true)
def tyX6 : Nat → FieldType := fun k => match k with
  | 0 => .object "TypeWorkshop$Draft"
  | 1 => .object "TypeWorkshop$State"
  | 2 => .array (.object "TypeWorkshop$State")
  | 3 => .int
  | 4 => .object "TypeWorkshop$State"
  | 5 => .object "TypeWorkshop$Spacer"
  | 6 => .array .int
  | 7 => .array .int
  | _ => .array .int
theorem nmX6 : ∀ a, a < 9 → ∀ b, b < 9 → a ≠ b → (TX6 a).2.1 ≠ (TX6 b).2.1 := by decide +kernel
theorem tyX6_ok : ∀ k, k < 9 → parseFieldDescriptor (TX6 k).2.2.1 = some (tyX6 k) := by decide +kernel
abbrev cX6_init : ByteArray := prog_1_method_1_code
def yX6_init : MethodName := ⟨RX6, "<init>", "()V"⟩
abbrev cX6_buy : ByteArray := prog_1_method_2_code
def yX6_buy : MethodName := ⟨RX6, "buy", "(I)I"⟩
abbrev cX6_addCase : ByteArray := prog_1_method_3_code
def yX6_addCase : MethodName := ⟨RX6, "addCase", "()I"⟩
abbrev cX6_cast : ByteArray := prog_1_method_4_code
def yX6_cast : MethodName := ⟨RX6, "cast", "(III)I"⟩
abbrev cX6_castFount : ByteArray := prog_1_method_5_code
def yX6_castFount : MethodName := ⟨RX6, "castFount", "(II)I"⟩
abbrev cX6_melt : ByteArray := prog_1_method_6_code
def yX6_melt : MethodName := ⟨RX6, "melt", "(III)I"⟩
abbrev cX6_meltBox : ByteArray := prog_1_method_7_code
def yX6_meltBox : MethodName := ⟨RX6, "meltBox", "()I"⟩
abbrev cX6_type : ByteArray := prog_1_method_8_code
def yX6_type : MethodName := ⟨RX6, "type", "(C)I"⟩
abbrev cX6_clearText : ByteArray := prog_1_method_9_code
def yX6_clearText : MethodName := ⟨RX6, "clearText", "()I"⟩
abbrev cX6_order : ByteArray := prog_1_method_10_code
def yX6_order : MethodName := ⟨RX6, "order", "(III)I"⟩
abbrev cX6_set : ByteArray := prog_1_method_11_code
def yX6_set : MethodName := ⟨RX6, "set", "(I)I"⟩
abbrev cX6_castMissing : ByteArray := prog_1_method_12_code
def yX6_castMissing : MethodName := ⟨RX6, "castMissing", "(I)I"⟩
abbrev cX6_print : ByteArray := prog_1_method_13_code
def yX6_print : MethodName := ⟨RX6, "print", "(I)I"⟩
abbrev cX6_distribute : ByteArray := prog_1_method_14_code
def yX6_distribute : MethodName := ⟨RX6, "distribute", "(I)I"⟩
abbrev cX6_cancel : ByteArray := prog_1_method_15_code
def yX6_cancel : MethodName := ⟨RX6, "cancel", "(I)I"⟩
abbrev cX6_pass : ByteArray := prog_1_method_16_code
def yX6_pass : MethodName := ⟨RX6, "pass", "(I)I"⟩
abbrev cX6_undo : ByteArray := prog_1_method_17_code
def yX6_undo : MethodName := ⟨RX6, "undo", "()I"⟩
abbrev cX6_restore : ByteArray := prog_1_method_19_code
def yX6_restore : MethodName := ⟨RX6, "restore", "()I"⟩
abbrev cX6_pieces : ByteArray := prog_1_method_20_code
def yX6_pieces : MethodName := ⟨RX6, "pieces", "(II)I"⟩
abbrev cX6_job : ByteArray := prog_1_method_21_code
def yX6_job : MethodName := ⟨RX6, "job", "(II)I"⟩
abbrev cX6_need : ByteArray := prog_1_method_22_code
def yX6_need : MethodName := ⟨RX6, "need", "(II)I"⟩
abbrev cX6_missing : ByteArray := prog_1_method_23_code
def yX6_missing : MethodName := ⟨RX6, "missing", "(II)I"⟩
abbrev cX6_taken : ByteArray := prog_1_method_24_code
def yX6_taken : MethodName := ⟨RX6, "taken", "(III)I"⟩
abbrev cX6_gap : ByteArray := prog_1_method_25_code
def yX6_gap : MethodName := ⟨RX6, "gap", "(III)I"⟩
abbrev cX6_pieceAt : ByteArray := prog_1_method_26_code
def yX6_pieceAt : MethodName := ⟨RX6, "pieceAt", "(III)I"⟩
abbrev cX6_urgent : ByteArray := prog_1_method_27_code
def yX6_urgent : MethodName := ⟨RX6, "urgent", "()I"⟩
abbrev cX6_count : ByteArray := prog_1_method_28_code
def yX6_count : MethodName := ⟨RX6, "count", "(I)I"⟩
abbrev cX6_isCase : ByteArray := prog_1_method_29_code
def yX6_isCase : MethodName := ⟨RX6, "isCase", "(I)Z"⟩
abbrev cX6_isSort : ByteArray := prog_1_method_30_code
def yX6_isSort : MethodName := ⟨RX6, "isSort", "(I)Z"⟩
abbrev cX6_isLetter : ByteArray := prog_1_method_31_code
def yX6_isLetter : MethodName := ⟨RX6, "isLetter", "(C)Z"⟩
abbrev cX6_widthOf : ByteArray := prog_1_method_32_code
def yX6_widthOf : MethodName := ⟨RX6, "widthOf", "(I)I"⟩
abbrev cX6_recordState : ByteArray := prog_1_method_33_code
def yX6_recordState : MethodName := ⟨RX6, "recordState", "()V"⟩
abbrev cX6_dropOldestState : ByteArray := prog_1_method_34_code
def yX6_dropOldestState : MethodName := ⟨RX6, "dropOldestState", "()V"⟩
abbrev cX6_castWanted : ByteArray := prog_1_method_35_code
def yX6_castWanted : MethodName := ⟨RX6, "castWanted", "(I)I"⟩
abbrev cX6_reckon : ByteArray := prog_1_method_36_code
def yX6_reckon : MethodName := ⟨RX6, "reckon", "(LTypeWorkshop$Job;)V"⟩
abbrev cX6_missingOf : ByteArray := prog_1_method_37_code
def yX6_missingOf : MethodName := ⟨RX6, "missingOf", "(I)I"⟩
abbrev cX6_takeNeeded : ByteArray := prog_1_method_38_code
def yX6_takeNeeded : MethodName := ⟨RX6, "takeNeeded", "(I)[I"⟩
abbrev cX6_takePieces : ByteArray := prog_1_method_39_code
def yX6_takePieces : MethodName := ⟨RX6, "takePieces", "([IIII)I"⟩
abbrev cX6_slotOf : ByteArray := prog_1_method_40_code
def yX6_slotOf : MethodName := ⟨RX6, "slotOf", "(II)I"⟩
abbrev cX6_giveBack : ByteArray := prog_1_method_41_code
def yX6_giveBack : MethodName := ⟨RX6, "giveBack", "(LTypeWorkshop$Job;Z)I"⟩
abbrev cX6_findPiece : ByteArray := prog_1_method_42_code
def yX6_findPiece : MethodName := ⟨RX6, "findPiece", "(LTypeWorkshop$Job;II)I"⟩
def RX7 : String := "TypeWorkshopModel"
def TX7 : u_T := fun k => match k with
  | _ => ("", "", "", false)
def tyX7 : Nat → FieldType := fun k => match k with
  | _ => .int
theorem nmX7 : ∀ a, a < 0 → ∀ b, b < 0 → a ≠ b → (TX7 a).2.1 ≠ (TX7 b).2.1 := by decide +kernel
theorem tyX7_ok : ∀ k, k < 0 → parseFieldDescriptor (TX7 k).2.2.1 = some (tyX7 k) := by decide +kernel
def RJ9 : String := "java/lang/Math"
def TJ9 : u_T := fun k => match k with
  | _ => ("", "", "", false)
def tyJ9 : Nat → FieldType := fun k => match k with
  | _ => .int
theorem nmJ9 : ∀ a, a < 0 → ∀ b, b < 0 → a ≠ b → (TJ9 a).2.1 ≠ (TJ9 b).2.1 := by decide +kernel
theorem tyJ9_ok : ∀ k, k < 0 → parseFieldDescriptor (TJ9 k).2.2.1 = some (tyJ9 k) := by decide +kernel
abbrev cJ9_max_7cf53 : ByteArray := prog_10_method_65_code
def yJ9_max_7cf53 : MethodName := ⟨RJ9, "max", "(II)I"⟩
abbrev cJ9_min_7cf53 : ByteArray := prog_10_method_69_code
def yJ9_min_7cf53 : MethodName := ⟨RJ9, "min", "(II)I"⟩
def RJ10 : String := "java/lang/System"
def TJ10 : u_T := fun k => match k with
  | _ => ("", "", "", false)
def tyJ10 : Nat → FieldType := fun k => match k with
  | _ => .int
theorem nmJ10 : ∀ a, a < 0 → ∀ b, b < 0 → a ≠ b → (TJ10 a).2.1 ≠ (TJ10 b).2.1 := by decide +kernel
theorem tyJ10_ok : ∀ k, k < 0 → parseFieldDescriptor (TJ10 k).2.2.1 = some (tyJ10 k) := by decide +kernel
def RL : String := "TypeWorkshopLaw"
abbrev cL_cell : ByteArray := method_2_code
def yL_cell : MethodName := ⟨RL, "cell", "([II)I"⟩
abbrev cL_low : ByteArray := method_3_code
def yL_low : MethodName := ⟨RL, "low", "(II)I"⟩
abbrev cL_width : ByteArray := method_4_code
def yL_width : MethodName := ⟨RL, "width", "(I)I"⟩
abbrev cL_digest : ByteArray := method_5_code
def yL_digest : MethodName := ⟨RL, "digest", "(LTypeWorkshop;)J"⟩
abbrev cL_kept : ByteArray := method_6_code
def yL_kept : MethodName := ⟨RL, "kept", "(LTypeWorkshop;)Z"⟩
abbrev cL_wide : ByteArray := method_7_code
def yL_wide : MethodName := ⟨RL, "wide", "(I)I"⟩
abbrev cL_sound : ByteArray := method_8_code
def yL_sound : MethodName := ⟨RL, "sound", "(LTypeWorkshop;I)Z"⟩
abbrev cL_accounts : ByteArray := method_9_code
def yL_accounts : MethodName := ⟨RL, "accounts", "(LTypeWorkshop;)Z"⟩
abbrev cL_types : ByteArray := method_10_code
def yL_types : MethodName := ⟨RL, "types", "(LTypeWorkshop;II)V"⟩
abbrev cL_cases : ByteArray := method_11_code
def yL_cases : MethodName := ⟨RL, "cases", "(LTypeWorkshop;III)Z"⟩
abbrev cL_sets : ByteArray := method_12_code
def yL_sets : MethodName := ⟨RL, "sets", "(LTypeWorkshop;I)Z"⟩
abbrev cL_jobs : ByteArray := method_13_code
def yL_jobs : MethodName := ⟨RL, "jobs", "(LTypeWorkshop;III)Z"⟩
abbrev cL_law : ByteArray := code
def yL_law : MethodName := ⟨RL, "law", "([I)Z"⟩
