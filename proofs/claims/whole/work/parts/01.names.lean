-- ===== PART A: goes FIRST, ahead of the names: the tables' words, and 'selects' of the private methods out of them =====
/-- a private method of a class that the tables say can be made, by its rows of tables_1 -/
def lw_okq (q : MethodName × Nat) : Prop := (q.1.cls ≠ "java/lang/invoke/MethodHandle" ∧ q.1.cls ≠ "java/lang/invoke/VarHandle") ∧ Cond.instantiable q.1.cls q.2 ∈ tables_1 ∧ Cond.privateMethod q.1 ∈ tables_1 ∧ Cond.instanceMethod q.1 ∈ tables_1
theorem lw_p0 : lw_okq (⟨"TypeWorkshop", "recordState", "()V"⟩, 9) := ⟨⟨by decide +kernel, by decide +kernel⟩, List.mem_of_getElem? (i := 12) (by decide +kernel), List.mem_of_getElem? (i := 157) (by decide +kernel), List.mem_of_getElem? (i := 158) (by decide +kernel)⟩
theorem lw_p1 : lw_okq (⟨"TypeWorkshop", "dropOldestState", "()V"⟩, 9) := ⟨⟨by decide +kernel, by decide +kernel⟩, List.mem_of_getElem? (i := 12) (by decide +kernel), List.mem_of_getElem? (i := 161) (by decide +kernel), List.mem_of_getElem? (i := 162) (by decide +kernel)⟩
theorem lw_p2 : lw_okq (⟨"TypeWorkshop", "isCase", "(I)Z"⟩, 9) := ⟨⟨by decide +kernel, by decide +kernel⟩, List.mem_of_getElem? (i := 12) (by decide +kernel), List.mem_of_getElem? (i := 180) (by decide +kernel), List.mem_of_getElem? (i := 181) (by decide +kernel)⟩
theorem lw_p3 : lw_okq (⟨"TypeWorkshop", "castWanted", "(I)I"⟩, 9) := ⟨⟨by decide +kernel, by decide +kernel⟩, List.mem_of_getElem? (i := 12) (by decide +kernel), List.mem_of_getElem? (i := 187) (by decide +kernel), List.mem_of_getElem? (i := 188) (by decide +kernel)⟩
theorem lw_p4 : lw_okq (⟨"TypeWorkshop$Layout", "addLine", "(III)V"⟩, 9) := ⟨⟨by decide +kernel, by decide +kernel⟩, List.mem_of_getElem? (i := 253) (by decide +kernel), List.mem_of_getElem? (i := 262) (by decide +kernel), List.mem_of_getElem? (i := 263) (by decide +kernel)⟩
theorem lw_p5 : lw_okq (⟨"TypeWorkshop$Layout", "addGaps", "(II)V"⟩, 9) := ⟨⟨by decide +kernel, by decide +kernel⟩, List.mem_of_getElem? (i := 253) (by decide +kernel), List.mem_of_getElem? (i := 271) (by decide +kernel), List.mem_of_getElem? (i := 272) (by decide +kernel)⟩
theorem lw_p6 : lw_okq (⟨"TypeWorkshop", "reckon", "(LTypeWorkshop$Job;)V"⟩, 9) := ⟨⟨by decide +kernel, by decide +kernel⟩, List.mem_of_getElem? (i := 12) (by decide +kernel), List.mem_of_getElem? (i := 373) (by decide +kernel), List.mem_of_getElem? (i := 374) (by decide +kernel)⟩
theorem lw_p7 : lw_okq (⟨"TypeWorkshop", "missingOf", "(I)I"⟩, 9) := ⟨⟨by decide +kernel, by decide +kernel⟩, List.mem_of_getElem? (i := 12) (by decide +kernel), List.mem_of_getElem? (i := 404) (by decide +kernel), List.mem_of_getElem? (i := 405) (by decide +kernel)⟩
theorem lw_p8 : lw_okq (⟨"TypeWorkshop", "takeNeeded", "(I)[I"⟩, 9) := ⟨⟨by decide +kernel, by decide +kernel⟩, List.mem_of_getElem? (i := 12) (by decide +kernel), List.mem_of_getElem? (i := 409) (by decide +kernel), List.mem_of_getElem? (i := 410) (by decide +kernel)⟩
theorem lw_p9 : lw_okq (⟨"TypeWorkshop", "takePieces", "([IIII)I"⟩, 9) := ⟨⟨by decide +kernel, by decide +kernel⟩, List.mem_of_getElem? (i := 12) (by decide +kernel), List.mem_of_getElem? (i := 413) (by decide +kernel), List.mem_of_getElem? (i := 414) (by decide +kernel)⟩
theorem lw_p10 : lw_okq (⟨"TypeWorkshop", "giveBack", "(LTypeWorkshop$Job;Z)I"⟩, 9) := ⟨⟨by decide +kernel, by decide +kernel⟩, List.mem_of_getElem? (i := 12) (by decide +kernel), List.mem_of_getElem? (i := 444) (by decide +kernel), List.mem_of_getElem? (i := 445) (by decide +kernel)⟩
theorem lw_p11 : lw_okq (⟨"TypeWorkshop", "findPiece", "(LTypeWorkshop$Job;II)I"⟩, 9) := ⟨⟨by decide +kernel, by decide +kernel⟩, List.mem_of_getElem? (i := 12) (by decide +kernel), List.mem_of_getElem? (i := 514) (by decide +kernel), List.mem_of_getElem? (i := 515) (by decide +kernel)⟩
theorem lw_p12 : lw_okq (⟨"TypeWorkshopModel", "record", "()V"⟩, 22) := ⟨⟨by decide +kernel, by decide +kernel⟩, List.mem_of_getElem? (i := 569) (by decide +kernel), List.mem_of_getElem? (i := 650) (by decide +kernel), List.mem_of_getElem? (i := 651) (by decide +kernel)⟩
theorem lw_p13 : lw_okq (⟨"TypeWorkshopModel", "noCase", "(I)Z"⟩, 22) := ⟨⟨by decide +kernel, by decide +kernel⟩, List.mem_of_getElem? (i := 569) (by decide +kernel), List.mem_of_getElem? (i := 662) (by decide +kernel), List.mem_of_getElem? (i := 663) (by decide +kernel)⟩
theorem lw_p14 : lw_okq (⟨"TypeWorkshopModel", "has", "(II)I"⟩, 22) := ⟨⟨by decide +kernel, by decide +kernel⟩, List.mem_of_getElem? (i := 569) (by decide +kernel), List.mem_of_getElem? (i := 669) (by decide +kernel), List.mem_of_getElem? (i := 670) (by decide +kernel)⟩
theorem lw_p15 : lw_okq (⟨"TypeWorkshopModel", "casts", "(III)V"⟩, 22) := ⟨⟨by decide +kernel, by decide +kernel⟩, List.mem_of_getElem? (i := 569) (by decide +kernel), List.mem_of_getElem? (i := 676) (by decide +kernel), List.mem_of_getElem? (i := 677) (by decide +kernel)⟩
def lw_privs_1 : List (MethodName × Nat) := [(⟨"TypeWorkshop", "recordState", "()V"⟩, 9), (⟨"TypeWorkshop", "dropOldestState", "()V"⟩, 9), (⟨"TypeWorkshop", "isCase", "(I)Z"⟩, 9), (⟨"TypeWorkshop", "castWanted", "(I)I"⟩, 9), (⟨"TypeWorkshop$Layout", "addLine", "(III)V"⟩, 9), (⟨"TypeWorkshop$Layout", "addGaps", "(II)V"⟩, 9), (⟨"TypeWorkshop", "reckon", "(LTypeWorkshop$Job;)V"⟩, 9), (⟨"TypeWorkshop", "missingOf", "(I)I"⟩, 9), (⟨"TypeWorkshop", "takeNeeded", "(I)[I"⟩, 9), (⟨"TypeWorkshop", "takePieces", "([IIII)I"⟩, 9), (⟨"TypeWorkshop", "giveBack", "(LTypeWorkshop$Job;Z)I"⟩, 9), (⟨"TypeWorkshop", "findPiece", "(LTypeWorkshop$Job;II)I"⟩, 9), (⟨"TypeWorkshopModel", "record", "()V"⟩, 22), (⟨"TypeWorkshopModel", "noCase", "(I)Z"⟩, 22), (⟨"TypeWorkshopModel", "has", "(II)I"⟩, 22), (⟨"TypeWorkshopModel", "casts", "(III)V"⟩, 22)]
theorem lw_r1 : ∀ q ∈ lw_privs_1, lw_okq q := List.forall_mem_cons.mpr ⟨lw_p0, List.forall_mem_cons.mpr ⟨lw_p1, List.forall_mem_cons.mpr ⟨lw_p2, List.forall_mem_cons.mpr ⟨lw_p3, List.forall_mem_cons.mpr ⟨lw_p4, List.forall_mem_cons.mpr ⟨lw_p5, List.forall_mem_cons.mpr ⟨lw_p6, List.forall_mem_cons.mpr ⟨lw_p7, List.forall_mem_cons.mpr ⟨lw_p8, List.forall_mem_cons.mpr ⟨lw_p9, List.forall_mem_cons.mpr ⟨lw_p10, List.forall_mem_cons.mpr ⟨lw_p11, List.forall_mem_cons.mpr ⟨lw_p12, List.forall_mem_cons.mpr ⟨lw_p13, List.forall_mem_cons.mpr ⟨lw_p14, List.forall_mem_cons.mpr ⟨lw_p15, fun _ h => absurd h List.not_mem_nil⟩⟩⟩⟩⟩⟩⟩⟩⟩⟩⟩⟩⟩⟩⟩⟩
theorem lw_p16 : lw_okq (⟨"TypeWorkshopModel", "inBox", "()I"⟩, 22) := ⟨⟨by decide +kernel, by decide +kernel⟩, List.mem_of_getElem? (i := 569) (by decide +kernel), List.mem_of_getElem? (i := 692) (by decide +kernel), List.mem_of_getElem? (i := 693) (by decide +kernel)⟩
theorem lw_p17 : lw_okq (⟨"TypeWorkshopModel", "boxMetal", "()I"⟩, 22) := ⟨⟨by decide +kernel, by decide +kernel⟩, List.mem_of_getElem? (i := 569) (by decide +kernel), List.mem_of_getElem? (i := 696) (by decide +kernel), List.mem_of_getElem? (i := 697) (by decide +kernel)⟩
theorem lw_p18 : lw_okq (⟨"TypeWorkshopModel", "faultOf", "()I"⟩, 22) := ⟨⟨by decide +kernel, by decide +kernel⟩, List.mem_of_getElem? (i := 569) (by decide +kernel), List.mem_of_getElem? (i := 712) (by decide +kernel), List.mem_of_getElem? (i := 713) (by decide +kernel)⟩
theorem lw_p19 : lw_okq (⟨"TypeWorkshopModel", "layLines", "(I)V"⟩, 22) := ⟨⟨by decide +kernel, by decide +kernel⟩, List.mem_of_getElem? (i := 569) (by decide +kernel), List.mem_of_getElem? (i := 719) (by decide +kernel), List.mem_of_getElem? (i := 720) (by decide +kernel)⟩
theorem lw_p20 : lw_okq (⟨"TypeWorkshopModel", "layLine", "(III)V"⟩, 22) := ⟨⟨by decide +kernel, by decide +kernel⟩, List.mem_of_getElem? (i := 569) (by decide +kernel), List.mem_of_getElem? (i := 723) (by decide +kernel), List.mem_of_getElem? (i := 724) (by decide +kernel)⟩
theorem lw_p21 : lw_okq (⟨"TypeWorkshopModel", "put", "(III)V"⟩, 22) := ⟨⟨by decide +kernel, by decide +kernel⟩, List.mem_of_getElem? (i := 569) (by decide +kernel), List.mem_of_getElem? (i := 727) (by decide +kernel), List.mem_of_getElem? (i := 728) (by decide +kernel)⟩
theorem lw_p22 : lw_okq (⟨"TypeWorkshopModel", "noJob", "(I)Z"⟩, 22) := ⟨⟨by decide +kernel, by decide +kernel⟩, List.mem_of_getElem? (i := 569) (by decide +kernel), List.mem_of_getElem? (i := 735) (by decide +kernel), List.mem_of_getElem? (i := 736) (by decide +kernel)⟩
theorem lw_p23 : lw_okq (⟨"TypeWorkshopModel", "ofJob", "(II)I"⟩, 22) := ⟨⟨by decide +kernel, by decide +kernel⟩, List.mem_of_getElem? (i := 569) (by decide +kernel), List.mem_of_getElem? (i := 739) (by decide +kernel), List.mem_of_getElem? (i := 740) (by decide +kernel)⟩
theorem lw_p24 : lw_okq (⟨"TypeWorkshopModel", "layNeeds", "(I)V"⟩, 22) := ⟨⟨by decide +kernel, by decide +kernel⟩, List.mem_of_getElem? (i := 569) (by decide +kernel), List.mem_of_getElem? (i := 743) (by decide +kernel), List.mem_of_getElem? (i := 744) (by decide +kernel)⟩
theorem lw_p25 : lw_okq (⟨"TypeWorkshopModel", "layJob", "(I)V"⟩, 22) := ⟨⟨by decide +kernel, by decide +kernel⟩, List.mem_of_getElem? (i := 569) (by decide +kernel), List.mem_of_getElem? (i := 747) (by decide +kernel), List.mem_of_getElem? (i := 748) (by decide +kernel)⟩
theorem lw_p26 : lw_okq (⟨"TypeWorkshopModel", "hasForme", "(I)Z"⟩, 22) := ⟨⟨by decide +kernel, by decide +kernel⟩, List.mem_of_getElem? (i := 569) (by decide +kernel), List.mem_of_getElem? (i := 751) (by decide +kernel), List.mem_of_getElem? (i := 752) (by decide +kernel)⟩
theorem lw_p27 : lw_okq (⟨"TypeWorkshopModel", "inForme", "(III)I"⟩, 22) := ⟨⟨by decide +kernel, by decide +kernel⟩, List.mem_of_getElem? (i := 569) (by decide +kernel), List.mem_of_getElem? (i := 755) (by decide +kernel), List.mem_of_getElem? (i := 756) (by decide +kernel)⟩
theorem lw_p28 : lw_okq (⟨"TypeWorkshopModel", "allLacks", "()I"⟩, 22) := ⟨⟨by decide +kernel, by decide +kernel⟩, List.mem_of_getElem? (i := 569) (by decide +kernel), List.mem_of_getElem? (i := 762) (by decide +kernel), List.mem_of_getElem? (i := 763) (by decide +kernel)⟩
theorem lw_p29 : lw_okq (⟨"TypeWorkshopModel", "lacks", "(I)I"⟩, 22) := ⟨⟨by decide +kernel, by decide +kernel⟩, List.mem_of_getElem? (i := 569) (by decide +kernel), List.mem_of_getElem? (i := 766) (by decide +kernel), List.mem_of_getElem? (i := 767) (by decide +kernel)⟩
theorem lw_p30 : lw_okq (⟨"TypeWorkshopModel", "takes", "(II)I"⟩, 22) := ⟨⟨by decide +kernel, by decide +kernel⟩, List.mem_of_getElem? (i := 569) (by decide +kernel), List.mem_of_getElem? (i := 770) (by decide +kernel), List.mem_of_getElem? (i := 771) (by decide +kernel)⟩
theorem lw_p31 : lw_okq (⟨"TypeWorkshopModel", "goBack", "(II)I"⟩, 22) := ⟨⟨by decide +kernel, by decide +kernel⟩, List.mem_of_getElem? (i := 569) (by decide +kernel), List.mem_of_getElem? (i := 787) (by decide +kernel), List.mem_of_getElem? (i := 788) (by decide +kernel)⟩
def lw_privs_2 : List (MethodName × Nat) := [(⟨"TypeWorkshopModel", "inBox", "()I"⟩, 22), (⟨"TypeWorkshopModel", "boxMetal", "()I"⟩, 22), (⟨"TypeWorkshopModel", "faultOf", "()I"⟩, 22), (⟨"TypeWorkshopModel", "layLines", "(I)V"⟩, 22), (⟨"TypeWorkshopModel", "layLine", "(III)V"⟩, 22), (⟨"TypeWorkshopModel", "put", "(III)V"⟩, 22), (⟨"TypeWorkshopModel", "noJob", "(I)Z"⟩, 22), (⟨"TypeWorkshopModel", "ofJob", "(II)I"⟩, 22), (⟨"TypeWorkshopModel", "layNeeds", "(I)V"⟩, 22), (⟨"TypeWorkshopModel", "layJob", "(I)V"⟩, 22), (⟨"TypeWorkshopModel", "hasForme", "(I)Z"⟩, 22), (⟨"TypeWorkshopModel", "inForme", "(III)I"⟩, 22), (⟨"TypeWorkshopModel", "allLacks", "()I"⟩, 22), (⟨"TypeWorkshopModel", "lacks", "(I)I"⟩, 22), (⟨"TypeWorkshopModel", "takes", "(II)I"⟩, 22), (⟨"TypeWorkshopModel", "goBack", "(II)I"⟩, 22)]
theorem lw_r2 : ∀ q ∈ lw_privs_2, lw_okq q := List.forall_mem_cons.mpr ⟨lw_p16, List.forall_mem_cons.mpr ⟨lw_p17, List.forall_mem_cons.mpr ⟨lw_p18, List.forall_mem_cons.mpr ⟨lw_p19, List.forall_mem_cons.mpr ⟨lw_p20, List.forall_mem_cons.mpr ⟨lw_p21, List.forall_mem_cons.mpr ⟨lw_p22, List.forall_mem_cons.mpr ⟨lw_p23, List.forall_mem_cons.mpr ⟨lw_p24, List.forall_mem_cons.mpr ⟨lw_p25, List.forall_mem_cons.mpr ⟨lw_p26, List.forall_mem_cons.mpr ⟨lw_p27, List.forall_mem_cons.mpr ⟨lw_p28, List.forall_mem_cons.mpr ⟨lw_p29, List.forall_mem_cons.mpr ⟨lw_p30, List.forall_mem_cons.mpr ⟨lw_p31, fun _ h => absurd h List.not_mem_nil⟩⟩⟩⟩⟩⟩⟩⟩⟩⟩⟩⟩⟩⟩⟩⟩
theorem lw_p32 : lw_okq (⟨"TypeWorkshopModel", "inFormeOf", "(IZ)I"⟩, 22) := ⟨⟨by decide +kernel, by decide +kernel⟩, List.mem_of_getElem? (i := 569) (by decide +kernel), List.mem_of_getElem? (i := 795) (by decide +kernel), List.mem_of_getElem? (i := 796) (by decide +kernel)⟩
theorem lw_p33 : lw_okq (⟨"TypeWorkshopModel", "spaceAt", "(II)I"⟩, 22) := ⟨⟨by decide +kernel, by decide +kernel⟩, List.mem_of_getElem? (i := 569) (by decide +kernel), List.mem_of_getElem? (i := 846) (by decide +kernel), List.mem_of_getElem? (i := 847) (by decide +kernel)⟩
theorem lw_p34 : lw_okq (⟨"TypeWorkshopModel", "isToDo", "(I)Z"⟩, 22) := ⟨⟨by decide +kernel, by decide +kernel⟩, List.mem_of_getElem? (i := 569) (by decide +kernel), List.mem_of_getElem? (i := 854) (by decide +kernel), List.mem_of_getElem? (i := 855) (by decide +kernel)⟩
theorem lw_p35 : lw_okq (⟨"TypeWorkshopModel", "caseMetal", "()I"⟩, 22) := ⟨⟨by decide +kernel, by decide +kernel⟩, List.mem_of_getElem? (i := 569) (by decide +kernel), List.mem_of_getElem? (i := 862) (by decide +kernel), List.mem_of_getElem? (i := 863) (by decide +kernel)⟩
theorem lw_p36 : lw_okq (⟨"TypeWorkshopModel", "formeMetal", "()I"⟩, 22) := ⟨⟨by decide +kernel, by decide +kernel⟩, List.mem_of_getElem? (i := 569) (by decide +kernel), List.mem_of_getElem? (i := 866) (by decide +kernel), List.mem_of_getElem? (i := 867) (by decide +kernel)⟩
theorem lw_p37 : lw_okq (⟨"TypeWorkshopModel", "lateDays", "()I"⟩, 22) := ⟨⟨by decide +kernel, by decide +kernel⟩, List.mem_of_getElem? (i := 569) (by decide +kernel), List.mem_of_getElem? (i := 870) (by decide +kernel), List.mem_of_getElem? (i := 871) (by decide +kernel)⟩
theorem lw_p38 : lw_okq (⟨"TypeWorkshopModel", "pastDue", "()I"⟩, 22) := ⟨⟨by decide +kernel, by decide +kernel⟩, List.mem_of_getElem? (i := 569) (by decide +kernel), List.mem_of_getElem? (i := 874) (by decide +kernel), List.mem_of_getElem? (i := 875) (by decide +kernel)⟩
def lw_privs_3 : List (MethodName × Nat) := [(⟨"TypeWorkshopModel", "inFormeOf", "(IZ)I"⟩, 22), (⟨"TypeWorkshopModel", "spaceAt", "(II)I"⟩, 22), (⟨"TypeWorkshopModel", "isToDo", "(I)Z"⟩, 22), (⟨"TypeWorkshopModel", "caseMetal", "()I"⟩, 22), (⟨"TypeWorkshopModel", "formeMetal", "()I"⟩, 22), (⟨"TypeWorkshopModel", "lateDays", "()I"⟩, 22), (⟨"TypeWorkshopModel", "pastDue", "()I"⟩, 22)]
theorem lw_r3 : ∀ q ∈ lw_privs_3, lw_okq q := List.forall_mem_cons.mpr ⟨lw_p32, List.forall_mem_cons.mpr ⟨lw_p33, List.forall_mem_cons.mpr ⟨lw_p34, List.forall_mem_cons.mpr ⟨lw_p35, List.forall_mem_cons.mpr ⟨lw_p36, List.forall_mem_cons.mpr ⟨lw_p37, List.forall_mem_cons.mpr ⟨lw_p38, fun _ h => absurd h List.not_mem_nil⟩⟩⟩⟩⟩⟩⟩
def lw_privs : List (MethodName × Nat) := lw_privs_1 ++ (lw_privs_2 ++ (lw_privs_3))
def lw_tbl : List Cond := k2_sels lw_privs ++ tables_1
theorem lw_privs_ok : ∀ q ∈ lw_privs, lw_okq q := by
  show ∀ q ∈ lw_privs_1 ++ (lw_privs_2 ++ (lw_privs_3)), lw_okq q
  exact List.forall_mem_append.mpr ⟨lw_r1, List.forall_mem_append.mpr ⟨lw_r2, lw_r3⟩⟩
def RX0 : String := "TypeWorkshop$Draft"
def TX0 : u_T := fun k => match k with
  | 0 => ("TypeWorkshop$Draft", "signs", "[C", true)
  | _ => ("TypeWorkshop$Draft", "length", "I", false)
def tyX0 : Nat → FieldType := fun k => match k with
  | 0 => .array .char
  | _ => .int
theorem nmX0 : ∀ a, a < 2 → ∀ b, b < 2 → a ≠ b → (TX0 a).2.1 ≠ (TX0 b).2.1 := by decide +kernel
theorem tyX0_ok : ∀ k, k < 2 → parseFieldDescriptor (TX0 k).2.2.1 = some (tyX0 k) := by decide +kernel
abbrev cX0_init : ByteArray := prog_2_method_1_code
def yX0_init : MethodName := ⟨RX0, "<init>", "()V"⟩
abbrev cX0_append : ByteArray := prog_2_method_2_code
def yX0_append : MethodName := ⟨RX0, "append", "(C)Z"⟩
abbrev cX0_findFault : ByteArray := prog_2_method_3_code
def yX0_findFault : MethodName := ⟨RX0, "findFault", "()I"⟩
def RX1 : String := "TypeWorkshop$Job"
def TX1 : u_T := fun k => match k with
  | 0 => ("TypeWorkshop$Job", "order", "LTypeWorkshop$Order;", true)
  | 1 => ("TypeWorkshop$Job", "state", "I", true)
  | 2 => ("TypeWorkshop$Job", "printedOn", "I", true)
  | _ => ("TypeWorkshop$Job", "taken", "[I", true)
def tyX1 : Nat → FieldType := fun k => match k with
  | 0 => .object "TypeWorkshop$Order"
  | 1 => .int
  | 2 => .int
  | _ => .array .int
theorem nmX1 : ∀ a, a < 4 → ∀ b, b < 4 → a ≠ b → (TX1 a).2.1 ≠ (TX1 b).2.1 := by decide +kernel
theorem tyX1_ok : ∀ k, k < 4 → parseFieldDescriptor (TX1 k).2.2.1 = some (tyX1 k) := by decide +kernel
abbrev cX1_init : ByteArray := prog_3_method_1_code
def yX1_init : MethodName := ⟨RX1, "<init>", "(LTypeWorkshop$Order;II[I)V"⟩
abbrev cX1_isOpen : ByteArray := prog_3_method_2_code
def yX1_isOpen : MethodName := ⟨RX1, "isOpen", "()Z"⟩
abbrev cX1_hasForme : ByteArray := prog_3_method_3_code
def yX1_hasForme : MethodName := ⟨RX1, "hasForme", "()Z"⟩
abbrev cX1_daysLate : ByteArray := prog_3_method_4_code
def yX1_daysLate : MethodName := ⟨RX1, "daysLate", "()I"⟩
abbrev cX1_takenFrom : ByteArray := prog_3_method_5_code
def yX1_takenFrom : MethodName := ⟨RX1, "takenFrom", "(II)I"⟩
abbrev cX1_takenInAll : ByteArray := prog_3_method_6_code
def yX1_takenInAll : MethodName := ⟨RX1, "takenInAll", "(I)I"⟩
abbrev cX1_formePieces : ByteArray := prog_3_method_7_code
def yX1_formePieces : MethodName := ⟨RX1, "formePieces", "()I"⟩
abbrev cX1_borrowedPieces : ByteArray := prog_3_method_8_code
def yX1_borrowedPieces : MethodName := ⟨RX1, "borrowedPieces", "()I"⟩
abbrev cX1_formeMetal : ByteArray := prog_3_method_9_code
def yX1_formeMetal : MethodName := ⟨RX1, "formeMetal", "()I"⟩
def RX2 : String := "TypeWorkshop$Layout"
def TX2 : u_T := fun k => match k with
  | 0 => ("TypeWorkshop$Layout", "text", "[C", true)
  | 1 => ("TypeWorkshop$Layout", "letters", "[I", true)
  | 2 => ("TypeWorkshop$Layout", "lineEnds", "[I", true)
  | 3 => ("TypeWorkshop$Layout", "gapsUpTo", "[I", true)
  | 4 => ("TypeWorkshop$Layout", "gapWidths", "[I", true)
  | 5 => ("TypeWorkshop$Layout", "lineCount", "I", false)
  | 6 => ("TypeWorkshop$Layout", "letterCount", "I", false)
  | 7 => ("TypeWorkshop$Layout", "gapCount", "I", false)
  | _ => ("TypeWorkshop$Layout", "tooWide", "Z", false)
def tyX2 : Nat → FieldType := fun k => match k with
  | 0 => .array .char
  | 1 => .array .int
  | 2 => .array .int
  | 3 => .array .int
  | 4 => .array .int
  | 5 => .int
  | 6 => .int
  | 7 => .int
  | _ => .boolean
theorem nmX2 : ∀ a, a < 9 → ∀ b, b < 9 → a ≠ b → (TX2 a).2.1 ≠ (TX2 b).2.1 := by decide +kernel
theorem tyX2_ok : ∀ k, k < 9 → parseFieldDescriptor (TX2 k).2.2.1 = some (tyX2 k) := by decide +kernel
abbrev cX2_init : ByteArray := prog_4_method_1_code
def yX2_init : MethodName := ⟨RX2, "<init>", "(LTypeWorkshop$Draft;I)V"⟩
abbrev cX2_addLine : ByteArray := prog_4_method_2_code
def yX2_addLine : MethodName := ⟨RX2, "addLine", "(III)V"⟩
abbrev cX2_addGaps : ByteArray := prog_4_method_3_code
def yX2_addGaps : MethodName := ⟨RX2, "addGaps", "(II)V"⟩
abbrev cX2_hasLine : ByteArray := prog_4_method_4_code
def yX2_hasLine : MethodName := ⟨RX2, "hasLine", "(I)Z"⟩
abbrev cX2_lineStart : ByteArray := prog_4_method_5_code
def yX2_lineStart : MethodName := ⟨RX2, "lineStart", "(I)I"⟩
abbrev cX2_firstGap : ByteArray := prog_4_method_6_code
def yX2_firstGap : MethodName := ⟨RX2, "firstGap", "(I)I"⟩
abbrev cX2_gapWidth : ByteArray := prog_4_method_7_code
def yX2_gapWidth : MethodName := ⟨RX2, "gapWidth", "(I)I"⟩
abbrev cX2_signAt : ByteArray := prog_4_method_8_code
def yX2_signAt : MethodName := ⟨RX2, "signAt", "(I)C"⟩
def RX3 : String := "TypeWorkshop$Order"
def TX3 : u_T := fun k => match k with
  | 0 => ("TypeWorkshop$Order", "box", "I", true)
  | 1 => ("TypeWorkshop$Order", "measure", "I", true)
  | 2 => ("TypeWorkshop$Order", "due", "I", true)
  | _ => ("TypeWorkshop$Order", "layout", "LTypeWorkshop$Layout;", true)
def tyX3 : Nat → FieldType := fun k => match k with
  | 0 => .int
  | 1 => .int
  | 2 => .int
  | _ => .object "TypeWorkshop$Layout"
theorem nmX3 : ∀ a, a < 4 → ∀ b, b < 4 → a ≠ b → (TX3 a).2.1 ≠ (TX3 b).2.1 := by decide +kernel
theorem tyX3_ok : ∀ k, k < 4 → parseFieldDescriptor (TX3 k).2.2.1 = some (tyX3 k) := by decide +kernel
abbrev cX3_init : ByteArray := prog_5_method_1_code
def yX3_init : MethodName := ⟨RX3, "<init>", "(IIILTypeWorkshop$Layout;)V"⟩
def RX4 : String := "TypeWorkshop$Spacer"
def TX4 : u_T := fun k => match k with
  | 0 => ("TypeWorkshop$Spacer", "foursLeft", "I", false)
  | 1 => ("TypeWorkshop$Spacer", "twosLeft", "I", false)
  | 2 => ("TypeWorkshop$Spacer", "fours", "I", false)
  | 3 => ("TypeWorkshop$Spacer", "twos", "I", false)
  | 4 => ("TypeWorkshop$Spacer", "ones", "I", false)
  | 5 => ("TypeWorkshop$Spacer", "allFours", "I", false)
  | 6 => ("TypeWorkshop$Spacer", "allTwos", "I", false)
  | _ => ("TypeWorkshop$Spacer", "allOnes", "I", false)
def tyX4 : Nat → FieldType := fun k => match k with
  | 0 => .int
  | 1 => .int
  | 2 => .int
  | 3 => .int
  | 4 => .int
  | 5 => .int
  | 6 => .int
  | _ => .int
theorem nmX4 : ∀ a, a < 8 → ∀ b, b < 8 → a ≠ b → (TX4 a).2.1 ≠ (TX4 b).2.1 := by decide +kernel
theorem tyX4_ok : ∀ k, k < 8 → parseFieldDescriptor (TX4 k).2.2.1 = some (tyX4 k) := by decide +kernel
abbrev cX4_init : ByteArray := prog_6_method_1_code
def yX4_init : MethodName := ⟨RX4, "<init>", "()V"⟩
abbrev cX4_begin : ByteArray := prog_6_method_2_code
def yX4_begin : MethodName := ⟨RX4, "begin", "(II)V"⟩
abbrev cX4_fill : ByteArray := prog_6_method_3_code
def yX4_fill : MethodName := ⟨RX4, "fill", "(I)V"⟩
abbrev cX4_pieceCount : ByteArray := prog_6_method_4_code
def yX4_pieceCount : MethodName := ⟨RX4, "pieceCount", "()I"⟩
abbrev cX4_digitAt : ByteArray := prog_6_method_5_code
def yX4_digitAt : MethodName := ⟨RX4, "digitAt", "(I)C"⟩
def RX5 : String := "TypeWorkshop$State"
def TX5 : u_T := fun k => match k with
  | 0 => ("TypeWorkshop$State", "inCases", "[I", true)
  | 1 => ("TypeWorkshop$State", "worn", "[I", true)
  | 2 => ("TypeWorkshop$State", "jobs", "[LTypeWorkshop$Job;", true)
  | 3 => ("TypeWorkshop$State", "caseCount", "I", false)
  | 4 => ("TypeWorkshop$State", "jobCount", "I", false)
  | 5 => ("TypeWorkshop$State", "pot", "I", false)
  | 6 => ("TypeWorkshop$State", "day", "I", false)
  | 7 => ("TypeWorkshop$State", "bought", "I", false)
  | 8 => ("TypeWorkshop$State", "dross", "I", false)
  | 9 => ("TypeWorkshop$State", "castPieces", "I", false)
  | _ => ("TypeWorkshop$State", "meltedPieces", "I", false)
def tyX5 : Nat → FieldType := fun k => match k with
  | 0 => .array .int
  | 1 => .array .int
  | 2 => .array (.object "TypeWorkshop$Job")
  | 3 => .int
  | 4 => .int
  | 5 => .int
  | 6 => .int
  | 7 => .int
  | 8 => .int
  | 9 => .int
  | _ => .int
theorem nmX5 : ∀ a, a < 11 → ∀ b, b < 11 → a ≠ b → (TX5 a).2.1 ≠ (TX5 b).2.1 := by decide +kernel
theorem tyX5_ok : ∀ k, k < 11 → parseFieldDescriptor (TX5 k).2.2.1 = some (tyX5 k) := by decide +kernel
abbrev cX5_init : ByteArray := prog_7_method_1_code
def yX5_init : MethodName := ⟨RX5, "<init>", "()V"⟩
abbrev cX5_copyFrom : ByteArray := prog_7_method_2_code
def yX5_copyFrom : MethodName := ⟨RX5, "copyFrom", "(LTypeWorkshop$State;)V"⟩
abbrev cX5_findJob : ByteArray := prog_7_method_3_code
def yX5_findJob : MethodName := ⟨RX5, "findJob", "(I)LTypeWorkshop$Job;"⟩
abbrev cX5_putJob : ByteArray := prog_7_method_4_code
def yX5_putJob : MethodName := ⟨RX5, "putJob", "(ILTypeWorkshop$Job;)V"⟩
abbrev cX5_held : ByteArray := prog_7_method_5_code
def yX5_held : MethodName := ⟨RX5, "held", "(II)I"⟩
abbrev cX5_heldInAll : ByteArray := prog_7_method_6_code
def yX5_heldInAll : MethodName := ⟨RX5, "heldInAll", "(I)I"⟩
abbrev cX5_put : ByteArray := prog_7_method_7_code
def yX5_put : MethodName := ⟨RX5, "put", "(III)V"⟩
abbrev cX5_wornPieces : ByteArray := prog_7_method_8_code
def yX5_wornPieces : MethodName := ⟨RX5, "wornPieces", "()I"⟩
abbrev cX5_wornMetal : ByteArray := prog_7_method_9_code
def yX5_wornMetal : MethodName := ⟨RX5, "wornMetal", "()I"⟩
abbrev cX5_emptyWornBox : ByteArray := prog_7_method_10_code
def yX5_emptyWornBox : MethodName := ⟨RX5, "emptyWornBox", "()V"⟩
abbrev cX5_metalInCases : ByteArray := prog_7_method_11_code
def yX5_metalInCases : MethodName := ⟨RX5, "metalInCases", "()I"⟩
abbrev cX5_metalInFormes : ByteArray := prog_7_method_12_code
def yX5_metalInFormes : MethodName := ⟨RX5, "metalInFormes", "()I"⟩
abbrev cX5_allDaysLate : ByteArray := prog_7_method_13_code
def yX5_allDaysLate : MethodName := ⟨RX5, "allDaysLate", "()I"⟩
abbrev cX5_overdueJobs : ByteArray := prog_7_method_14_code
def yX5_overdueJobs : MethodName := ⟨RX5, "overdueJobs", "()I"⟩
def RX6 : String := "TypeWorkshop"
def TX6 : u_T := fun k => match k with
  | 0 => ("TypeWorkshop", "draft", "LTypeWorkshop$Draft;", true)
  | 1 => ("TypeWorkshop", "now", "LTypeWorkshop$State;", true)
  | 2 => ("TypeWorkshop", "history", "[LTypeWorkshop$State;", true)
  | 3 => ("TypeWorkshop", "historyLength", "I", false)
  | 4 => ("TypeWorkshop", "snapshot", "LTypeWorkshop$State;", false)
  | 5 => ("TypeWorkshop", "spacer", "LTypeWorkshop$Spacer;", true)
  | 6 => ("TypeWorkshop", "needed", "[I", true)
  | 7 => ("TypeWorkshop", "available", "[I", true)
  | _ => ("TypeWorkshop", "wanted", "[I", true)
def tyX6 : Nat → FieldType := fun k => match k with
  | 0 => .object "TypeWorkshop$Draft"
  | 1 => .object "TypeWorkshop$State"
  | 2 => .array (.object "TypeWorkshop$State")
  | 3 => .int
  | 4 => .object "TypeWorkshop$State"
  | 5 => .object "TypeWorkshop$Spacer"
  | 6 => .array .int
  | 7 => .array .int
  | _ => .array .int
theorem nmX6 : ∀ a, a < 9 → ∀ b, b < 9 → a ≠ b → (TX6 a).2.1 ≠ (TX6 b).2.1 := by decide +kernel
theorem tyX6_ok : ∀ k, k < 9 → parseFieldDescriptor (TX6 k).2.2.1 = some (tyX6 k) := by decide +kernel
abbrev cX6_init : ByteArray := prog_1_method_1_code
def yX6_init : MethodName := ⟨RX6, "<init>", "()V"⟩
abbrev cX6_buy : ByteArray := prog_1_method_2_code
def yX6_buy : MethodName := ⟨RX6, "buy", "(I)I"⟩
abbrev cX6_addCase : ByteArray := prog_1_method_3_code
def yX6_addCase : MethodName := ⟨RX6, "addCase", "()I"⟩
abbrev cX6_cast : ByteArray := prog_1_method_4_code
def yX6_cast : MethodName := ⟨RX6, "cast", "(III)I"⟩
abbrev cX6_castFount : ByteArray := prog_1_method_5_code
def yX6_castFount : MethodName := ⟨RX6, "castFount", "(II)I"⟩
abbrev cX6_melt : ByteArray := prog_1_method_6_code
def yX6_melt : MethodName := ⟨RX6, "melt", "(III)I"⟩
abbrev cX6_meltBox : ByteArray := prog_1_method_7_code
def yX6_meltBox : MethodName := ⟨RX6, "meltBox", "()I"⟩
abbrev cX6_type : ByteArray := prog_1_method_8_code
def yX6_type : MethodName := ⟨RX6, "type", "(C)I"⟩
abbrev cX6_clearText : ByteArray := prog_1_method_9_code
def yX6_clearText : MethodName := ⟨RX6, "clearText", "()I"⟩
abbrev cX6_order : ByteArray := prog_1_method_10_code
def yX6_order : MethodName := ⟨RX6, "order", "(III)I"⟩
abbrev cX6_set : ByteArray := prog_1_method_11_code
def yX6_set : MethodName := ⟨RX6, "set", "(I)I"⟩
abbrev cX6_castMissing : ByteArray := prog_1_method_12_code
def yX6_castMissing : MethodName := ⟨RX6, "castMissing", "(I)I"⟩
abbrev cX6_print : ByteArray := prog_1_method_13_code
def yX6_print : MethodName := ⟨RX6, "print", "(I)I"⟩
abbrev cX6_distribute : ByteArray := prog_1_method_14_code
def yX6_distribute : MethodName := ⟨RX6, "distribute", "(I)I"⟩
abbrev cX6_cancel : ByteArray := prog_1_method_15_code
def yX6_cancel : MethodName := ⟨RX6, "cancel", "(I)I"⟩
abbrev cX6_pass : ByteArray := prog_1_method_16_code
def yX6_pass : MethodName := ⟨RX6, "pass", "(I)I"⟩
abbrev cX6_undo : ByteArray := prog_1_method_17_code
def yX6_undo : MethodName := ⟨RX6, "undo", "()I"⟩
abbrev cX6_keep : ByteArray := prog_1_method_18_code
def yX6_keep : MethodName := ⟨RX6, "keep", "()I"⟩
abbrev cX6_restore : ByteArray := prog_1_method_19_code
def yX6_restore : MethodName := ⟨RX6, "restore", "()I"⟩
abbrev cX6_pieces : ByteArray := prog_1_method_20_code
def yX6_pieces : MethodName := ⟨RX6, "pieces", "(II)I"⟩
abbrev cX6_job : ByteArray := prog_1_method_21_code
def yX6_job : MethodName := ⟨RX6, "job", "(II)I"⟩
abbrev cX6_need : ByteArray := prog_1_method_22_code
def yX6_need : MethodName := ⟨RX6, "need", "(II)I"⟩
abbrev cX6_missing : ByteArray := prog_1_method_23_code
def yX6_missing : MethodName := ⟨RX6, "missing", "(II)I"⟩
abbrev cX6_taken : ByteArray := prog_1_method_24_code
def yX6_taken : MethodName := ⟨RX6, "taken", "(III)I"⟩
abbrev cX6_gap : ByteArray := prog_1_method_25_code
def yX6_gap : MethodName := ⟨RX6, "gap", "(III)I"⟩
abbrev cX6_pieceAt : ByteArray := prog_1_method_26_code
def yX6_pieceAt : MethodName := ⟨RX6, "pieceAt", "(III)I"⟩
abbrev cX6_urgent : ByteArray := prog_1_method_27_code
def yX6_urgent : MethodName := ⟨RX6, "urgent", "()I"⟩
abbrev cX6_count : ByteArray := prog_1_method_28_code
def yX6_count : MethodName := ⟨RX6, "count", "(I)I"⟩
abbrev cX6_isCase : ByteArray := prog_1_method_29_code
def yX6_isCase : MethodName := ⟨RX6, "isCase", "(I)Z"⟩
abbrev cX6_isSort : ByteArray := prog_1_method_30_code
def yX6_isSort : MethodName := ⟨RX6, "isSort", "(I)Z"⟩
abbrev cX6_isLetter : ByteArray := prog_1_method_31_code
def yX6_isLetter : MethodName := ⟨RX6, "isLetter", "(C)Z"⟩
abbrev cX6_widthOf : ByteArray := prog_1_method_32_code
def yX6_widthOf : MethodName := ⟨RX6, "widthOf", "(I)I"⟩
abbrev cX6_recordState : ByteArray := prog_1_method_33_code
def yX6_recordState : MethodName := ⟨RX6, "recordState", "()V"⟩
abbrev cX6_dropOldestState : ByteArray := prog_1_method_34_code
def yX6_dropOldestState : MethodName := ⟨RX6, "dropOldestState", "()V"⟩
abbrev cX6_castWanted : ByteArray := prog_1_method_35_code
def yX6_castWanted : MethodName := ⟨RX6, "castWanted", "(I)I"⟩
abbrev cX6_reckon : ByteArray := prog_1_method_36_code
def yX6_reckon : MethodName := ⟨RX6, "reckon", "(LTypeWorkshop$Job;)V"⟩
abbrev cX6_missingOf : ByteArray := prog_1_method_37_code
def yX6_missingOf : MethodName := ⟨RX6, "missingOf", "(I)I"⟩
abbrev cX6_takeNeeded : ByteArray := prog_1_method_38_code
def yX6_takeNeeded : MethodName := ⟨RX6, "takeNeeded", "(I)[I"⟩
abbrev cX6_takePieces : ByteArray := prog_1_method_39_code
def yX6_takePieces : MethodName := ⟨RX6, "takePieces", "([IIII)I"⟩
abbrev cX6_slotOf : ByteArray := prog_1_method_40_code
def yX6_slotOf : MethodName := ⟨RX6, "slotOf", "(II)I"⟩
abbrev cX6_giveBack : ByteArray := prog_1_method_41_code
def yX6_giveBack : MethodName := ⟨RX6, "giveBack", "(LTypeWorkshop$Job;Z)I"⟩
abbrev cX6_findPiece : ByteArray := prog_1_method_42_code
def yX6_findPiece : MethodName := ⟨RX6, "findPiece", "(LTypeWorkshop$Job;II)I"⟩
def RX7 : String := "TypeWorkshopModel"
def TX7 : u_T := fun k => match k with
  | 0 => ("TypeWorkshopModel", "now", "[I", true)
  | 1 => ("TypeWorkshopModel", "history", "[I", true)
  | 2 => ("TypeWorkshopModel", "kept", "I", false)
  | 3 => ("TypeWorkshopModel", "slot", "[I", true)
  | 4 => ("TypeWorkshopModel", "isFilled", "Z", false)
  | 5 => ("TypeWorkshopModel", "typed", "I", false)
  | 6 => ("TypeWorkshopModel", "text", "[I", true)
  | 7 => ("TypeWorkshopModel", "worked", "I", false)
  | 8 => ("TypeWorkshopModel", "work", "[I", true)
  | 9 => ("TypeWorkshopModel", "lines", "I", false)
  | 10 => ("TypeWorkshopModel", "letters", "I", false)
  | 11 => ("TypeWorkshopModel", "gaps", "I", false)
  | 12 => ("TypeWorkshopModel", "lineFrom", "[I", true)
  | 13 => ("TypeWorkshopModel", "lineEnd", "[I", true)
  | 14 => ("TypeWorkshopModel", "firstGap", "[I", true)
  | 15 => ("TypeWorkshopModel", "gapWide", "[I", true)
  | 16 => ("TypeWorkshopModel", "isTooWide", "Z", false)
  | 17 => ("TypeWorkshopModel", "needs", "[I", true)
  | 18 => ("TypeWorkshopModel", "there", "[I", true)
  | 19 => ("TypeWorkshopModel", "fours", "[I", true)
  | 20 => ("TypeWorkshopModel", "twos", "[I", true)
  | _ => ("TypeWorkshopModel", "ones", "[I", true)
def tyX7 : Nat → FieldType := fun k => match k with
  | 0 => .array .int
  | 1 => .array .int
  | 2 => .int
  | 3 => .array .int
  | 4 => .boolean
  | 5 => .int
  | 6 => .array .int
  | 7 => .int
  | 8 => .array .int
  | 9 => .int
  | 10 => .int
  | 11 => .int
  | 12 => .array .int
  | 13 => .array .int
  | 14 => .array .int
  | 15 => .array .int
  | 16 => .boolean
  | 17 => .array .int
  | 18 => .array .int
  | 19 => .array .int
  | 20 => .array .int
  | _ => .array .int
theorem nmX7 : ∀ a, a < 22 → ∀ b, b < 22 → a ≠ b → (TX7 a).2.1 ≠ (TX7 b).2.1 := by decide +kernel
theorem tyX7_ok : ∀ k, k < 22 → parseFieldDescriptor (TX7 k).2.2.1 = some (tyX7 k) := by decide +kernel
abbrev cX7_init : ByteArray := prog_9_method_1_code
def yX7_init : MethodName := ⟨RX7, "<init>", "()V"⟩
abbrev cX7_in : ByteArray := prog_9_method_2_code
def yX7_in : MethodName := ⟨RX7, "in", "(III)Z"⟩
abbrev cX7_record : ByteArray := prog_9_method_3_code
def yX7_record : MethodName := ⟨RX7, "record", "()V"⟩
abbrev cX7_width : ByteArray := prog_9_method_4_code
def yX7_width : MethodName := ⟨RX7, "width", "(I)I"⟩
abbrev cX7_noCase : ByteArray := prog_9_method_5_code
def yX7_noCase : MethodName := ⟨RX7, "noCase", "(I)Z"⟩
abbrev cX7_noSort : ByteArray := prog_9_method_6_code
def yX7_noSort : MethodName := ⟨RX7, "noSort", "(I)Z"⟩
abbrev cX7_noJob : ByteArray := prog_9_method_7_code
def yX7_noJob : MethodName := ⟨RX7, "noJob", "(I)Z"⟩
abbrev cX7_has : ByteArray := prog_9_method_8_code
def yX7_has : MethodName := ⟨RX7, "has", "(II)I"⟩
abbrev cX7_ofJob : ByteArray := prog_9_method_9_code
def yX7_ofJob : MethodName := ⟨RX7, "ofJob", "(II)I"⟩
abbrev cX7_put : ByteArray := prog_9_method_10_code
def yX7_put : MethodName := ⟨RX7, "put", "(III)V"⟩
abbrev cX7_inForme : ByteArray := prog_9_method_11_code
def yX7_inForme : MethodName := ⟨RX7, "inForme", "(III)I"⟩
abbrev cX7_buy : ByteArray := prog_9_method_12_code
def yX7_buy : MethodName := ⟨RX7, "buy", "(I)I"⟩
abbrev cX7_addCase : ByteArray := prog_9_method_13_code
def yX7_addCase : MethodName := ⟨RX7, "addCase", "()I"⟩
abbrev cX7_casts : ByteArray := prog_9_method_14_code
def yX7_casts : MethodName := ⟨RX7, "casts", "(III)V"⟩
abbrev cX7_cast : ByteArray := prog_9_method_15_code
def yX7_cast : MethodName := ⟨RX7, "cast", "(III)I"⟩
abbrev cX7_castFount : ByteArray := prog_9_method_16_code
def yX7_castFount : MethodName := ⟨RX7, "castFount", "(II)I"⟩
abbrev cX7_melt : ByteArray := prog_9_method_17_code
def yX7_melt : MethodName := ⟨RX7, "melt", "(III)I"⟩
abbrev cX7_inBox : ByteArray := prog_9_method_18_code
def yX7_inBox : MethodName := ⟨RX7, "inBox", "()I"⟩
abbrev cX7_boxMetal : ByteArray := prog_9_method_19_code
def yX7_boxMetal : MethodName := ⟨RX7, "boxMetal", "()I"⟩
abbrev cX7_meltBox : ByteArray := prog_9_method_20_code
def yX7_meltBox : MethodName := ⟨RX7, "meltBox", "()I"⟩
abbrev cX7_type : ByteArray := prog_9_method_21_code
def yX7_type : MethodName := ⟨RX7, "type", "(C)I"⟩
abbrev cX7_clearText : ByteArray := prog_9_method_22_code
def yX7_clearText : MethodName := ⟨RX7, "clearText", "()I"⟩
abbrev cX7_isLetter : ByteArray := prog_9_method_23_code
def yX7_isLetter : MethodName := ⟨RX7, "isLetter", "(I)Z"⟩
abbrev cX7_faultOf : ByteArray := prog_9_method_24_code
def yX7_faultOf : MethodName := ⟨RX7, "faultOf", "()I"⟩
abbrev cX7_layLine : ByteArray := prog_9_method_25_code
def yX7_layLine : MethodName := ⟨RX7, "layLine", "(III)V"⟩
abbrev cX7_layLines : ByteArray := prog_9_method_26_code
def yX7_layLines : MethodName := ⟨RX7, "layLines", "(I)V"⟩
abbrev cX7_layJob : ByteArray := prog_9_method_27_code
def yX7_layJob : MethodName := ⟨RX7, "layJob", "(I)V"⟩
abbrev cX7_least : ByteArray := prog_9_method_28_code
def yX7_least : MethodName := ⟨RX7, "least", "(II)I"⟩
abbrev cX7_hasForme : ByteArray := prog_9_method_29_code
def yX7_hasForme : MethodName := ⟨RX7, "hasForme", "(I)Z"⟩
abbrev cX7_layNeeds : ByteArray := prog_9_method_30_code
def yX7_layNeeds : MethodName := ⟨RX7, "layNeeds", "(I)V"⟩
abbrev cX7_lacks : ByteArray := prog_9_method_31_code
def yX7_lacks : MethodName := ⟨RX7, "lacks", "(I)I"⟩
abbrev cX7_allLacks : ByteArray := prog_9_method_32_code
def yX7_allLacks : MethodName := ⟨RX7, "allLacks", "()I"⟩
abbrev cX7_order : ByteArray := prog_9_method_33_code
def yX7_order : MethodName := ⟨RX7, "order", "(III)I"⟩
abbrev cX7_takes : ByteArray := prog_9_method_34_code
def yX7_takes : MethodName := ⟨RX7, "takes", "(II)I"⟩
abbrev cX7_set : ByteArray := prog_9_method_35_code
def yX7_set : MethodName := ⟨RX7, "set", "(I)I"⟩
abbrev cX7_castMissing : ByteArray := prog_9_method_36_code
def yX7_castMissing : MethodName := ⟨RX7, "castMissing", "(I)I"⟩
abbrev cX7_print : ByteArray := prog_9_method_37_code
def yX7_print : MethodName := ⟨RX7, "print", "(I)I"⟩
abbrev cX7_goBack : ByteArray := prog_9_method_38_code
def yX7_goBack : MethodName := ⟨RX7, "goBack", "(II)I"⟩
abbrev cX7_distribute : ByteArray := prog_9_method_39_code
def yX7_distribute : MethodName := ⟨RX7, "distribute", "(I)I"⟩
abbrev cX7_inFormeOf : ByteArray := prog_9_method_40_code
def yX7_inFormeOf : MethodName := ⟨RX7, "inFormeOf", "(IZ)I"⟩
abbrev cX7_cancel : ByteArray := prog_9_method_41_code
def yX7_cancel : MethodName := ⟨RX7, "cancel", "(I)I"⟩
abbrev cX7_pass : ByteArray := prog_9_method_42_code
def yX7_pass : MethodName := ⟨RX7, "pass", "(I)I"⟩
abbrev cX7_undo : ByteArray := prog_9_method_43_code
def yX7_undo : MethodName := ⟨RX7, "undo", "()I"⟩
abbrev cX7_keep : ByteArray := prog_9_method_44_code
def yX7_keep : MethodName := ⟨RX7, "keep", "()I"⟩
abbrev cX7_restore : ByteArray := prog_9_method_45_code
def yX7_restore : MethodName := ⟨RX7, "restore", "()I"⟩
abbrev cX7_pieces : ByteArray := prog_9_method_46_code
def yX7_pieces : MethodName := ⟨RX7, "pieces", "(II)I"⟩
abbrev cX7_job : ByteArray := prog_9_method_47_code
def yX7_job : MethodName := ⟨RX7, "job", "(II)I"⟩
abbrev cX7_need : ByteArray := prog_9_method_48_code
def yX7_need : MethodName := ⟨RX7, "need", "(II)I"⟩
abbrev cX7_missing : ByteArray := prog_9_method_49_code
def yX7_missing : MethodName := ⟨RX7, "missing", "(II)I"⟩
abbrev cX7_taken : ByteArray := prog_9_method_50_code
def yX7_taken : MethodName := ⟨RX7, "taken", "(III)I"⟩
abbrev cX7_gap : ByteArray := prog_9_method_51_code
def yX7_gap : MethodName := ⟨RX7, "gap", "(III)I"⟩
abbrev cX7_spaceAt : ByteArray := prog_9_method_52_code
def yX7_spaceAt : MethodName := ⟨RX7, "spaceAt", "(II)I"⟩
abbrev cX7_spaces : ByteArray := prog_9_method_53_code
def yX7_spaces : MethodName := ⟨RX7, "spaces", "(I)I"⟩
abbrev cX7_pieceAt : ByteArray := prog_9_method_54_code
def yX7_pieceAt : MethodName := ⟨RX7, "pieceAt", "(III)I"⟩
abbrev cX7_isToDo : ByteArray := prog_9_method_55_code
def yX7_isToDo : MethodName := ⟨RX7, "isToDo", "(I)Z"⟩
abbrev cX7_urgent : ByteArray := prog_9_method_56_code
def yX7_urgent : MethodName := ⟨RX7, "urgent", "()I"⟩
abbrev cX7_caseMetal : ByteArray := prog_9_method_57_code
def yX7_caseMetal : MethodName := ⟨RX7, "caseMetal", "()I"⟩
abbrev cX7_formeMetal : ByteArray := prog_9_method_58_code
def yX7_formeMetal : MethodName := ⟨RX7, "formeMetal", "()I"⟩
abbrev cX7_lateDays : ByteArray := prog_9_method_59_code
def yX7_lateDays : MethodName := ⟨RX7, "lateDays", "()I"⟩
abbrev cX7_pastDue : ByteArray := prog_9_method_60_code
def yX7_pastDue : MethodName := ⟨RX7, "pastDue", "()I"⟩
abbrev cX7_count : ByteArray := prog_9_method_61_code
def yX7_count : MethodName := ⟨RX7, "count", "(I)I"⟩
def RJ9 : String := "java/lang/Math"
def TJ9 : u_T := fun k => match k with
  | _ => ("", "", "", false)
def tyJ9 : Nat → FieldType := fun k => match k with
  | _ => .int
theorem nmJ9 : ∀ a, a < 0 → ∀ b, b < 0 → a ≠ b → (TJ9 a).2.1 ≠ (TJ9 b).2.1 := by decide +kernel
theorem tyJ9_ok : ∀ k, k < 0 → parseFieldDescriptor (TJ9 k).2.2.1 = some (tyJ9 k) := by decide +kernel
abbrev cJ9_max_7cf53 : ByteArray := prog_10_method_65_code
def yJ9_max_7cf53 : MethodName := ⟨RJ9, "max", "(II)I"⟩
abbrev cJ9_min_7cf53 : ByteArray := prog_10_method_69_code
def yJ9_min_7cf53 : MethodName := ⟨RJ9, "min", "(II)I"⟩
def RJ10 : String := "java/lang/System"
def TJ10 : u_T := fun k => match k with
  | _ => ("", "", "", false)
def tyJ10 : Nat → FieldType := fun k => match k with
  | _ => .int
theorem nmJ10 : ∀ a, a < 0 → ∀ b, b < 0 → a ≠ b → (TJ10 a).2.1 ≠ (TJ10 b).2.1 := by decide +kernel
theorem tyJ10_ok : ∀ k, k < 0 → parseFieldDescriptor (TJ10 k).2.2.1 = some (tyJ10 k) := by decide +kernel
def RL : String := "TypeWorkshopLaw"
abbrev cL_law : ByteArray := code
def yL_law : MethodName := ⟨RL, "law", "([I)Z"⟩
