section
-- ===== PART A: goes FIRST, ahead of the names: the tables' words, and 'selects' of the private methods out of them =====
/-- a private method of a class that the tables say can be made, by its rows of tables_1 -/
def lw_okq (q : MethodName × Nat) : Prop := (q.1.cls ≠ "java/lang/invoke/MethodHandle" ∧ q.1.cls ≠ "java/lang/invoke/VarHandle") ∧ Cond.instantiable q.1.cls q.2 ∈ tables_1 ∧ Cond.privateMethod q.1 ∈ tables_1 ∧ Cond.instanceMethod q.1 ∈ tables_1
theorem lw_p0 : lw_okq (⟨"TypeWorkshop", "recordState", "()V"⟩, 9) := ⟨⟨by decide +kernel, by decide +kernel⟩, List.mem_of_getElem? (i := 12) (by decide +kernel), List.mem_of_getElem? (i := 157) (by decide +kernel), List.mem_of_getElem? (i := 158) (by decide +kernel)⟩
theorem lw_p1 : lw_okq (⟨"TypeWorkshop", "dropOldestState", "()V"⟩, 9) := ⟨⟨by decide +kernel, by decide +kernel⟩, List.mem_of_getElem? (i := 12) (by decide +kernel), List.mem_of_getElem? (i := 161) (by decide +kernel), List.mem_of_getElem? (i := 162) (by decide +kernel)⟩
theorem lw_p2 : lw_okq (⟨"TypeWorkshop", "isCase", "(I)Z"⟩, 9) := ⟨⟨by decide +kernel, by decide +kernel⟩, List.mem_of_getElem? (i := 12) (by decide +kernel), List.mem_of_getElem? (i := 180) (by decide +kernel), List.mem_of_getElem? (i := 181) (by decide +kernel)⟩
theorem lw_p3 : lw_okq (⟨"TypeWorkshop", "castWanted", "(I)I"⟩, 9) := ⟨⟨by decide +kernel, by decide +kernel⟩, List.mem_of_getElem? (i := 12) (by decide +kernel), List.mem_of_getElem? (i := 187) (by decide +kernel), List.mem_of_getElem? (i := 188) (by decide +kernel)⟩
theorem lw_p4 : lw_okq (⟨"TypeWorkshop$Layout", "addLine", "(III)V"⟩, 9) := ⟨⟨by decide +kernel, by decide +kernel⟩, List.mem_of_getElem? (i := 253) (by decide +kernel), List.mem_of_getElem? (i := 262) (by decide +kernel), List.mem_of_getElem? (i := 263) (by decide +kernel)⟩
theorem lw_p5 : lw_okq (⟨"TypeWorkshop$Layout", "addGaps", "(II)V"⟩, 9) := ⟨⟨by decide +kernel, by decide +kernel⟩, List.mem_of_getElem? (i := 253) (by decide +kernel), List.mem_of_getElem? (i := 271) (by decide +kernel), List.mem_of_getElem? (i := 272) (by decide +kernel)⟩
theorem lw_p6 : lw_okq (⟨"TypeWorkshop", "reckon", "(LTypeWorkshop$Job;)V"⟩, 9) := ⟨⟨by decide +kernel, by decide +kernel⟩, List.mem_of_getElem? (i := 12) (by decide +kernel), List.mem_of_getElem? (i := 373) (by decide +kernel), List.mem_of_getElem? (i := 374) (by decide +kernel)⟩
theorem lw_p7 : lw_okq (⟨"TypeWorkshop", "missingOf", "(I)I"⟩, 9) := ⟨⟨by decide +kernel, by decide +kernel⟩, List.mem_of_getElem? (i := 12) (by decide +kernel), List.mem_of_getElem? (i := 404) (by decide +kernel), List.mem_of_getElem? (i := 405) (by decide +kernel)⟩
theorem lw_p8 : lw_okq (⟨"TypeWorkshop", "takeNeeded", "(I)[I"⟩, 9) := ⟨⟨by decide +kernel, by decide +kernel⟩, List.mem_of_getElem? (i := 12) (by decide +kernel), List.mem_of_getElem? (i := 409) (by decide +kernel), List.mem_of_getElem? (i := 410) (by decide +kernel)⟩
theorem lw_p9 : lw_okq (⟨"TypeWorkshop", "takePieces", "([IIII)I"⟩, 9) := ⟨⟨by decide +kernel, by decide +kernel⟩, List.mem_of_getElem? (i := 12) (by decide +kernel), List.mem_of_getElem? (i := 413) (by decide +kernel), List.mem_of_getElem? (i := 414) (by decide +kernel)⟩
theorem lw_p10 : lw_okq (⟨"TypeWorkshop", "giveBack", "(LTypeWorkshop$Job;Z)I"⟩, 9) := ⟨⟨by decide +kernel, by decide +kernel⟩, List.mem_of_getElem? (i := 12) (by decide +kernel), List.mem_of_getElem? (i := 444) (by decide +kernel), List.mem_of_getElem? (i := 445) (by decide +kernel)⟩
theorem lw_p11 : lw_okq (⟨"TypeWorkshop", "findPiece", "(LTypeWorkshop$Job;II)I"⟩, 9) := ⟨⟨by decide +kernel, by decide +kernel⟩, List.mem_of_getElem? (i := 12) (by decide +kernel), List.mem_of_getElem? (i := 514) (by decide +kernel), List.mem_of_getElem? (i := 515) (by decide +kernel)⟩
theorem lw_p12 : lw_okq (⟨"TypeWorkshopModel", "record", "()V"⟩, 22) := ⟨⟨by decide +kernel, by decide +kernel⟩, List.mem_of_getElem? (i := 569) (by decide +kernel), List.mem_of_getElem? (i := 650) (by decide +kernel), List.mem_of_getElem? (i := 651) (by decide +kernel)⟩
theorem lw_p13 : lw_okq (⟨"TypeWorkshopModel", "noCase", "(I)Z"⟩, 22) := ⟨⟨by decide +kernel, by decide +kernel⟩, List.mem_of_getElem? (i := 569) (by decide +kernel), List.mem_of_getElem? (i := 662) (by decide +kernel), List.mem_of_getElem? (i := 663) (by decide +kernel)⟩
theorem lw_p14 : lw_okq (⟨"TypeWorkshopModel", "has", "(II)I"⟩, 22) := ⟨⟨by decide +kernel, by decide +kernel⟩, List.mem_of_getElem? (i := 569) (by decide +kernel), List.mem_of_getElem? (i := 669) (by decide +kernel), List.mem_of_getElem? (i := 670) (by decide +kernel)⟩
theorem lw_p15 : lw_okq (⟨"TypeWorkshopModel", "casts", "(III)V"⟩, 22) := ⟨⟨by decide +kernel, by decide +kernel⟩, List.mem_of_getElem? (i := 569) (by decide +kernel), List.mem_of_getElem? (i := 676) (by decide +kernel), List.mem_of_getElem? (i := 677) (by decide +kernel)⟩
def lw_privs_1 : List (MethodName × Nat) := [(⟨"TypeWorkshop", "recordState", "()V"⟩, 9), (⟨"TypeWorkshop", "dropOldestState", "()V"⟩, 9), (⟨"TypeWorkshop", "isCase", "(I)Z"⟩, 9), (⟨"TypeWorkshop", "castWanted", "(I)I"⟩, 9), (⟨"TypeWorkshop$Layout", "addLine", "(III)V"⟩, 9), (⟨"TypeWorkshop$Layout", "addGaps", "(II)V"⟩, 9), (⟨"TypeWorkshop", "reckon", "(LTypeWorkshop$Job;)V"⟩, 9), (⟨"TypeWorkshop", "missingOf", "(I)I"⟩, 9), (⟨"TypeWorkshop", "takeNeeded", "(I)[I"⟩, 9), (⟨"TypeWorkshop", "takePieces", "([IIII)I"⟩, 9), (⟨"TypeWorkshop", "giveBack", "(LTypeWorkshop$Job;Z)I"⟩, 9), (⟨"TypeWorkshop", "findPiece", "(LTypeWorkshop$Job;II)I"⟩, 9), (⟨"TypeWorkshopModel", "record", "()V"⟩, 22), (⟨"TypeWorkshopModel", "noCase", "(I)Z"⟩, 22), (⟨"TypeWorkshopModel", "has", "(II)I"⟩, 22), (⟨"TypeWorkshopModel", "casts", "(III)V"⟩, 22)]
theorem lw_r1 : ∀ q ∈ lw_privs_1, lw_okq q := List.forall_mem_cons.mpr ⟨lw_p0, List.forall_mem_cons.mpr ⟨lw_p1, List.forall_mem_cons.mpr ⟨lw_p2, List.forall_mem_cons.mpr ⟨lw_p3, List.forall_mem_cons.mpr ⟨lw_p4, List.forall_mem_cons.mpr ⟨lw_p5, List.forall_mem_cons.mpr ⟨lw_p6, List.forall_mem_cons.mpr ⟨lw_p7, List.forall_mem_cons.mpr ⟨lw_p8, List.forall_mem_cons.mpr ⟨lw_p9, List.forall_mem_cons.mpr ⟨lw_p10, List.forall_mem_cons.mpr ⟨lw_p11, List.forall_mem_cons.mpr ⟨lw_p12, List.forall_mem_cons.mpr ⟨lw_p13, List.forall_mem_cons.mpr ⟨lw_p14, List.forall_mem_cons.mpr ⟨lw_p15, fun _ h => absurd h List.not_mem_nil⟩⟩⟩⟩⟩⟩⟩⟩⟩⟩⟩⟩⟩⟩⟩⟩
theorem lw_p16 : lw_okq (⟨"TypeWorkshopModel", "inBox", "()I"⟩, 22) := ⟨⟨by decide +kernel, by decide +kernel⟩, List.mem_of_getElem? (i := 569) (by decide +kernel), List.mem_of_getElem? (i := 692) (by decide +kernel), List.mem_of_getElem? (i := 693) (by decide +kernel)⟩
theorem lw_p17 : lw_okq (⟨"TypeWorkshopModel", "boxMetal", "()I"⟩, 22) := ⟨⟨by decide +kernel, by decide +kernel⟩, List.mem_of_getElem? (i := 569) (by decide +kernel), List.mem_of_getElem? (i := 696) (by decide +kernel), List.mem_of_getElem? (i := 697) (by decide +kernel)⟩
theorem lw_p18 : lw_okq (⟨"TypeWorkshopModel", "faultOf", "()I"⟩, 22) := ⟨⟨by decide +kernel, by decide +kernel⟩, List.mem_of_getElem? (i := 569) (by decide +kernel), List.mem_of_getElem? (i := 712) (by decide +kernel), List.mem_of_getElem? (i := 713) (by decide +kernel)⟩
theorem lw_p19 : lw_okq (⟨"TypeWorkshopModel", "layLines", "(I)V"⟩, 22) := ⟨⟨by decide +kernel, by decide +kernel⟩, List.mem_of_getElem? (i := 569) (by decide +kernel), List.mem_of_getElem? (i := 719) (by decide +kernel), List.mem_of_getElem? (i := 720) (by decide +kernel)⟩
theorem lw_p20 : lw_okq (⟨"TypeWorkshopModel", "layLine", "(III)V"⟩, 22) := ⟨⟨by decide +kernel, by decide +kernel⟩, List.mem_of_getElem? (i := 569) (by decide +kernel), List.mem_of_getElem? (i := 723) (by decide +kernel), List.mem_of_getElem? (i := 724) (by decide +kernel)⟩
theorem lw_p21 : lw_okq (⟨"TypeWorkshopModel", "put", "(III)V"⟩, 22) := ⟨⟨by decide +kernel, by decide +kernel⟩, List.mem_of_getElem? (i := 569) (by decide +kernel), List.mem_of_getElem? (i := 727) (by decide +kernel), List.mem_of_getElem? (i := 728) (by decide +kernel)⟩
theorem lw_p22 : lw_okq (⟨"TypeWorkshopModel", "noJob", "(I)Z"⟩, 22) := ⟨⟨by decide +kernel, by decide +kernel⟩, List.mem_of_getElem? (i := 569) (by decide +kernel), List.mem_of_getElem? (i := 735) (by decide +kernel), List.mem_of_getElem? (i := 736) (by decide +kernel)⟩
theorem lw_p23 : lw_okq (⟨"TypeWorkshopModel", "ofJob", "(II)I"⟩, 22) := ⟨⟨by decide +kernel, by decide +kernel⟩, List.mem_of_getElem? (i := 569) (by decide +kernel), List.mem_of_getElem? (i := 739) (by decide +kernel), List.mem_of_getElem? (i := 740) (by decide +kernel)⟩
theorem lw_p24 : lw_okq (⟨"TypeWorkshopModel", "layNeeds", "(I)V"⟩, 22) := ⟨⟨by decide +kernel, by decide +kernel⟩, List.mem_of_getElem? (i := 569) (by decide +kernel), List.mem_of_getElem? (i := 743) (by decide +kernel), List.mem_of_getElem? (i := 744) (by decide +kernel)⟩
theorem lw_p25 : lw_okq (⟨"TypeWorkshopModel", "layJob", "(I)V"⟩, 22) := ⟨⟨by decide +kernel, by decide +kernel⟩, List.mem_of_getElem? (i := 569) (by decide +kernel), List.mem_of_getElem? (i := 747) (by decide +kernel), List.mem_of_getElem? (i := 748) (by decide +kernel)⟩
theorem lw_p26 : lw_okq (⟨"TypeWorkshopModel", "hasForme", "(I)Z"⟩, 22) := ⟨⟨by decide +kernel, by decide +kernel⟩, List.mem_of_getElem? (i := 569) (by decide +kernel), List.mem_of_getElem? (i := 751) (by decide +kernel), List.mem_of_getElem? (i := 752) (by decide +kernel)⟩
theorem lw_p27 : lw_okq (⟨"TypeWorkshopModel", "inForme", "(III)I"⟩, 22) := ⟨⟨by decide +kernel, by decide +kernel⟩, List.mem_of_getElem? (i := 569) (by decide +kernel), List.mem_of_getElem? (i := 755) (by decide +kernel), List.mem_of_getElem? (i := 756) (by decide +kernel)⟩
theorem lw_p28 : lw_okq (⟨"TypeWorkshopModel", "allLacks", "()I"⟩, 22) := ⟨⟨by decide +kernel, by decide +kernel⟩, List.mem_of_getElem? (i := 569) (by decide +kernel), List.mem_of_getElem? (i := 762) (by decide +kernel), List.mem_of_getElem? (i := 763) (by decide +kernel)⟩
theorem lw_p29 : lw_okq (⟨"TypeWorkshopModel", "lacks", "(I)I"⟩, 22) := ⟨⟨by decide +kernel, by decide +kernel⟩, List.mem_of_getElem? (i := 569) (by decide +kernel), List.mem_of_getElem? (i := 766) (by decide +kernel), List.mem_of_getElem? (i := 767) (by decide +kernel)⟩
theorem lw_p30 : lw_okq (⟨"TypeWorkshopModel", "takes", "(II)I"⟩, 22) := ⟨⟨by decide +kernel, by decide +kernel⟩, List.mem_of_getElem? (i := 569) (by decide +kernel), List.mem_of_getElem? (i := 770) (by decide +kernel), List.mem_of_getElem? (i := 771) (by decide +kernel)⟩
theorem lw_p31 : lw_okq (⟨"TypeWorkshopModel", "goBack", "(II)I"⟩, 22) := ⟨⟨by decide +kernel, by decide +kernel⟩, List.mem_of_getElem? (i := 569) (by decide +kernel), List.mem_of_getElem? (i := 787) (by decide +kernel), List.mem_of_getElem? (i := 788) (by decide +kernel)⟩
def lw_privs_2 : List (MethodName × Nat) := [(⟨"TypeWorkshopModel", "inBox", "()I"⟩, 22), (⟨"TypeWorkshopModel", "boxMetal", "()I"⟩, 22), (⟨"TypeWorkshopModel", "faultOf", "()I"⟩, 22), (⟨"TypeWorkshopModel", "layLines", "(I)V"⟩, 22), (⟨"TypeWorkshopModel", "layLine", "(III)V"⟩, 22), (⟨"TypeWorkshopModel", "put", "(III)V"⟩, 22), (⟨"TypeWorkshopModel", "noJob", "(I)Z"⟩, 22), (⟨"TypeWorkshopModel", "ofJob", "(II)I"⟩, 22), (⟨"TypeWorkshopModel", "layNeeds", "(I)V"⟩, 22), (⟨"TypeWorkshopModel", "layJob", "(I)V"⟩, 22), (⟨"TypeWorkshopModel", "hasForme", "(I)Z"⟩, 22), (⟨"TypeWorkshopModel", "inForme", "(III)I"⟩, 22), (⟨"TypeWorkshopModel", "allLacks", "()I"⟩, 22), (⟨"TypeWorkshopModel", "lacks", "(I)I"⟩, 22), (⟨"TypeWorkshopModel", "takes", "(II)I"⟩, 22), (⟨"TypeWorkshopModel", "goBack", "(II)I"⟩, 22)]
theorem lw_r2 : ∀ q ∈ lw_privs_2, lw_okq q := List.forall_mem_cons.mpr ⟨lw_p16, List.forall_mem_cons.mpr ⟨lw_p17, List.forall_mem_cons.mpr ⟨lw_p18, List.forall_mem_cons.mpr ⟨lw_p19, List.forall_mem_cons.mpr ⟨lw_p20, List.forall_mem_cons.mpr ⟨lw_p21, List.forall_mem_cons.mpr ⟨lw_p22, List.forall_mem_cons.mpr ⟨lw_p23, List.forall_mem_cons.mpr ⟨lw_p24, List.forall_mem_cons.mpr ⟨lw_p25, List.forall_mem_cons.mpr ⟨lw_p26, List.forall_mem_cons.mpr ⟨lw_p27, List.forall_mem_cons.mpr ⟨lw_p28, List.forall_mem_cons.mpr ⟨lw_p29, List.forall_mem_cons.mpr ⟨lw_p30, List.forall_mem_cons.mpr ⟨lw_p31, fun _ h => absurd h List.not_mem_nil⟩⟩⟩⟩⟩⟩⟩⟩⟩⟩⟩⟩⟩⟩⟩⟩
theorem lw_p32 : lw_okq (⟨"TypeWorkshopModel", "inFormeOf", "(IZ)I"⟩, 22) := ⟨⟨by decide +kernel, by decide +kernel⟩, List.mem_of_getElem? (i := 569) (by decide +kernel), List.mem_of_getElem? (i := 795) (by decide +kernel), List.mem_of_getElem? (i := 796) (by decide +kernel)⟩
theorem lw_p33 : lw_okq (⟨"TypeWorkshopModel", "spaceAt", "(II)I"⟩, 22) := ⟨⟨by decide +kernel, by decide +kernel⟩, List.mem_of_getElem? (i := 569) (by decide +kernel), List.mem_of_getElem? (i := 846) (by decide +kernel), List.mem_of_getElem? (i := 847) (by decide +kernel)⟩
theorem lw_p34 : lw_okq (⟨"TypeWorkshopModel", "isToDo", "(I)Z"⟩, 22) := ⟨⟨by decide +kernel, by decide +kernel⟩, List.mem_of_getElem? (i := 569) (by decide +kernel), List.mem_of_getElem? (i := 854) (by decide +kernel), List.mem_of_getElem? (i := 855) (by decide +kernel)⟩
theorem lw_p35 : lw_okq (⟨"TypeWorkshopModel", "caseMetal", "()I"⟩, 22) := ⟨⟨by decide +kernel, by decide +kernel⟩, List.mem_of_getElem? (i := 569) (by decide +kernel), List.mem_of_getElem? (i := 862) (by decide +kernel), List.mem_of_getElem? (i := 863) (by decide +kernel)⟩
theorem lw_p36 : lw_okq (⟨"TypeWorkshopModel", "formeMetal", "()I"⟩, 22) := ⟨⟨by decide +kernel, by decide +kernel⟩, List.mem_of_getElem? (i := 569) (by decide +kernel), List.mem_of_getElem? (i := 866) (by decide +kernel), List.mem_of_getElem? (i := 867) (by decide +kernel)⟩
theorem lw_p37 : lw_okq (⟨"TypeWorkshopModel", "lateDays", "()I"⟩, 22) := ⟨⟨by decide +kernel, by decide +kernel⟩, List.mem_of_getElem? (i := 569) (by decide +kernel), List.mem_of_getElem? (i := 870) (by decide +kernel), List.mem_of_getElem? (i := 871) (by decide +kernel)⟩
theorem lw_p38 : lw_okq (⟨"TypeWorkshopModel", "pastDue", "()I"⟩, 22) := ⟨⟨by decide +kernel, by decide +kernel⟩, List.mem_of_getElem? (i := 569) (by decide +kernel), List.mem_of_getElem? (i := 874) (by decide +kernel), List.mem_of_getElem? (i := 875) (by decide +kernel)⟩
def lw_privs_3 : List (MethodName × Nat) := [(⟨"TypeWorkshopModel", "inFormeOf", "(IZ)I"⟩, 22), (⟨"TypeWorkshopModel", "spaceAt", "(II)I"⟩, 22), (⟨"TypeWorkshopModel", "isToDo", "(I)Z"⟩, 22), (⟨"TypeWorkshopModel", "caseMetal", "()I"⟩, 22), (⟨"TypeWorkshopModel", "formeMetal", "()I"⟩, 22), (⟨"TypeWorkshopModel", "lateDays", "()I"⟩, 22), (⟨"TypeWorkshopModel", "pastDue", "()I"⟩, 22)]
theorem lw_r3 : ∀ q ∈ lw_privs_3, lw_okq q := List.forall_mem_cons.mpr ⟨lw_p32, List.forall_mem_cons.mpr ⟨lw_p33, List.forall_mem_cons.mpr ⟨lw_p34, List.forall_mem_cons.mpr ⟨lw_p35, List.forall_mem_cons.mpr ⟨lw_p36, List.forall_mem_cons.mpr ⟨lw_p37, List.forall_mem_cons.mpr ⟨lw_p38, fun _ h => absurd h List.not_mem_nil⟩⟩⟩⟩⟩⟩⟩
def lw_privs : List (MethodName × Nat) := lw_privs_1 ++ (lw_privs_2 ++ (lw_privs_3))
def lw_tbl : List Cond := k2_sels lw_privs ++ tables_1
theorem lw_privs_ok : ∀ q ∈ lw_privs, lw_okq q := by
  show ∀ q ∈ lw_privs_1 ++ (lw_privs_2 ++ (lw_privs_3)), lw_okq q
  exact List.forall_mem_append.mpr ⟨lw_r1, List.forall_mem_append.mpr ⟨lw_r2, lw_r3⟩⟩
def RX0 : String := "TypeWorkshop$Draft"
def TX0 : u_T := fun k => match k with
  | 0 => ("TypeWorkshop$Draft", "signs", "[C", true)
  | _ => ("TypeWorkshop$Draft", "length", "I", false)
def tyX0 : Nat → FieldType := fun k => match k with
  | 0 => .array .char
  | _ => .int
theorem nmX0 : ∀ a, a < 2 → ∀ b, b < 2 → a ≠ b → (TX0 a).2.1 ≠ (TX0 b).2.1 := by decide +kernel
theorem tyX0_ok : ∀ k, k < 2 → parseFieldDescriptor (TX0 k).2.2.1 = some (tyX0 k) := by decide +kernel
abbrev cX0_init : ByteArray := prog_2_method_1_code
def yX0_init : MethodName := ⟨RX0, "<init>", "()V"⟩
abbrev cX0_append : ByteArray := prog_2_method_2_code
def yX0_append : MethodName := ⟨RX0, "append", "(C)Z"⟩
abbrev cX0_findFault : ByteArray := prog_2_method_3_code
def yX0_findFault : MethodName := ⟨RX0, "findFault", "()I"⟩
def RX1 : String := "TypeWorkshop$Job"
def TX1 : u_T := fun k => match k with
  | 0 => ("TypeWorkshop$Job", "order", "LTypeWorkshop$Order;", true)
  | 1 => ("TypeWorkshop$Job", "state", "I", true)
  | 2 => ("TypeWorkshop$Job", "printedOn", "I", true)
  | _ => ("TypeWorkshop$Job", "taken", "[I", true)
def tyX1 : Nat → FieldType := fun k => match k with
  | 0 => .object "TypeWorkshop$Order"
  | 1 => .int
  | 2 => .int
  | _ => .array .int
theorem nmX1 : ∀ a, a < 4 → ∀ b, b < 4 → a ≠ b → (TX1 a).2.1 ≠ (TX1 b).2.1 := by decide +kernel
theorem tyX1_ok : ∀ k, k < 4 → parseFieldDescriptor (TX1 k).2.2.1 = some (tyX1 k) := by decide +kernel
abbrev cX1_init : ByteArray := prog_3_method_1_code
def yX1_init : MethodName := ⟨RX1, "<init>", "(LTypeWorkshop$Order;II[I)V"⟩
abbrev cX1_isOpen : ByteArray := prog_3_method_2_code
def yX1_isOpen : MethodName := ⟨RX1, "isOpen", "()Z"⟩
abbrev cX1_hasForme : ByteArray := prog_3_method_3_code
def yX1_hasForme : MethodName := ⟨RX1, "hasForme", "()Z"⟩
abbrev cX1_daysLate : ByteArray := prog_3_method_4_code
def yX1_daysLate : MethodName := ⟨RX1, "daysLate", "()I"⟩
abbrev cX1_takenFrom : ByteArray := prog_3_method_5_code
def yX1_takenFrom : MethodName := ⟨RX1, "takenFrom", "(II)I"⟩
abbrev cX1_takenInAll : ByteArray := prog_3_method_6_code
def yX1_takenInAll : MethodName := ⟨RX1, "takenInAll", "(I)I"⟩
abbrev cX1_formePieces : ByteArray := prog_3_method_7_code
def yX1_formePieces : MethodName := ⟨RX1, "formePieces", "()I"⟩
abbrev cX1_borrowedPieces : ByteArray := prog_3_method_8_code
def yX1_borrowedPieces : MethodName := ⟨RX1, "borrowedPieces", "()I"⟩
abbrev cX1_formeMetal : ByteArray := prog_3_method_9_code
def yX1_formeMetal : MethodName := ⟨RX1, "formeMetal", "()I"⟩
def RX2 : String := "TypeWorkshop$Layout"
def TX2 : u_T := fun k => match k with
  | 0 => ("TypeWorkshop$Layout", "text", "[C", true)
  | 1 => ("TypeWorkshop$Layout", "letters", "[I", true)
  | 2 => ("TypeWorkshop$Layout", "lineEnds", "[I", true)
  | 3 => ("TypeWorkshop$Layout", "gapsUpTo", "[I", true)
  | 4 => ("TypeWorkshop$Layout", "gapWidths", "[I", true)
  | 5 => ("TypeWorkshop$Layout", "lineCount", "I", false)
  | 6 => ("TypeWorkshop$Layout", "letterCount", "I", false)
  | 7 => ("TypeWorkshop$Layout", "gapCount", "I", false)
  | _ => ("TypeWorkshop$Layout", "tooWide", "Z", false)
def tyX2 : Nat → FieldType := fun k => match k with
  | 0 => .array .char
  | 1 => .array .int
  | 2 => .array .int
  | 3 => .array .int
  | 4 => .array .int
  | 5 => .int
  | 6 => .int
  | 7 => .int
  | _ => .boolean
theorem nmX2 : ∀ a, a < 9 → ∀ b, b < 9 → a ≠ b → (TX2 a).2.1 ≠ (TX2 b).2.1 := by decide +kernel
theorem tyX2_ok : ∀ k, k < 9 → parseFieldDescriptor (TX2 k).2.2.1 = some (tyX2 k) := by decide +kernel
abbrev cX2_init : ByteArray := prog_4_method_1_code
def yX2_init : MethodName := ⟨RX2, "<init>", "(LTypeWorkshop$Draft;I)V"⟩
abbrev cX2_addLine : ByteArray := prog_4_method_2_code
def yX2_addLine : MethodName := ⟨RX2, "addLine", "(III)V"⟩
abbrev cX2_addGaps : ByteArray := prog_4_method_3_code
def yX2_addGaps : MethodName := ⟨RX2, "addGaps", "(II)V"⟩
abbrev cX2_hasLine : ByteArray := prog_4_method_4_code
def yX2_hasLine : MethodName := ⟨RX2, "hasLine", "(I)Z"⟩
abbrev cX2_lineStart : ByteArray := prog_4_method_5_code
def yX2_lineStart : MethodName := ⟨RX2, "lineStart", "(I)I"⟩
abbrev cX2_firstGap : ByteArray := prog_4_method_6_code
def yX2_firstGap : MethodName := ⟨RX2, "firstGap", "(I)I"⟩
abbrev cX2_gapWidth : ByteArray := prog_4_method_7_code
def yX2_gapWidth : MethodName := ⟨RX2, "gapWidth", "(I)I"⟩
abbrev cX2_signAt : ByteArray := prog_4_method_8_code
def yX2_signAt : MethodName := ⟨RX2, "signAt", "(I)C"⟩
def RX3 : String := "TypeWorkshop$Order"
def TX3 : u_T := fun k => match k with
  | 0 => ("TypeWorkshop$Order", "box", "I", true)
  | 1 => ("TypeWorkshop$Order", "measure", "I", true)
  | 2 => ("TypeWorkshop$Order", "due", "I", true)
  | _ => ("TypeWorkshop$Order", "layout", "LTypeWorkshop$Layout;", true)
def tyX3 : Nat → FieldType := fun k => match k with
  | 0 => .int
  | 1 => .int
  | 2 => .int
  | _ => .object "TypeWorkshop$Layout"
theorem nmX3 : ∀ a, a < 4 → ∀ b, b < 4 → a ≠ b → (TX3 a).2.1 ≠ (TX3 b).2.1 := by decide +kernel
theorem tyX3_ok : ∀ k, k < 4 → parseFieldDescriptor (TX3 k).2.2.1 = some (tyX3 k) := by decide +kernel
abbrev cX3_init : ByteArray := prog_5_method_1_code
def yX3_init : MethodName := ⟨RX3, "<init>", "(IIILTypeWorkshop$Layout;)V"⟩
def RX4 : String := "TypeWorkshop$Spacer"
def TX4 : u_T := fun k => match k with
  | 0 => ("TypeWorkshop$Spacer", "foursLeft", "I", false)
  | 1 => ("TypeWorkshop$Spacer", "twosLeft", "I", false)
  | 2 => ("TypeWorkshop$Spacer", "fours", "I", false)
  | 3 => ("TypeWorkshop$Spacer", "twos", "I", false)
  | 4 => ("TypeWorkshop$Spacer", "ones", "I", false)
  | 5 => ("TypeWorkshop$Spacer", "allFours", "I", false)
  | 6 => ("TypeWorkshop$Spacer", "allTwos", "I", false)
  | _ => ("TypeWorkshop$Spacer", "allOnes", "I", false)
def tyX4 : Nat → FieldType := fun k => match k with
  | 0 => .int
  | 1 => .int
  | 2 => .int
  | 3 => .int
  | 4 => .int
  | 5 => .int
  | 6 => .int
  | _ => .int
theorem nmX4 : ∀ a, a < 8 → ∀ b, b < 8 → a ≠ b → (TX4 a).2.1 ≠ (TX4 b).2.1 := by decide +kernel
theorem tyX4_ok : ∀ k, k < 8 → parseFieldDescriptor (TX4 k).2.2.1 = some (tyX4 k) := by decide +kernel
abbrev cX4_init : ByteArray := prog_6_method_1_code
def yX4_init : MethodName := ⟨RX4, "<init>", "()V"⟩
abbrev cX4_begin : ByteArray := prog_6_method_2_code
def yX4_begin : MethodName := ⟨RX4, "begin", "(II)V"⟩
abbrev cX4_fill : ByteArray := prog_6_method_3_code
def yX4_fill : MethodName := ⟨RX4, "fill", "(I)V"⟩
abbrev cX4_pieceCount : ByteArray := prog_6_method_4_code
def yX4_pieceCount : MethodName := ⟨RX4, "pieceCount", "()I"⟩
abbrev cX4_digitAt : ByteArray := prog_6_method_5_code
def yX4_digitAt : MethodName := ⟨RX4, "digitAt", "(I)C"⟩
def RX5 : String := "TypeWorkshop$State"
def TX5 : u_T := fun k => match k with
  | 0 => ("TypeWorkshop$State", "inCases", "[I", true)
  | 1 => ("TypeWorkshop$State", "worn", "[I", true)
  | 2 => ("TypeWorkshop$State", "jobs", "[LTypeWorkshop$Job;", true)
  | 3 => ("TypeWorkshop$State", "caseCount", "I", false)
  | 4 => ("TypeWorkshop$State", "jobCount", "I", false)
  | 5 => ("TypeWorkshop$State", "pot", "I", false)
  | 6 => ("TypeWorkshop$State", "day", "I", false)
  | 7 => ("TypeWorkshop$State", "bought", "I", false)
  | 8 => ("TypeWorkshop$State", "dross", "I", false)
  | 9 => ("TypeWorkshop$State", "castPieces", "I", false)
  | _ => ("TypeWorkshop$State", "meltedPieces", "I", false)
def tyX5 : Nat → FieldType := fun k => match k with
  | 0 => .array .int
  | 1 => .array .int
  | 2 => .array (.object "TypeWorkshop$Job")
  | 3 => .int
  | 4 => .int
  | 5 => .int
  | 6 => .int
  | 7 => .int
  | 8 => .int
  | 9 => .int
  | _ => .int
theorem nmX5 : ∀ a, a < 11 → ∀ b, b < 11 → a ≠ b → (TX5 a).2.1 ≠ (TX5 b).2.1 := by decide +kernel
theorem tyX5_ok : ∀ k, k < 11 → parseFieldDescriptor (TX5 k).2.2.1 = some (tyX5 k) := by decide +kernel
abbrev cX5_init : ByteArray := prog_7_method_1_code
def yX5_init : MethodName := ⟨RX5, "<init>", "()V"⟩
abbrev cX5_copyFrom : ByteArray := prog_7_method_2_code
def yX5_copyFrom : MethodName := ⟨RX5, "copyFrom", "(LTypeWorkshop$State;)V"⟩
abbrev cX5_findJob : ByteArray := prog_7_method_3_code
def yX5_findJob : MethodName := ⟨RX5, "findJob", "(I)LTypeWorkshop$Job;"⟩
abbrev cX5_putJob : ByteArray := prog_7_method_4_code
def yX5_putJob : MethodName := ⟨RX5, "putJob", "(ILTypeWorkshop$Job;)V"⟩
abbrev cX5_held : ByteArray := prog_7_method_5_code
def yX5_held : MethodName := ⟨RX5, "held", "(II)I"⟩
abbrev cX5_heldInAll : ByteArray := prog_7_method_6_code
def yX5_heldInAll : MethodName := ⟨RX5, "heldInAll", "(I)I"⟩
abbrev cX5_put : ByteArray := prog_7_method_7_code
def yX5_put : MethodName := ⟨RX5, "put", "(III)V"⟩
abbrev cX5_wornPieces : ByteArray := prog_7_method_8_code
def yX5_wornPieces : MethodName := ⟨RX5, "wornPieces", "()I"⟩
abbrev cX5_wornMetal : ByteArray := prog_7_method_9_code
def yX5_wornMetal : MethodName := ⟨RX5, "wornMetal", "()I"⟩
abbrev cX5_emptyWornBox : ByteArray := prog_7_method_10_code
def yX5_emptyWornBox : MethodName := ⟨RX5, "emptyWornBox", "()V"⟩
abbrev cX5_metalInCases : ByteArray := prog_7_method_11_code
def yX5_metalInCases : MethodName := ⟨RX5, "metalInCases", "()I"⟩
abbrev cX5_metalInFormes : ByteArray := prog_7_method_12_code
def yX5_metalInFormes : MethodName := ⟨RX5, "metalInFormes", "()I"⟩
abbrev cX5_allDaysLate : ByteArray := prog_7_method_13_code
def yX5_allDaysLate : MethodName := ⟨RX5, "allDaysLate", "()I"⟩
abbrev cX5_overdueJobs : ByteArray := prog_7_method_14_code
def yX5_overdueJobs : MethodName := ⟨RX5, "overdueJobs", "()I"⟩
def RX6 : String := "TypeWorkshop"
def TX6 : u_T := fun k => match k with
  | 0 => ("TypeWorkshop", "draft", "LTypeWorkshop$Draft;", true)
  | 1 => ("TypeWorkshop", "now", "LTypeWorkshop$State;", true)
  | 2 => ("TypeWorkshop", "history", "[LTypeWorkshop$State;", true)
  | 3 => ("TypeWorkshop", "historyLength", "I", false)
  | 4 => ("TypeWorkshop", "snapshot", "LTypeWorkshop$State;", false)
  | 5 => ("TypeWorkshop", "spacer", "LTypeWorkshop$Spacer;", true)
  | 6 => ("TypeWorkshop", "needed", "[I", true)
  | 7 => ("TypeWorkshop", "available", "[I", true)
  | _ => ("TypeWorkshop", "wanted", "[I", true)
def tyX6 : Nat → FieldType := fun k => match k with
  | 0 => .object "TypeWorkshop$Draft"
  | 1 => .object "TypeWorkshop$State"
  | 2 => .array (.object "TypeWorkshop$State")
  | 3 => .int
  | 4 => .object "TypeWorkshop$State"
  | 5 => .object "TypeWorkshop$Spacer"
  | 6 => .array .int
  | 7 => .array .int
  | _ => .array .int
theorem nmX6 : ∀ a, a < 9 → ∀ b, b < 9 → a ≠ b → (TX6 a).2.1 ≠ (TX6 b).2.1 := by decide +kernel
theorem tyX6_ok : ∀ k, k < 9 → parseFieldDescriptor (TX6 k).2.2.1 = some (tyX6 k) := by decide +kernel
abbrev cX6_init : ByteArray := prog_1_method_1_code
def yX6_init : MethodName := ⟨RX6, "<init>", "()V"⟩
abbrev cX6_buy : ByteArray := prog_1_method_2_code
def yX6_buy : MethodName := ⟨RX6, "buy", "(I)I"⟩
abbrev cX6_addCase : ByteArray := prog_1_method_3_code
def yX6_addCase : MethodName := ⟨RX6, "addCase", "()I"⟩
abbrev cX6_cast : ByteArray := prog_1_method_4_code
def yX6_cast : MethodName := ⟨RX6, "cast", "(III)I"⟩
abbrev cX6_castFount : ByteArray := prog_1_method_5_code
def yX6_castFount : MethodName := ⟨RX6, "castFount", "(II)I"⟩
abbrev cX6_melt : ByteArray := prog_1_method_6_code
def yX6_melt : MethodName := ⟨RX6, "melt", "(III)I"⟩
abbrev cX6_meltBox : ByteArray := prog_1_method_7_code
def yX6_meltBox : MethodName := ⟨RX6, "meltBox", "()I"⟩
abbrev cX6_type : ByteArray := prog_1_method_8_code
def yX6_type : MethodName := ⟨RX6, "type", "(C)I"⟩
abbrev cX6_clearText : ByteArray := prog_1_method_9_code
def yX6_clearText : MethodName := ⟨RX6, "clearText", "()I"⟩
abbrev cX6_order : ByteArray := prog_1_method_10_code
def yX6_order : MethodName := ⟨RX6, "order", "(III)I"⟩
abbrev cX6_set : ByteArray := prog_1_method_11_code
def yX6_set : MethodName := ⟨RX6, "set", "(I)I"⟩
abbrev cX6_castMissing : ByteArray := prog_1_method_12_code
def yX6_castMissing : MethodName := ⟨RX6, "castMissing", "(I)I"⟩
abbrev cX6_print : ByteArray := prog_1_method_13_code
def yX6_print : MethodName := ⟨RX6, "print", "(I)I"⟩
abbrev cX6_distribute : ByteArray := prog_1_method_14_code
def yX6_distribute : MethodName := ⟨RX6, "distribute", "(I)I"⟩
abbrev cX6_cancel : ByteArray := prog_1_method_15_code
def yX6_cancel : MethodName := ⟨RX6, "cancel", "(I)I"⟩
abbrev cX6_pass : ByteArray := prog_1_method_16_code
def yX6_pass : MethodName := ⟨RX6, "pass", "(I)I"⟩
abbrev cX6_undo : ByteArray := prog_1_method_17_code
def yX6_undo : MethodName := ⟨RX6, "undo", "()I"⟩
abbrev cX6_keep : ByteArray := prog_1_method_18_code
def yX6_keep : MethodName := ⟨RX6, "keep", "()I"⟩
abbrev cX6_restore : ByteArray := prog_1_method_19_code
def yX6_restore : MethodName := ⟨RX6, "restore", "()I"⟩
abbrev cX6_pieces : ByteArray := prog_1_method_20_code
def yX6_pieces : MethodName := ⟨RX6, "pieces", "(II)I"⟩
abbrev cX6_job : ByteArray := prog_1_method_21_code
def yX6_job : MethodName := ⟨RX6, "job", "(II)I"⟩
abbrev cX6_need : ByteArray := prog_1_method_22_code
def yX6_need : MethodName := ⟨RX6, "need", "(II)I"⟩
abbrev cX6_missing : ByteArray := prog_1_method_23_code
def yX6_missing : MethodName := ⟨RX6, "missing", "(II)I"⟩
abbrev cX6_taken : ByteArray := prog_1_method_24_code
def yX6_taken : MethodName := ⟨RX6, "taken", "(III)I"⟩
abbrev cX6_gap : ByteArray := prog_1_method_25_code
def yX6_gap : MethodName := ⟨RX6, "gap", "(III)I"⟩
abbrev cX6_pieceAt : ByteArray := prog_1_method_26_code
def yX6_pieceAt : MethodName := ⟨RX6, "pieceAt", "(III)I"⟩
abbrev cX6_urgent : ByteArray := prog_1_method_27_code
def yX6_urgent : MethodName := ⟨RX6, "urgent", "()I"⟩
abbrev cX6_count : ByteArray := prog_1_method_28_code
def yX6_count : MethodName := ⟨RX6, "count", "(I)I"⟩
abbrev cX6_isCase : ByteArray := prog_1_method_29_code
def yX6_isCase : MethodName := ⟨RX6, "isCase", "(I)Z"⟩
abbrev cX6_isSort : ByteArray := prog_1_method_30_code
def yX6_isSort : MethodName := ⟨RX6, "isSort", "(I)Z"⟩
abbrev cX6_isLetter : ByteArray := prog_1_method_31_code
def yX6_isLetter : MethodName := ⟨RX6, "isLetter", "(C)Z"⟩
abbrev cX6_widthOf : ByteArray := prog_1_method_32_code
def yX6_widthOf : MethodName := ⟨RX6, "widthOf", "(I)I"⟩
abbrev cX6_recordState : ByteArray := prog_1_method_33_code
def yX6_recordState : MethodName := ⟨RX6, "recordState", "()V"⟩
abbrev cX6_dropOldestState : ByteArray := prog_1_method_34_code
def yX6_dropOldestState : MethodName := ⟨RX6, "dropOldestState", "()V"⟩
abbrev cX6_castWanted : ByteArray := prog_1_method_35_code
def yX6_castWanted : MethodName := ⟨RX6, "castWanted", "(I)I"⟩
abbrev cX6_reckon : ByteArray := prog_1_method_36_code
def yX6_reckon : MethodName := ⟨RX6, "reckon", "(LTypeWorkshop$Job;)V"⟩
abbrev cX6_missingOf : ByteArray := prog_1_method_37_code
def yX6_missingOf : MethodName := ⟨RX6, "missingOf", "(I)I"⟩
abbrev cX6_takeNeeded : ByteArray := prog_1_method_38_code
def yX6_takeNeeded : MethodName := ⟨RX6, "takeNeeded", "(I)[I"⟩
abbrev cX6_takePieces : ByteArray := prog_1_method_39_code
def yX6_takePieces : MethodName := ⟨RX6, "takePieces", "([IIII)I"⟩
abbrev cX6_slotOf : ByteArray := prog_1_method_40_code
def yX6_slotOf : MethodName := ⟨RX6, "slotOf", "(II)I"⟩
abbrev cX6_giveBack : ByteArray := prog_1_method_41_code
def yX6_giveBack : MethodName := ⟨RX6, "giveBack", "(LTypeWorkshop$Job;Z)I"⟩
abbrev cX6_findPiece : ByteArray := prog_1_method_42_code
def yX6_findPiece : MethodName := ⟨RX6, "findPiece", "(LTypeWorkshop$Job;II)I"⟩
def RX7 : String := "TypeWorkshopModel"
def TX7 : u_T := fun k => match k with
  | 0 => ("TypeWorkshopModel", "now", "[I", true)
  | 1 => ("TypeWorkshopModel", "history", "[I", true)
  | 2 => ("TypeWorkshopModel", "kept", "I", false)
  | 3 => ("TypeWorkshopModel", "slot", "[I", true)
  | 4 => ("TypeWorkshopModel", "isFilled", "Z", false)
  | 5 => ("TypeWorkshopModel", "typed", "I", false)
  | 6 => ("TypeWorkshopModel", "text", "[I", true)
  | 7 => ("TypeWorkshopModel", "worked", "I", false)
  | 8 => ("TypeWorkshopModel", "work", "[I", true)
  | 9 => ("TypeWorkshopModel", "lines", "I", false)
  | 10 => ("TypeWorkshopModel", "letters", "I", false)
  | 11 => ("TypeWorkshopModel", "gaps", "I", false)
  | 12 => ("TypeWorkshopModel", "lineFrom", "[I", true)
  | 13 => ("TypeWorkshopModel", "lineEnd", "[I", true)
  | 14 => ("TypeWorkshopModel", "firstGap", "[I", true)
  | 15 => ("TypeWorkshopModel", "gapWide", "[I", true)
  | 16 => ("TypeWorkshopModel", "isTooWide", "Z", false)
  | 17 => ("TypeWorkshopModel", "needs", "[I", true)
  | 18 => ("TypeWorkshopModel", "there", "[I", true)
  | 19 => ("TypeWorkshopModel", "fours", "[I", true)
  | 20 => ("TypeWorkshopModel", "twos", "[I", true)
  | _ => ("TypeWorkshopModel", "ones", "[I", true)
def tyX7 : Nat → FieldType := fun k => match k with
  | 0 => .array .int
  | 1 => .array .int
  | 2 => .int
  | 3 => .array .int
  | 4 => .boolean
  | 5 => .int
  | 6 => .array .int
  | 7 => .int
  | 8 => .array .int
  | 9 => .int
  | 10 => .int
  | 11 => .int
  | 12 => .array .int
  | 13 => .array .int
  | 14 => .array .int
  | 15 => .array .int
  | 16 => .boolean
  | 17 => .array .int
  | 18 => .array .int
  | 19 => .array .int
  | 20 => .array .int
  | _ => .array .int
theorem nmX7 : ∀ a, a < 22 → ∀ b, b < 22 → a ≠ b → (TX7 a).2.1 ≠ (TX7 b).2.1 := by decide +kernel
theorem tyX7_ok : ∀ k, k < 22 → parseFieldDescriptor (TX7 k).2.2.1 = some (tyX7 k) := by decide +kernel
abbrev cX7_init : ByteArray := prog_9_method_1_code
def yX7_init : MethodName := ⟨RX7, "<init>", "()V"⟩
abbrev cX7_in : ByteArray := prog_9_method_2_code
def yX7_in : MethodName := ⟨RX7, "in", "(III)Z"⟩
abbrev cX7_record : ByteArray := prog_9_method_3_code
def yX7_record : MethodName := ⟨RX7, "record", "()V"⟩
abbrev cX7_width : ByteArray := prog_9_method_4_code
def yX7_width : MethodName := ⟨RX7, "width", "(I)I"⟩
abbrev cX7_noCase : ByteArray := prog_9_method_5_code
def yX7_noCase : MethodName := ⟨RX7, "noCase", "(I)Z"⟩
abbrev cX7_noSort : ByteArray := prog_9_method_6_code
def yX7_noSort : MethodName := ⟨RX7, "noSort", "(I)Z"⟩
abbrev cX7_noJob : ByteArray := prog_9_method_7_code
def yX7_noJob : MethodName := ⟨RX7, "noJob", "(I)Z"⟩
abbrev cX7_has : ByteArray := prog_9_method_8_code
def yX7_has : MethodName := ⟨RX7, "has", "(II)I"⟩
abbrev cX7_ofJob : ByteArray := prog_9_method_9_code
def yX7_ofJob : MethodName := ⟨RX7, "ofJob", "(II)I"⟩
abbrev cX7_put : ByteArray := prog_9_method_10_code
def yX7_put : MethodName := ⟨RX7, "put", "(III)V"⟩
abbrev cX7_inForme : ByteArray := prog_9_method_11_code
def yX7_inForme : MethodName := ⟨RX7, "inForme", "(III)I"⟩
abbrev cX7_buy : ByteArray := prog_9_method_12_code
def yX7_buy : MethodName := ⟨RX7, "buy", "(I)I"⟩
abbrev cX7_addCase : ByteArray := prog_9_method_13_code
def yX7_addCase : MethodName := ⟨RX7, "addCase", "()I"⟩
abbrev cX7_casts : ByteArray := prog_9_method_14_code
def yX7_casts : MethodName := ⟨RX7, "casts", "(III)V"⟩
abbrev cX7_cast : ByteArray := prog_9_method_15_code
def yX7_cast : MethodName := ⟨RX7, "cast", "(III)I"⟩
abbrev cX7_castFount : ByteArray := prog_9_method_16_code
def yX7_castFount : MethodName := ⟨RX7, "castFount", "(II)I"⟩
abbrev cX7_melt : ByteArray := prog_9_method_17_code
def yX7_melt : MethodName := ⟨RX7, "melt", "(III)I"⟩
abbrev cX7_inBox : ByteArray := prog_9_method_18_code
def yX7_inBox : MethodName := ⟨RX7, "inBox", "()I"⟩
abbrev cX7_boxMetal : ByteArray := prog_9_method_19_code
def yX7_boxMetal : MethodName := ⟨RX7, "boxMetal", "()I"⟩
abbrev cX7_meltBox : ByteArray := prog_9_method_20_code
def yX7_meltBox : MethodName := ⟨RX7, "meltBox", "()I"⟩
abbrev cX7_type : ByteArray := prog_9_method_21_code
def yX7_type : MethodName := ⟨RX7, "type", "(C)I"⟩
abbrev cX7_clearText : ByteArray := prog_9_method_22_code
def yX7_clearText : MethodName := ⟨RX7, "clearText", "()I"⟩
abbrev cX7_isLetter : ByteArray := prog_9_method_23_code
def yX7_isLetter : MethodName := ⟨RX7, "isLetter", "(I)Z"⟩
abbrev cX7_faultOf : ByteArray := prog_9_method_24_code
def yX7_faultOf : MethodName := ⟨RX7, "faultOf", "()I"⟩
abbrev cX7_layLine : ByteArray := prog_9_method_25_code
def yX7_layLine : MethodName := ⟨RX7, "layLine", "(III)V"⟩
abbrev cX7_layLines : ByteArray := prog_9_method_26_code
def yX7_layLines : MethodName := ⟨RX7, "layLines", "(I)V"⟩
abbrev cX7_layJob : ByteArray := prog_9_method_27_code
def yX7_layJob : MethodName := ⟨RX7, "layJob", "(I)V"⟩
abbrev cX7_least : ByteArray := prog_9_method_28_code
def yX7_least : MethodName := ⟨RX7, "least", "(II)I"⟩
abbrev cX7_hasForme : ByteArray := prog_9_method_29_code
def yX7_hasForme : MethodName := ⟨RX7, "hasForme", "(I)Z"⟩
abbrev cX7_layNeeds : ByteArray := prog_9_method_30_code
def yX7_layNeeds : MethodName := ⟨RX7, "layNeeds", "(I)V"⟩
abbrev cX7_lacks : ByteArray := prog_9_method_31_code
def yX7_lacks : MethodName := ⟨RX7, "lacks", "(I)I"⟩
abbrev cX7_allLacks : ByteArray := prog_9_method_32_code
def yX7_allLacks : MethodName := ⟨RX7, "allLacks", "()I"⟩
abbrev cX7_order : ByteArray := prog_9_method_33_code
def yX7_order : MethodName := ⟨RX7, "order", "(III)I"⟩
abbrev cX7_takes : ByteArray := prog_9_method_34_code
def yX7_takes : MethodName := ⟨RX7, "takes", "(II)I"⟩
abbrev cX7_set : ByteArray := prog_9_method_35_code
def yX7_set : MethodName := ⟨RX7, "set", "(I)I"⟩
abbrev cX7_castMissing : ByteArray := prog_9_method_36_code
def yX7_castMissing : MethodName := ⟨RX7, "castMissing", "(I)I"⟩
abbrev cX7_print : ByteArray := prog_9_method_37_code
def yX7_print : MethodName := ⟨RX7, "print", "(I)I"⟩
abbrev cX7_goBack : ByteArray := prog_9_method_38_code
def yX7_goBack : MethodName := ⟨RX7, "goBack", "(II)I"⟩
abbrev cX7_distribute : ByteArray := prog_9_method_39_code
def yX7_distribute : MethodName := ⟨RX7, "distribute", "(I)I"⟩
abbrev cX7_inFormeOf : ByteArray := prog_9_method_40_code
def yX7_inFormeOf : MethodName := ⟨RX7, "inFormeOf", "(IZ)I"⟩
abbrev cX7_cancel : ByteArray := prog_9_method_41_code
def yX7_cancel : MethodName := ⟨RX7, "cancel", "(I)I"⟩
abbrev cX7_pass : ByteArray := prog_9_method_42_code
def yX7_pass : MethodName := ⟨RX7, "pass", "(I)I"⟩
abbrev cX7_undo : ByteArray := prog_9_method_43_code
def yX7_undo : MethodName := ⟨RX7, "undo", "()I"⟩
abbrev cX7_keep : ByteArray := prog_9_method_44_code
def yX7_keep : MethodName := ⟨RX7, "keep", "()I"⟩
abbrev cX7_restore : ByteArray := prog_9_method_45_code
def yX7_restore : MethodName := ⟨RX7, "restore", "()I"⟩
abbrev cX7_pieces : ByteArray := prog_9_method_46_code
def yX7_pieces : MethodName := ⟨RX7, "pieces", "(II)I"⟩
abbrev cX7_job : ByteArray := prog_9_method_47_code
def yX7_job : MethodName := ⟨RX7, "job", "(II)I"⟩
abbrev cX7_need : ByteArray := prog_9_method_48_code
def yX7_need : MethodName := ⟨RX7, "need", "(II)I"⟩
abbrev cX7_missing : ByteArray := prog_9_method_49_code
def yX7_missing : MethodName := ⟨RX7, "missing", "(II)I"⟩
abbrev cX7_taken : ByteArray := prog_9_method_50_code
def yX7_taken : MethodName := ⟨RX7, "taken", "(III)I"⟩
abbrev cX7_gap : ByteArray := prog_9_method_51_code
def yX7_gap : MethodName := ⟨RX7, "gap", "(III)I"⟩
abbrev cX7_spaceAt : ByteArray := prog_9_method_52_code
def yX7_spaceAt : MethodName := ⟨RX7, "spaceAt", "(II)I"⟩
abbrev cX7_spaces : ByteArray := prog_9_method_53_code
def yX7_spaces : MethodName := ⟨RX7, "spaces", "(I)I"⟩
abbrev cX7_pieceAt : ByteArray := prog_9_method_54_code
def yX7_pieceAt : MethodName := ⟨RX7, "pieceAt", "(III)I"⟩
abbrev cX7_isToDo : ByteArray := prog_9_method_55_code
def yX7_isToDo : MethodName := ⟨RX7, "isToDo", "(I)Z"⟩
abbrev cX7_urgent : ByteArray := prog_9_method_56_code
def yX7_urgent : MethodName := ⟨RX7, "urgent", "()I"⟩
abbrev cX7_caseMetal : ByteArray := prog_9_method_57_code
def yX7_caseMetal : MethodName := ⟨RX7, "caseMetal", "()I"⟩
abbrev cX7_formeMetal : ByteArray := prog_9_method_58_code
def yX7_formeMetal : MethodName := ⟨RX7, "formeMetal", "()I"⟩
abbrev cX7_lateDays : ByteArray := prog_9_method_59_code
def yX7_lateDays : MethodName := ⟨RX7, "lateDays", "()I"⟩
abbrev cX7_pastDue : ByteArray := prog_9_method_60_code
def yX7_pastDue : MethodName := ⟨RX7, "pastDue", "()I"⟩
abbrev cX7_count : ByteArray := prog_9_method_61_code
def yX7_count : MethodName := ⟨RX7, "count", "(I)I"⟩
def RJ9 : String := "java/lang/Math"
def TJ9 : u_T := fun k => match k with
  | _ => ("", "", "", false)
def tyJ9 : Nat → FieldType := fun k => match k with
  | _ => .int
theorem nmJ9 : ∀ a, a < 0 → ∀ b, b < 0 → a ≠ b → (TJ9 a).2.1 ≠ (TJ9 b).2.1 := by decide +kernel
theorem tyJ9_ok : ∀ k, k < 0 → parseFieldDescriptor (TJ9 k).2.2.1 = some (tyJ9 k) := by decide +kernel
abbrev cJ9_max_7cf53 : ByteArray := prog_10_method_65_code
def yJ9_max_7cf53 : MethodName := ⟨RJ9, "max", "(II)I"⟩
abbrev cJ9_min_7cf53 : ByteArray := prog_10_method_69_code
def yJ9_min_7cf53 : MethodName := ⟨RJ9, "min", "(II)I"⟩
def RJ10 : String := "java/lang/System"
def TJ10 : u_T := fun k => match k with
  | _ => ("", "", "", false)
def tyJ10 : Nat → FieldType := fun k => match k with
  | _ => .int
theorem nmJ10 : ∀ a, a < 0 → ∀ b, b < 0 → a ≠ b → (TJ10 a).2.1 ≠ (TJ10 b).2.1 := by decide +kernel
theorem tyJ10_ok : ∀ k, k < 0 → parseFieldDescriptor (TJ10 k).2.2.1 = some (tyJ10 k) := by decide +kernel
def RL : String := "TypeWorkshopLaw"
abbrev cL_law : ByteArray := code
def yL_law : MethodName := ⟨RL, "law", "([I)Z"⟩
end
section
/-! the pure heap: contents by cell code (address + 1; 0 is null) and place -/
def lwG : List Cond := lw_tbl.filter goodWord
theorem lwm (i : Nat) {w : Cond} (h : lw_tbl[i]? = some w) (hg : goodWord w = true) : w ∈ lwG := List.mem_filter.mpr ⟨List.mem_of_getElem? h, hg⟩
theorem lwG_good (w : Cond) (h : w ∈ lwG) : goodWord w = true := (List.mem_filter.mp h).2
abbrev Hp : Type := (Nat → Nat → Int32) × (Nat → Nat → Nat) × (Nat → Nat) × (Nat → Nat)
def hI (h : Hp) (c i : Nat) : Int32 := h.1 c i
def hR (h : Hp) (c i : Nat) : Nat := h.2.1 c i
def hK (h : Hp) (c : Nat) : Nat := h.2.2.1 c
def hL (h : Hp) (c : Nat) : Nat := h.2.2.2 c
def sI (h : Hp) (c i : Nat) (v : Int32) : Hp := (fun x j => if x = c ∧ j = i then v else h.1 x j, h.2.1, h.2.2.1, h.2.2.2)
def sR (h : Hp) (c i : Nat) (v : Nat) : Hp := (h.1, fun x j => if x = c ∧ j = i then v else h.2.1 x j, h.2.2.1, h.2.2.2)
def nN (h : Hp) (q k n : Nat) : Hp := (fun x j => if x = q then 0 else h.1 x j, fun x j => if x = q then 0 else h.2.1 x j, fun x => if x = q then k else h.2.2.1 x, fun x => if x = q then n else h.2.2.2 x)
def cpI (h : Hp) (a sp b dp n : Nat) : Hp := (fun x j => if x = b ∧ dp ≤ j ∧ j < dp + n then h.1 a (sp + (j - dp)) else h.1 x j, h.2.1, h.2.2.1, h.2.2.2)
def ix (i : Int32) : Nat := i.toNatClampNeg
/-- what a char keeps of an int -/
def cn (x : Int32) : Int32 := (x.toUInt32 % 65536).toInt32
theorem hI_sI (h : Hp) (c i : Nat) (v : Int32) (x j : Nat) : hI (sI h c i v) x j = if x = c ∧ j = i then v else hI h x j := rfl
theorem hR_sI (h : Hp) (c i : Nat) (v : Int32) (x j : Nat) : hR (sI h c i v) x j = hR h x j := rfl
theorem hK_sI (h : Hp) (c i : Nat) (v : Int32) (x : Nat) : hK (sI h c i v) x = hK h x := rfl
theorem hL_sI (h : Hp) (c i : Nat) (v : Int32) (x : Nat) : hL (sI h c i v) x = hL h x := rfl
theorem hI_sR (h : Hp) (c i : Nat) (v : Nat) (x j : Nat) : hI (sR h c i v) x j = hI h x j := rfl
theorem hR_sR (h : Hp) (c i : Nat) (v : Nat) (x j : Nat) : hR (sR h c i v) x j = if x = c ∧ j = i then v else hR h x j := rfl
theorem hK_sR (h : Hp) (c i : Nat) (v : Nat) (x : Nat) : hK (sR h c i v) x = hK h x := rfl
theorem hL_sR (h : Hp) (c i : Nat) (v : Nat) (x : Nat) : hL (sR h c i v) x = hL h x := rfl
theorem hI_nN (h : Hp) (q k n x j : Nat) : hI (nN h q k n) x j = if x = q then 0 else hI h x j := rfl
theorem hR_nN (h : Hp) (q k n x j : Nat) : hR (nN h q k n) x j = if x = q then 0 else hR h x j := rfl
theorem hK_nN (h : Hp) (q k n x : Nat) : hK (nN h q k n) x = if x = q then k else hK h x := rfl
theorem hL_nN (h : Hp) (q k n x : Nat) : hL (nN h q k n) x = if x = q then n else hL h x := rfl
theorem hI_cp (h : Hp) (a sp b dp n x j : Nat) : hI (cpI h a sp b dp n) x j = if x = b ∧ dp ≤ j ∧ j < dp + n then hI h a (sp + (j - dp)) else hI h x j := rfl
theorem hR_cp (h : Hp) (a sp b dp n x j : Nat) : hR (cpI h a sp b dp n) x j = hR h x j := rfl
theorem hK_cp (h : Hp) (a sp b dp n x : Nat) : hK (cpI h a sp b dp n) x = hK h x := rfl
theorem hL_cp (h : Hp) (a sp b dp n x : Nat) : hL (cpI h a sp b dp n) x = hL h x := rfl
/-! references -/
def oc : Nat → Option Nat
  | 0 => none
  | a + 1 => some a
def rv (c : Nat) : Value := va_rf (oc c)
theorem rv_0 : rv 0 = .null := rfl
theorem rv_s (a : Nat) : rv (a + 1) = .ref a := rfl
theorem rv_cat (c : Nat) : (rv c).category = 1 := by cases c <;> rfl
theorem rv_or (c : Nat) : rv c = .null ∨ ∃ a, rv c = .ref a := by cases c <;> first | exact Or.inl rfl | exact Or.inr ⟨_, rfl⟩
/-! the classes: which slots are references -/
def cls : List vw_C := [(RX0, TX0, 2), (RX1, TX1, 4), (RX2, TX2, 9), (RX3, TX3, 4), (RX4, TX4, 8), (RX5, TX5, 11), (RX6, TX6, 9), (RX7, TX7, 22)]
def isrf (t : FieldType) : Bool := match t with
  | .object _ => true
  | .array _ => true
  | _ => false
def ctys : List (Nat → FieldType) := [tyX0, tyX1, tyX2, tyX3, tyX4, tyX5, tyX6, tyX7]
def rfk (c k : Nat) : Bool := match ctys[c]? with
  | some t => isrf (t k)
  | none => false
/-- kinds: a class's number + 1; 20 int[], 21 char[], 22 Job[], 23 State[], 30 the reference's int[] -/
def acd (k : Nat) : Nat := if k = 21 then 1 else if k = 22 then 2 else if k = 23 then 3 else 0
def aty (d : Nat) : FieldType := if d = 1 then .char else if d = 2 then .object RX1 else if d = 3 then .object RX5 else .int
abbrev Ev : Type := va_G × (Nat → ClassId) × Nat × Heap
def sv (h : Hp) (c i : Nat) (r : Bool) : Value := if r = true then rv (hR h c i) else .int (hI h c i)
def cellOk (E : Ev) (h : Hp) (H : Heap) (c : Nat) : Prop :=
  if hK h c < 20 then ∃ r : vw_C, cls[hK h c - 1]? = some r ∧ t_OB (c - 1) (E.1.1 (hK h c - 1)) r.2.2 (E.1.2 (hK h c - 1)) H (fun k => sv h c k (rfk (hK h c - 1) k))
  else H[c - 1]? = some (arrV (E.2.1 (acd (hK h c))) (hL h c) (fun i => sv h c i (decide (2 ≤ acd (hK h c)))))
def Rep (E : Ev) (h : Hp) (H : Heap) : Prop := hK h 0 = 0 ∧ E.2.2.1 ≤ H.size ∧ (∀ q : Nat, q < E.2.2.1 → H[q]? = E.2.2.2[q]?) ∧ ∀ c, hK h c ≠ 0 → E.2.2.1 ≤ c - 1 ∧ cellOk E h H c
theorem cellOk.lt {E : Ev} {h : Hp} {H : Heap} {c : Nat} (x : cellOk E h H c) : c - 1 < H.size := by
  unfold cellOk at x
  split at x
  · obtain ⟨r, -, cell, h2, -⟩ := x
    exact (Array.getElem?_eq_some_iff.mp h2).1
  · exact (Array.getElem?_eq_some_iff.mp x).1
theorem cellOk.same {E : Ev} {h h1 : Hp} {H H1 : Heap} {c : Nat} (x : cellOk E h H c) (k : hK h1 c = hK h c) (n : hL h1 c = hL h c) (i : ∀ j, hI h1 c j = hI h c j) (r : ∀ j, hR h1 c j = hR h c j) (q : H1[c - 1]? = H[c - 1]?) : cellOk E h1 H1 c := by
  have e : ∀ (j : Nat) (b : Bool), sv h1 c j b = sv h c j b := fun j b => by unfold sv; rw [i, r]
  unfold cellOk at x ⊢
  rw [k]
  split at x
  · rename_i hk
    rw [if_pos hk]
    obtain ⟨r0, g1, g2⟩ := x
    exact ⟨r0, g1, (g2.kept q).to (fun j _ => (e j _).symm)⟩
  · rename_i hk
    rw [if_neg hk, q, n, x]
    congr 2
    funext j
    exact (e j _).symm
theorem Rep.code {E : Ev} {h : Hp} {H : Heap} (x : Rep E h H) {c : Nat} (k : hK h c ≠ 0) : ∃ a, c = a + 1 := by
  cases c with
  | zero => exact absurd x.1 k
  | succ a => exact ⟨a, rfl⟩
/-- one cell is written -/
theorem Rep.put {E : Ev} {h h1 : Hp} {H H1 : Heap} {c : Nat} (x : Rep E h H) (k0 : hK h c ≠ 0) (k : ∀ d, hK h1 d = hK h d) (n : ∀ d, hL h1 d = hL h d) (i : ∀ d, d ≠ c → ∀ j, hI h1 d j = hI h d j) (r : ∀ d, d ≠ c → ∀ j, hR h1 d j = hR h d j)
    (z : H1.size = H.size) (o : ∀ q : Nat, q ≠ c - 1 → H1[q]? = H[q]?) (y : cellOk E h1 H1 c) : Rep E h1 H1 := by
  obtain ⟨a0, rfl⟩ := x.code k0
  refine ⟨by rw [k]; exact x.1, by rw [z]; exact x.2.1, fun q hq => ?_, fun d hd => ?_⟩
  · have := (x.2.2.2 _ k0).1
    rw [o q (by omega)]
    exact x.2.2.1 q hq
  · rw [k] at hd
    refine ⟨(x.2.2.2 d hd).1, ?_⟩
    by_cases e : d = a0 + 1
    · subst e; exact y
    · obtain ⟨d0, rfl⟩ := x.code hd
      exact (x.2.2.2 _ hd).2.same (k _) (n _) (i _ e) (r _ e) (o _ (by omega))
/-- one cell is made -/
theorem Rep.new {E : Ev} {h : Hp} {H H1 : Heap} {kd n : Nat} (x : Rep E h H) (hk : kd ≠ 0) (z : H1.size = H.size + 1) (o : ∀ q : Nat, q < H.size → H1[q]? = H[q]?) (y : cellOk E (nN h (H.size + 1) kd n) H1 (H.size + 1)) : hK h (H.size + 1) = 0 ∧ Rep E (nN h (H.size + 1) kd n) H1 := by
  have hz : hK h (H.size + 1) = 0 := by
    by_cases e : hK h (H.size + 1) = 0
    · exact e
    · have := (x.2.2.2 _ e).2.lt
      omega
  refine ⟨hz, ?_, by have := x.2.1; omega, fun q hq => ?_, fun d hd => ?_⟩
  · rw [hK_nN, if_neg (by omega)]; exact x.1
  · have := x.2.1
    rw [o q (by omega)]
    exact x.2.2.1 q hq
  · by_cases e : d = H.size + 1
    · subst e
      exact ⟨by have := x.2.1; omega, y⟩
    · rw [hK_nN, if_neg e] at hd
      obtain ⟨g1, g2⟩ := x.2.2.2 d hd
      refine ⟨g1, g2.same ?_ ?_ (fun j => ?_) (fun j => ?_) (o _ g2.lt)⟩
      · rw [hK_nN, if_neg e]
      · rw [hL_nN, if_neg e]
      · rw [hI_nN, if_neg e]
      · rw [hR_nN, if_neg e]
end
section
def nestT : List (String × Nat × MethodName × String) := [(RX6, 9, yX0_init, RX6), (RX6, 18, yX5_init, RX6), (RX6, 36, yX4_init, RX6), (RX5, 55, yX6_slotOf, RX6), (RX5, 62, yX6_widthOf, RX6), (RX0, 19, yX6_isLetter, RX6), (RX2, 60, yX6_isLetter, RX6), (RX2, 64, yX6_widthOf, RX6), (RX1, 37, yX6_slotOf, RX6), (RX1, 54, yX6_widthOf, RX6)]
def nestW (q : String × Nat × MethodName × String) : Cond := .methodLinkNest q.1 q.2.1 q.2.2.1 q.2.2.2
/-- what the tables say, of a state -/
def Kw (E : Ev) (s : State) : Prop := va_K E.1 cls [(E.2.1 0, aty 0), (E.2.1 1, aty 1), (E.2.1 2, aty 2), (E.2.1 3, aty 3)] s ∧ (∀ q ∈ nestT, va_Nw (nestW q) s) ∧ va_AO RX1 s ∧ va_AO RX5 s
theorem Kw.warm {E : Ev} {s U : State} (hW : s.WarmedH U.vm) (h : Kw E s) : Kw E U := ⟨va_K.moved hW.alike h.1, fun q hq => va_Nw.warmM hW (h.2.1 q hq), va_AO.moved hW.alike h.2.2.1, va_AO.moved hW.alike h.2.2.2⟩
theorem Kw.arr {E : Ev} {s : State} (h : Kw E s) {d : Nat} (hd : d < 4) : ArrOfT s (E.2.1 d) (aty d) ∧ va_RA s (E.2.1 d) (aty d) := by
  match d, hd with
  | 0, _ => exact h.1.2 0 _ rfl
  | 1, _ => exact h.1.2 1 _ rfl
  | 2, _ => exact h.1.2 2 _ rfl
  | 3, _ => exact h.1.2 3 _ rfl
theorem acd_lt (k : Nat) : acd k < 4 := by unfold acd; split <;> (try split) <;> (try split) <;> omega
def RU (E : Ev) (h : Hp) (U : State) : Prop := Rep E h U.heap ∧ Kw E U
/-- a method's contract: from every machine that holds h it returns v, and holds h1, as KK says -/
def Con (E : Ev) (l : Launch) (y : MethodName) (bytes : ByteArray) (maxL : Nat) (ret : Option FieldType) (rm : Room) (As : List Value) (h : Hp) (KK : Option Value → Hp → Prop) : Prop :=
  Met l y (.code y bytes maxL ret :: lwG) rm (va_Pc As (RU E h)) (fun _ _ o t => ∃ v h1, o = .returned v ∧ Rep E h1 t.heap ∧ KK v h1) rm.cells rm.slots (fun q => E.2.2.1 ≤ q)
abbrev Xt : Type := Program × Launch × Env × Room × State × MethodId × Array Value × List Frame × Method × Code × (State → Prop)
/-- locals by place; none: nothing is said -/
def LR (ls : Array Slot) (lo : List (Option Value)) : Prop := ls.size = lo.length ∧ lv_wf ls ∧ ∀ (i : Nat) (v : Value), lo[i]? = some (some v) → v.category = 1 ∧ ls[i]? = some (.val v)
def WW (E : Ev) (X : Xt) (h : Hp) (k n pc : Nat) (lo : List (Option Value)) (st : List Value) : Prop :=
  match X with
  | (p, l, e, R, s, m, args, below, meth, c, Q) => ∀ (H : Heap) (locs : List Loc) (ls : Array Slot), Rep E h H → (∀ q ∈ locs, E.2.2.1 ≤ q.base) → LR ls lo → W p l e R s m args below meth c H locs k n Q (F0 m pc ls st)
def Cx (E : Ev) (X : Xt) (l0 : Launch) (own : String) (code : ByteArray) (maxL : Nat) (rm : Room) : Prop :=
  match X with
  | (p, l, _, R, s, m, args, _, meth, c, _) => p.tables.exec = Jvm.exec ∧ c.code = code ∧ c.maxLocals = maxL ∧ s.vm.findClass own = some m.cls ∧ (∀ w ∈ lwG, w.before args s = true) ∧ Kw E s ∧ meth.locks = false ∧ R = rm ∧ l = l0
def CQ (E : Ev) (X : Xt) (nm : String) (ret : Option FieldType) (rm : Room) (KK : Option Value → Hp → Prop) : Prop :=
  match X with
  | (_, _, _, _, s, _, args, below, meth, _, Q) => meth.sig.returnType = ret ∧ meth.name = nm ∧ Q = MQ below (fun _ _ o t => ∃ v h1, o = .returned v ∧ Rep E h1 t.heap ∧ KK v h1) args s rm.cells rm.slots (fun q => E.2.2.1 ≤ q)
section LRs
theorem LR.has {ls : Array Slot} {lo : List (Option Value)} (h : LR ls lo) : lv_has ls lo.length ((List.range lo.length).filterMap (fun i => match lo[i]? with | some (some v) => some (i, v) | _ => none)) := by
  refine ⟨h.1, h.2.1, fun q hq => ?_⟩
  obtain ⟨i, -, hi⟩ := List.mem_filterMap.mp hq
  split at hi
  · rename_i v hv
    cases hi
    exact (h.2.2 i v hv).2
  · cases hi
theorem LR.get {ls : Array Slot} {lo : List (Option Value)} (h : LR ls lo) {i : Nat} {v : Value} (hi : lo[i]? = some (some v)) : ls[i]? = some (.val v) := (h.2.2 i v hi).2
theorem LR.set {ls : Array Slot} {lo : List (Option Value)} (h : LR ls lo) {i : Nat} {v : Value} (hc : v.category = 1) (hi : i < lo.length) : ∃ ls', storeLocals ls i v = some ls' ∧ LR ls' (lo.set i (some v)) := by
  obtain ⟨ls', e, h1, h2, h3⟩ := lv_store1 h.has hi hc
  refine ⟨ls', e, by rw [h1, List.length_set], h2, fun j w hj => ?_⟩
  by_cases hji : j = i
  · subst hji
    rw [List.getElem?_set_self hi] at hj
    cases hj
    exact ⟨hc, h3 _ List.mem_cons_self⟩
  · rw [List.getElem?_set_ne (Ne.symm hji)] at hj
    have hw := (h.2.2 j w hj).1
    refine ⟨hw, h3 (j, w) (List.mem_cons_of_mem _ (List.mem_filter.mpr ⟨List.mem_filterMap.mpr ⟨j, List.mem_range.mpr (List.getElem?_eq_some_iff.mp hj).1, by simp only [hj]⟩, ?_⟩))⟩
    simp only [Bool.and_eq_true, Bool.not_eq_true', beq_eq_false_iff_ne, ne_eq, Bool.and_eq_false_iff]
    exact ⟨hji, Or.inr (by omega)⟩
/-- fewer locals -/
def lsub : List (Option Value) → List (Option Value) → Prop
  | [], [] => True
  | a :: l, b :: m => (b = none ∨ b = a) ∧ lsub l m
  | _, _ => False
theorem lsub.len : ∀ {l m : List (Option Value)}, lsub l m → l.length = m.length
  | [], [], _ => rfl
  | _ :: _, _ :: _, h => by rw [List.length_cons, List.length_cons, lsub.len h.2]
  | [], _ :: _, h => h.elim
  | _ :: _, [], h => h.elim
theorem lsub.at : ∀ {l m : List (Option Value)}, lsub l m → ∀ (i : Nat) (v : Value), m[i]? = some (some v) → l[i]? = some (some v)
  | [], [], _, i, v, h => by simp at h
  | a :: l, b :: m, h, i, v, hv => by
    cases i with
    | zero =>
      rw [List.getElem?_cons_zero] at hv ⊢
      rcases h.1 with e | e
      · rw [e] at hv; cases hv
      · rw [← e]; exact hv
    | succ i =>
      rw [List.getElem?_cons_succ] at hv ⊢
      exact lsub.at h.2 i v hv
  | [], _ :: _, h, _, _, _ => h.elim
  | _ :: _, [], h, _, _, _ => h.elim
theorem LR.sub {ls : Array Slot} {lo lo1 : List (Option Value)} (h : LR ls lo) (hs : lsub lo lo1) : LR ls lo1 := ⟨h.1.trans hs.len, h.2.1, fun i v hv => h.2.2 i v (hs.at i v hv)⟩
end LRs
section ROWS
variable {E : Ev} {X : Xt} {l0 : Launch} {own : String} {code : ByteArray} {maxL : Nat} {rm : Room} {h : Hp} {k n pc : Nat} {lo : List (Option Value)} {st : List Value}
theorem r_iadd {x y : Int32} (hC : Cx E X l0 own code maxL rm) (hd : decode code pc = .ok (.iadd, 1)) (kk : WW E X h k n (pc + 1) lo (.int (x + y) :: st)) : WW E X h k n pc lo (.int y :: .int x :: st) := by
  obtain ⟨p, l, e, R, s, m, args, below, meth, c, Q⟩ := X
  obtain ⟨hx, hb, hml, hown, hts, hKw, hlk, hR, hl0⟩ := hC
  intro H locs ls h1 h2 h3
  exact lv_iadd hx hb hd (kk H locs ls h1 h2 h3)
theorem r_isub {x y : Int32} (hC : Cx E X l0 own code maxL rm) (hd : decode code pc = .ok (.isub, 1)) (kk : WW E X h k n (pc + 1) lo (.int (x - y) :: st)) : WW E X h k n pc lo (.int y :: .int x :: st) := by
  obtain ⟨p, l, e, R, s, m, args, below, meth, c, Q⟩ := X
  obtain ⟨hx, hb, hml, hown, hts, hKw, hlk, hR, hl0⟩ := hC
  intro H locs ls h1 h2 h3
  exact lv_isub hx hb hd (kk H locs ls h1 h2 h3)
theorem r_imul {x y : Int32} (hC : Cx E X l0 own code maxL rm) (hd : decode code pc = .ok (.imul, 1)) (kk : WW E X h k n (pc + 1) lo (.int (x * y) :: st)) : WW E X h k n pc lo (.int y :: .int x :: st) := by
  obtain ⟨p, l, e, R, s, m, args, below, meth, c, Q⟩ := X
  obtain ⟨hx, hb, hml, hown, hts, hKw, hlk, hR, hl0⟩ := hC
  intro H locs ls h1 h2 h3
  exact lv_imul hx hb hd (kk H locs ls h1 h2 h3)
theorem r_iand {x y : Int32} (hC : Cx E X l0 own code maxL rm) (hd : decode code pc = .ok (.iand, 1)) (kk : WW E X h k n (pc + 1) lo (.int (x &&& y) :: st)) : WW E X h k n pc lo (.int y :: .int x :: st) := by
  obtain ⟨p, l, e, R, s, m, args, below, meth, c, Q⟩ := X
  obtain ⟨hx, hb, hml, hown, hts, hKw, hlk, hR, hl0⟩ := hC
  intro H locs ls h1 h2 h3
  exact lv_iand hx hb hd (kk H locs ls h1 h2 h3)
theorem r_idiv {x y : Int32} (hC : Cx E X l0 own code maxL rm) (hd : decode code pc = .ok (.idiv, 1)) (hne : ¬ y = 0) (kk : WW E X h k n (pc + 1) lo (.int (x / y) :: st)) : WW E X h k n pc lo (.int y :: .int x :: st) := by
  obtain ⟨p, l, e, R, s, m, args, below, meth, c, Q⟩ := X
  obtain ⟨hx, hb, hml, hown, hts, hKw, hlk, hR, hl0⟩ := hC
  intro H locs ls h1 h2 h3
  exact lv_idiv hx hb hd hne (kk H locs ls h1 h2 h3)
theorem r_irem {x y : Int32} (hC : Cx E X l0 own code maxL rm) (hd : decode code pc = .ok (.irem, 1)) (hne : ¬ y = 0) (kk : WW E X h k n (pc + 1) lo (.int (x - x / y * y) :: st)) : WW E X h k n pc lo (.int y :: .int x :: st) := by
  obtain ⟨p, l, e, R, s, m, args, below, meth, c, Q⟩ := X
  obtain ⟨hx, hb, hml, hown, hts, hKw, hlk, hR, hl0⟩ := hC
  intro H locs ls h1 h2 h3
  exact lv_irem hx hb hd hne (kk H locs ls h1 h2 h3)
theorem r_ineg {x : Int32} (hC : Cx E X l0 own code maxL rm) (hd : decode code pc = .ok (.ineg, 1)) (kk : WW E X h k n (pc + 1) lo (.int (-x) :: st)) : WW E X h k n pc lo (.int x :: st) := by
  obtain ⟨p, l, e, R, s, m, args, below, meth, c, Q⟩ := X
  obtain ⟨hx, hb, hml, hown, hts, hKw, hlk, hR, hl0⟩ := hC
  intro H locs ls h1 h2 h3
  exact lv_ineg hx hb hd (kk H locs ls h1 h2 h3)
theorem r_i2c {x : Int32} (hC : Cx E X l0 own code maxL rm) (hd : decode code pc = .ok (.i2c, 1)) (kk : WW E X h k n (pc + 1) lo (.int (cn x) :: st)) : WW E X h k n pc lo (.int x :: st) := by
  obtain ⟨p, l, e, R, s, m, args, below, meth, c, Q⟩ := X
  obtain ⟨hx, hb, hml, hown, hts, hKw, hlk, hR, hl0⟩ := hC
  intro H locs ls h1 h2 h3
  exact lv_i2c hx hb hd rfl (kk H locs ls h1 h2 h3)
theorem r_iconst {z : Int} {v : Int32} (hC : Cx E X l0 own code maxL rm) (hd : decode code pc = .ok (.iconst z, 1)) (hv : Int32.ofInt z = v) (kk : WW E X h k n (pc + 1) lo (.int v :: st)) : WW E X h k n pc lo (st) := by
  obtain ⟨p, l, e, R, s, m, args, below, meth, c, Q⟩ := X
  obtain ⟨hx, hb, hml, hown, hts, hKw, hlk, hR, hl0⟩ := hC
  intro H locs ls h1 h2 h3
  exact lv_iconst hx hb hd hv (kk H locs ls h1 h2 h3)
theorem r_bipush {z : Int} {v : Int32} (hC : Cx E X l0 own code maxL rm) (hd : decode code pc = .ok (.bipush z, 2)) (hv : (Int8.ofInt z).toInt32 = v) (kk : WW E X h k n (pc + 2) lo (.int v :: st)) : WW E X h k n pc lo (st) := by
  obtain ⟨p, l, e, R, s, m, args, below, meth, c, Q⟩ := X
  obtain ⟨hx, hb, hml, hown, hts, hKw, hlk, hR, hl0⟩ := hC
  intro H locs ls h1 h2 h3
  exact lv_bipush hx hb hd hv (kk H locs ls h1 h2 h3)
theorem r_sipush {z : Int} {v : Int32} (hC : Cx E X l0 own code maxL rm) (hd : decode code pc = .ok (.sipush z, 3)) (hv : (Int16.ofInt z).toInt32 = v) (kk : WW E X h k n (pc + 3) lo (.int v :: st)) : WW E X h k n pc lo (st) := by
  obtain ⟨p, l, e, R, s, m, args, below, meth, c, Q⟩ := X
  obtain ⟨hx, hb, hml, hown, hts, hKw, hlk, hR, hl0⟩ := hC
  intro H locs ls h1 h2 h3
  exact lv_sipush hx hb hd hv (kk H locs ls h1 h2 h3)
theorem r_ldc {index : Nat} {v : Int32} (hC : Cx E X l0 own code maxL rm) (hd : decode code pc = .ok (.ldc index, 2)) (hw : Cond.constant own index v ∈ lwG) (kk : WW E X h k n (pc + 2) lo (.int v :: st)) : WW E X h k n pc lo st := by
  obtain ⟨p, l, e, R, s, m, args, below, meth, c, Q⟩ := X
  obtain ⟨hx, hb, hml, hown, hts, hKw, hlk, hR, hl0⟩ := hC
  intro H locs ls h1 h2 h3
  exact lv_ldc hx hb hown (hts _ hw) hd (kk H locs ls h1 h2 h3)
theorem r_dup {v : Value} (hC : Cx E X l0 own code maxL rm) (hd : decode code pc = .ok (.dup, 1)) (hv : v.category = 1) (kk : WW E X h k n (pc + 1) lo (v :: v :: st)) : WW E X h k n pc lo (v :: st) := by
  obtain ⟨p, l, e, R, s, m, args, below, meth, c, Q⟩ := X
  obtain ⟨hx, hb, hml, hown, hts, hKw, hlk, hR, hl0⟩ := hC
  intro H locs ls h1 h2 h3
  exact lv_dup hx hb hd hv (kk H locs ls h1 h2 h3)
theorem r_dup2 {v w : Value} (hC : Cx E X l0 own code maxL rm) (hd : decode code pc = .ok (.dup2, 1)) (hv : v.category = 1) (hw : w.category = 1) (kk : WW E X h k n (pc + 1) lo (v :: w :: v :: w :: st)) : WW E X h k n pc lo (v :: w :: st) := by
  obtain ⟨p, l, e, R, s, m, args, below, meth, c, Q⟩ := X
  obtain ⟨hx, hb, hml, hown, hts, hKw, hlk, hR, hl0⟩ := hC
  intro H locs ls h1 h2 h3
  exact lv_dup2_11 hx hb hd hv hw (kk H locs ls h1 h2 h3)
theorem r_null  (hC : Cx E X l0 own code maxL rm) (hd : decode code pc = .ok (.aconst_null, 1)) (kk : WW E X h k n (pc + 1) lo (rv 0 :: st)) : WW E X h k n pc lo (st) := by
  obtain ⟨p, l, e, R, s, m, args, below, meth, c, Q⟩ := X
  obtain ⟨hx, hb, hml, hown, hts, hKw, hlk, hR, hl0⟩ := hC
  intro H locs ls h1 h2 h3
  exact lv_null hx hb hd (kk H locs ls h1 h2 h3)
theorem r_iload_n {f : Fin 4} {x : Int32} (hC : Cx E X l0 own code maxL rm) (hd : decode code pc = .ok (.iload_n f, 1)) (hi : lo[(f : Nat)]? = some (some (.int x))) (kk : WW E X h k n (pc + 1) lo (.int x :: st)) : WW E X h k n pc lo st := by
  obtain ⟨p, l, e, R, s, m, args, below, meth, c, Q⟩ := X
  obtain ⟨hx, hb, hml, hown, hts, hKw, hlk, hR, hl0⟩ := hC
  intro H locs ls h1 h2 h3
  exact lv_iload_n hx hb hd rfl (h3.get hi) (kk H locs ls h1 h2 h3)
theorem r_iload {i : Nat} {x : Int32} (hC : Cx E X l0 own code maxL rm) (hd : decode code pc = .ok (.iload i, 2)) (hi : lo[i]? = some (some (.int x))) (kk : WW E X h k n (pc + 2) lo (.int x :: st)) : WW E X h k n pc lo st := by
  obtain ⟨p, l, e, R, s, m, args, below, meth, c, Q⟩ := X
  obtain ⟨hx, hb, hml, hown, hts, hKw, hlk, hR, hl0⟩ := hC
  intro H locs ls h1 h2 h3
  exact lv_iload hx hb hd (h3.get hi) (kk H locs ls h1 h2 h3)
theorem r_aload_n {f : Fin 4} {x : Nat} (hC : Cx E X l0 own code maxL rm) (hd : decode code pc = .ok (.aload_n f, 1)) (hi : lo[(f : Nat)]? = some (some (rv x))) (kk : WW E X h k n (pc + 1) lo (rv x :: st)) : WW E X h k n pc lo st := by
  obtain ⟨p, l, e, R, s, m, args, below, meth, c, Q⟩ := X
  obtain ⟨hx, hb, hml, hown, hts, hKw, hlk, hR, hl0⟩ := hC
  intro H locs ls h1 h2 h3
  cases x with
  | zero => exact lv_aload_nN hx hb hd rfl (h3.get hi) (kk H locs ls h1 h2 h3)
  | succ x => exact lv_aload_n hx hb hd rfl (h3.get hi) (kk H locs ls h1 h2 h3)
theorem r_aload {i : Nat} {x : Nat} (hC : Cx E X l0 own code maxL rm) (hd : decode code pc = .ok (.aload i, 2)) (hi : lo[i]? = some (some (rv x))) (kk : WW E X h k n (pc + 2) lo (rv x :: st)) : WW E X h k n pc lo st := by
  obtain ⟨p, l, e, R, s, m, args, below, meth, c, Q⟩ := X
  obtain ⟨hx, hb, hml, hown, hts, hKw, hlk, hR, hl0⟩ := hC
  intro H locs ls h1 h2 h3
  cases x with
  | zero => exact lv_aloadN hx hb hd (h3.get hi) (kk H locs ls h1 h2 h3)
  | succ x => exact lv_aload hx hb hd (h3.get hi) (kk H locs ls h1 h2 h3)
theorem LR.set2 {ls : Array Slot} {lo lo1 : List (Option Value)} {i : Nat} {v : Value} (h : LR ls lo) (hc : v.category = 1) (hi : i < lo.length) (hl : lo.set i (some v) = lo1) : ∀ ls' : Array Slot, lv_has ls' lo.length ((i, v) :: ((List.range lo.length).filterMap (fun i => match lo[i]? with | some (some v) => some (i, v) | _ => none)).filter (fun q => !(q.1 == i) && !(q.1 + 1 == i && q.2.category == 2))) → LR ls' lo1 := by
  intro ls' ⟨h1, h2, h3⟩
  subst hl
  refine ⟨by rw [h1, List.length_set], h2, fun j w hj => ?_⟩
  by_cases hji : j = i
  · subst hji
    rw [List.getElem?_set_self hi] at hj
    cases hj
    exact ⟨hc, h3 _ List.mem_cons_self⟩
  · rw [List.getElem?_set_ne (Ne.symm hji)] at hj
    have hw := (h.2.2 j w hj).1
    refine ⟨hw, h3 (j, w) (List.mem_cons_of_mem _ (List.mem_filter.mpr ⟨List.mem_filterMap.mpr ⟨j, List.mem_range.mpr (List.getElem?_eq_some_iff.mp hj).1, by simp only [hj]⟩, ?_⟩))⟩
    simp only [Bool.and_eq_true, Bool.not_eq_true', beq_eq_false_iff_ne, ne_eq, Bool.and_eq_false_iff]
    exact ⟨hji, Or.inr (by omega)⟩
theorem r_istore_n {f : Fin 4} {x : Int32} {lo1 : List (Option Value)} (hC : Cx E X l0 own code maxL rm) (hd : decode code pc = .ok (.istore_n f, 1)) (hi : (f : Nat) < lo.length) (hl : lo.set (f : Nat) (some (.int x)) = lo1) (kk : WW E X h k n (pc + 1) lo1 st) : WW E X h k n pc lo (.int x :: st) := by
  obtain ⟨p, l, e, R, s, m, args, below, meth, c, Q⟩ := X
  obtain ⟨hx, hb, hml, hown, hts, hKw, hlk, hR, hl0⟩ := hC
  intro H locs ls h1 h2 h3
  exact lv_istore_n hx hb hd rfl h3.has hi rfl (fun ls1 q => kk H locs ls1 h1 h2 (h3.set2 rfl hi hl ls1 q))
theorem r_istore {i : Nat} {x : Int32} {lo1 : List (Option Value)} (hC : Cx E X l0 own code maxL rm) (hd : decode code pc = .ok (.istore i, 2)) (hi : i < lo.length) (hl : lo.set i (some (.int x)) = lo1) (kk : WW E X h k n (pc + 2) lo1 st) : WW E X h k n pc lo (.int x :: st) := by
  obtain ⟨p, l, e, R, s, m, args, below, meth, c, Q⟩ := X
  obtain ⟨hx, hb, hml, hown, hts, hKw, hlk, hR, hl0⟩ := hC
  intro H locs ls h1 h2 h3
  exact lv_istore hx hb hd h3.has hi rfl (fun ls1 q => kk H locs ls1 h1 h2 (h3.set2 rfl hi hl ls1 q))
theorem r_astore_n {f : Fin 4} {x : Nat} {lo1 : List (Option Value)} (hC : Cx E X l0 own code maxL rm) (hd : decode code pc = .ok (.astore_n f, 1)) (hi : (f : Nat) < lo.length) (hl : lo.set (f : Nat) (some (rv x)) = lo1) (kk : WW E X h k n (pc + 1) lo1 st) : WW E X h k n pc lo (rv x :: st) := by
  obtain ⟨p, l, e, R, s, m, args, below, meth, c, Q⟩ := X
  obtain ⟨hx, hb, hml, hown, hts, hKw, hlk, hR, hl0⟩ := hC
  intro H locs ls h1 h2 h3
  cases x with
  | zero => exact lv_astore_nN hx hb hd rfl h3.has hi rfl (fun ls1 q => kk H locs ls1 h1 h2 (h3.set2 rfl hi hl ls1 q))
  | succ x => exact lv_astore_n hx hb hd rfl h3.has hi rfl (fun ls1 q => kk H locs ls1 h1 h2 (h3.set2 rfl hi hl ls1 q))
theorem r_astore {i : Nat} {x : Nat} {lo1 : List (Option Value)} (hC : Cx E X l0 own code maxL rm) (hd : decode code pc = .ok (.astore i, 2)) (hi : i < lo.length) (hl : lo.set i (some (rv x)) = lo1) (kk : WW E X h k n (pc + 2) lo1 st) : WW E X h k n pc lo (rv x :: st) := by
  obtain ⟨p, l, e, R, s, m, args, below, meth, c, Q⟩ := X
  obtain ⟨hx, hb, hml, hown, hts, hKw, hlk, hR, hl0⟩ := hC
  intro H locs ls h1 h2 h3
  cases x with
  | zero => exact lv_astoreN hx hb hd h3.has hi rfl (fun ls1 q => kk H locs ls1 h1 h2 (h3.set2 rfl hi hl ls1 q))
  | succ x => exact lv_astore hx hb hd h3.has hi rfl (fun ls1 q => kk H locs ls1 h1 h2 (h3.set2 rfl hi hl ls1 q))
theorem r_iinc {i : Nat} {z : Int} {x v : Int32} {lo1 : List (Option Value)} (hC : Cx E X l0 own code maxL rm) (hd : decode code pc = .ok (.iinc i z, 3)) (hi : lo[i]? = some (some (.int x))) (hv : Int32.ofInt z = v) (hl : lo.set i (some (.int (x + v))) = lo1) (kk : WW E X h k n (pc + 3) lo1 st) : WW E X h k n pc lo st := by
  obtain ⟨p, l, e, R, s, m, args, below, meth, c, Q⟩ := X
  obtain ⟨hx, hb, hml, hown, hts, hKw, hlk, hR, hl0⟩ := hC
  intro H locs ls h1 h2 h3
  have hlt : i < lo.length := (List.getElem?_eq_some_iff.mp hi).1
  have hm : (i, Value.int x) ∈ (List.range lo.length).filterMap (fun i => match lo[i]? with | some (some v) => some (i, v) | _ => none) := List.mem_filterMap.mpr ⟨i, List.mem_range.mpr hlt, by simp only [hi]⟩
  obtain ⟨j, hj⟩ := List.getElem?_of_mem hm
  exact lv_iinc hx hb hd h3.has (k := j) hj (by rw [hv]) hlt rfl (fun ls1 q => kk H locs ls1 h1 h2 (h3.set2 rfl hlt hl ls1 q))
theorem r_icmp_eq {x y : Int32} {off : Int} {tgt : Nat} (hC : Cx E X l0 own code maxL rm) (hd : decode code pc = .ok (.if_icmp .eq off, 3)) (ht : (pc : Int) + off = (tgt : Int)) (kt : x = y → WW E X h k n tgt lo st) (kf : ¬ (x = y) → WW E X h k n (pc + 3) lo st) : WW E X h k n pc lo (.int y :: .int x :: st) := by
  obtain ⟨p, l, e, R, s, m, args, below, meth, c, Q⟩ := X
  obtain ⟨hx, hb, hml, hown, hts, hKw, hlk, hR, hl0⟩ := hC
  intro H locs ls h1 h2 h3
  exact lv_icmp_eq hx hb hd ht (fun q => kt (q) H locs ls h1 h2 h3) (fun q => kf (q) H locs ls h1 h2 h3)
theorem r_if_eq {x : Int32} {off : Int} {tgt : Nat} (hC : Cx E X l0 own code maxL rm) (hd : decode code pc = .ok (.ifCond .eq off, 3)) (ht : (pc : Int) + off = (tgt : Int)) (kt : x = 0 → WW E X h k n tgt lo st) (kf : ¬ (x = 0) → WW E X h k n (pc + 3) lo st) : WW E X h k n pc lo (.int x :: st) := by
  obtain ⟨p, l, e, R, s, m, args, below, meth, c, Q⟩ := X
  obtain ⟨hx, hb, hml, hown, hts, hKw, hlk, hR, hl0⟩ := hC
  intro H locs ls h1 h2 h3
  exact lv_if_eq hx hb hd ht (fun q => kt (q) H locs ls h1 h2 h3) (fun q => kf (q) H locs ls h1 h2 h3)
theorem r_icmp_ne {x y : Int32} {off : Int} {tgt : Nat} (hC : Cx E X l0 own code maxL rm) (hd : decode code pc = .ok (.if_icmp .ne off, 3)) (ht : (pc : Int) + off = (tgt : Int)) (kt : ¬ x = y → WW E X h k n tgt lo st) (kf : x = y → WW E X h k n (pc + 3) lo st) : WW E X h k n pc lo (.int y :: .int x :: st) := by
  obtain ⟨p, l, e, R, s, m, args, below, meth, c, Q⟩ := X
  obtain ⟨hx, hb, hml, hown, hts, hKw, hlk, hR, hl0⟩ := hC
  intro H locs ls h1 h2 h3
  exact lv_icmp_ne hx hb hd ht (fun q => kt (q) H locs ls h1 h2 h3) (fun q => kf (q) H locs ls h1 h2 h3)
theorem r_if_ne {x : Int32} {off : Int} {tgt : Nat} (hC : Cx E X l0 own code maxL rm) (hd : decode code pc = .ok (.ifCond .ne off, 3)) (ht : (pc : Int) + off = (tgt : Int)) (kt : ¬ x = 0 → WW E X h k n tgt lo st) (kf : x = 0 → WW E X h k n (pc + 3) lo st) : WW E X h k n pc lo (.int x :: st) := by
  obtain ⟨p, l, e, R, s, m, args, below, meth, c, Q⟩ := X
  obtain ⟨hx, hb, hml, hown, hts, hKw, hlk, hR, hl0⟩ := hC
  intro H locs ls h1 h2 h3
  exact lv_if_ne hx hb hd ht (fun q => kt (q) H locs ls h1 h2 h3) (fun q => kf (q) H locs ls h1 h2 h3)
theorem r_icmp_lt {x y : Int32} {off : Int} {tgt : Nat} (hC : Cx E X l0 own code maxL rm) (hd : decode code pc = .ok (.if_icmp .lt off, 3)) (ht : (pc : Int) + off = (tgt : Int)) (kt : x < y → WW E X h k n tgt lo st) (kf : ¬ (x < y) → WW E X h k n (pc + 3) lo st) : WW E X h k n pc lo (.int y :: .int x :: st) := by
  obtain ⟨p, l, e, R, s, m, args, below, meth, c, Q⟩ := X
  obtain ⟨hx, hb, hml, hown, hts, hKw, hlk, hR, hl0⟩ := hC
  intro H locs ls h1 h2 h3
  exact lv_icmp_lt hx hb hd ht (fun q => kt (q) H locs ls h1 h2 h3) (fun q => kf (q) H locs ls h1 h2 h3)
theorem r_if_lt {x : Int32} {off : Int} {tgt : Nat} (hC : Cx E X l0 own code maxL rm) (hd : decode code pc = .ok (.ifCond .lt off, 3)) (ht : (pc : Int) + off = (tgt : Int)) (kt : x < 0 → WW E X h k n tgt lo st) (kf : ¬ (x < 0) → WW E X h k n (pc + 3) lo st) : WW E X h k n pc lo (.int x :: st) := by
  obtain ⟨p, l, e, R, s, m, args, below, meth, c, Q⟩ := X
  obtain ⟨hx, hb, hml, hown, hts, hKw, hlk, hR, hl0⟩ := hC
  intro H locs ls h1 h2 h3
  exact lv_if_lt hx hb hd ht (fun q => kt (q) H locs ls h1 h2 h3) (fun q => kf (q) H locs ls h1 h2 h3)
theorem r_icmp_ge {x y : Int32} {off : Int} {tgt : Nat} (hC : Cx E X l0 own code maxL rm) (hd : decode code pc = .ok (.if_icmp .ge off, 3)) (ht : (pc : Int) + off = (tgt : Int)) (kt : y ≤ x → WW E X h k n tgt lo st) (kf : ¬ (y ≤ x) → WW E X h k n (pc + 3) lo st) : WW E X h k n pc lo (.int y :: .int x :: st) := by
  obtain ⟨p, l, e, R, s, m, args, below, meth, c, Q⟩ := X
  obtain ⟨hx, hb, hml, hown, hts, hKw, hlk, hR, hl0⟩ := hC
  intro H locs ls h1 h2 h3
  exact lv_icmp_ge hx hb hd ht (fun q => kt (q) H locs ls h1 h2 h3) (fun q => kf (q) H locs ls h1 h2 h3)
theorem r_if_ge {x : Int32} {off : Int} {tgt : Nat} (hC : Cx E X l0 own code maxL rm) (hd : decode code pc = .ok (.ifCond .ge off, 3)) (ht : (pc : Int) + off = (tgt : Int)) (kt : 0 ≤ x → WW E X h k n tgt lo st) (kf : ¬ (0 ≤ x) → WW E X h k n (pc + 3) lo st) : WW E X h k n pc lo (.int x :: st) := by
  obtain ⟨p, l, e, R, s, m, args, below, meth, c, Q⟩ := X
  obtain ⟨hx, hb, hml, hown, hts, hKw, hlk, hR, hl0⟩ := hC
  intro H locs ls h1 h2 h3
  exact lv_if_ge hx hb hd ht (fun q => kt (q) H locs ls h1 h2 h3) (fun q => kf (q) H locs ls h1 h2 h3)
theorem r_icmp_gt {x y : Int32} {off : Int} {tgt : Nat} (hC : Cx E X l0 own code maxL rm) (hd : decode code pc = .ok (.if_icmp .gt off, 3)) (ht : (pc : Int) + off = (tgt : Int)) (kt : y < x → WW E X h k n tgt lo st) (kf : ¬ (y < x) → WW E X h k n (pc + 3) lo st) : WW E X h k n pc lo (.int y :: .int x :: st) := by
  obtain ⟨p, l, e, R, s, m, args, below, meth, c, Q⟩ := X
  obtain ⟨hx, hb, hml, hown, hts, hKw, hlk, hR, hl0⟩ := hC
  intro H locs ls h1 h2 h3
  exact lv_icmp_gt hx hb hd ht (fun q => kt (q) H locs ls h1 h2 h3) (fun q => kf (q) H locs ls h1 h2 h3)
theorem r_if_gt {x : Int32} {off : Int} {tgt : Nat} (hC : Cx E X l0 own code maxL rm) (hd : decode code pc = .ok (.ifCond .gt off, 3)) (ht : (pc : Int) + off = (tgt : Int)) (kt : 0 < x → WW E X h k n tgt lo st) (kf : ¬ (0 < x) → WW E X h k n (pc + 3) lo st) : WW E X h k n pc lo (.int x :: st) := by
  obtain ⟨p, l, e, R, s, m, args, below, meth, c, Q⟩ := X
  obtain ⟨hx, hb, hml, hown, hts, hKw, hlk, hR, hl0⟩ := hC
  intro H locs ls h1 h2 h3
  exact lv_if_gt hx hb hd ht (fun q => kt (q) H locs ls h1 h2 h3) (fun q => kf (q) H locs ls h1 h2 h3)
theorem r_icmp_le {x y : Int32} {off : Int} {tgt : Nat} (hC : Cx E X l0 own code maxL rm) (hd : decode code pc = .ok (.if_icmp .le off, 3)) (ht : (pc : Int) + off = (tgt : Int)) (kt : x ≤ y → WW E X h k n tgt lo st) (kf : ¬ (x ≤ y) → WW E X h k n (pc + 3) lo st) : WW E X h k n pc lo (.int y :: .int x :: st) := by
  obtain ⟨p, l, e, R, s, m, args, below, meth, c, Q⟩ := X
  obtain ⟨hx, hb, hml, hown, hts, hKw, hlk, hR, hl0⟩ := hC
  intro H locs ls h1 h2 h3
  exact lv_icmp_le hx hb hd ht (fun q => kt (q) H locs ls h1 h2 h3) (fun q => kf (q) H locs ls h1 h2 h3)
theorem r_if_le {x : Int32} {off : Int} {tgt : Nat} (hC : Cx E X l0 own code maxL rm) (hd : decode code pc = .ok (.ifCond .le off, 3)) (ht : (pc : Int) + off = (tgt : Int)) (kt : x ≤ 0 → WW E X h k n tgt lo st) (kf : ¬ (x ≤ 0) → WW E X h k n (pc + 3) lo st) : WW E X h k n pc lo (.int x :: st) := by
  obtain ⟨p, l, e, R, s, m, args, below, meth, c, Q⟩ := X
  obtain ⟨hx, hb, hml, hown, hts, hKw, hlk, hR, hl0⟩ := hC
  intro H locs ls h1 h2 h3
  exact lv_if_le hx hb hd ht (fun q => kt (q) H locs ls h1 h2 h3) (fun q => kf (q) H locs ls h1 h2 h3)
theorem r_ifnull {x : Nat} {off : Int} {tgt : Nat} (hC : Cx E X l0 own code maxL rm) (hd : decode code pc = .ok (.ifnull off, 3)) (ht : (pc : Int) + off = (tgt : Int)) (kt : x = 0 → WW E X h k n tgt lo st) (kf : ¬ x = 0 → WW E X h k n (pc + 3) lo st) : WW E X h k n pc lo (rv x :: st) := by
  obtain ⟨p, l, e, R, s, m, args, below, meth, c, Q⟩ := X
  obtain ⟨hx, hb, hml, hown, hts, hKw, hlk, hR, hl0⟩ := hC
  intro H locs ls h1 h2 h3
  cases x with
  | zero => exact lv_ifnullN hx hb hd ht (kt rfl H locs ls h1 h2 h3)
  | succ x => exact lv_ifnull hx hb hd (kf (Nat.succ_ne_zero x) H locs ls h1 h2 h3)
theorem r_ifnonnull {x : Nat} {off : Int} {tgt : Nat} (hC : Cx E X l0 own code maxL rm) (hd : decode code pc = .ok (.ifnonnull off, 3)) (ht : (pc : Int) + off = (tgt : Int)) (kt : ¬ x = 0 → WW E X h k n tgt lo st) (kf : x = 0 → WW E X h k n (pc + 3) lo st) : WW E X h k n pc lo (rv x :: st) := by
  obtain ⟨p, l, e, R, s, m, args, below, meth, c, Q⟩ := X
  obtain ⟨hx, hb, hml, hown, hts, hKw, hlk, hR, hl0⟩ := hC
  intro H locs ls h1 h2 h3
  cases x with
  | zero => exact lv_ifnonnullN hx hb hd (kf rfl H locs ls h1 h2 h3)
  | succ x => exact lv_ifnonnull hx hb hd ht (kt (Nat.succ_ne_zero x) H locs ls h1 h2 h3)
theorem r_goto {off : Int} {tgt : Nat} (hC : Cx E X l0 own code maxL rm) (hd : decode code pc = .ok (.goto off, 3)) (ht : (pc : Int) + off = (tgt : Int)) (kk : WW E X h k n tgt lo st) : WW E X h k n pc lo st := by
  obtain ⟨p, l, e, R, s, m, args, below, meth, c, Q⟩ := X
  obtain ⟨hx, hb, hml, hown, hts, hKw, hlk, hR, hl0⟩ := hC
  intro H locs ls h1 h2 h3
  exact lv_goto hx hb hd ht (kk H locs ls h1 h2 h3)
theorem r_sub {lo1 : List (Option Value)} (hs : lsub lo lo1) (kk : WW E X h k n pc lo1 st) : WW E X h k n pc lo st := by
  obtain ⟨p, l, e, R, s, m, args, below, meth, c, Q⟩ := X
  intro H locs ls h1 h2 h3
  exact kk H locs ls h1 h2 (h3.sub hs)
theorem r_wide {k1 n1 : Nat} (hk : k ≤ k1) (hn : n ≤ n1) (kk : WW E X h k1 n1 pc lo st) : WW E X h k n pc lo st := by
  obtain ⟨p, l, e, R, s, m, args, below, meth, c, Q⟩ := X
  intro H locs ls h1 h2 h3
  exact W.widen hk hn (kk H locs ls h1 h2 h3)
theorem r_tabIn {dflt lo' hi : Int} {offs : Array Int} {len : Nat} {x : Int32} {off : Int} {tgt : Nat} (hC : Cx E X l0 own code maxL rm) (hd : decode code pc = .ok (.tableswitch dflt lo' hi offs, len)) (i : Nat) (hx0 : x.toInt = lo' + (i : Int)) (hi1 : ¬ hi < lo' + (i : Int)) (ho : offs[i]? = some off) (ht : (pc : Int) + off = (tgt : Int)) (kk : WW E X h k n tgt lo st) : WW E X h k n pc lo (.int x :: st) := by
  obtain ⟨p, l, e, R, s, m, args, below, meth, c, Q⟩ := X
  obtain ⟨hx, hb, hml, hown, hts, hKw, hlk, hR, hl0⟩ := hC
  intro H locs ls h1 h2 h3
  exact lv_tableIn hx hb hd (by rw [hx0]; omega) (by rw [hx0]; exact hi1) (by rw [hx0, show lo' + (i : Int) - lo' = (i : Int) by omega, Int.toNat_natCast]; exact ho) ht (kk H locs ls h1 h2 h3)
theorem r_tabOut {dflt lo' hi : Int} {offs : Array Int} {len : Nat} {x : Int32} {tgt : Nat} (hC : Cx E X l0 own code maxL rm) (hd : decode code pc = .ok (.tableswitch dflt lo' hi offs, len)) (hx0 : x.toInt < lo' ∨ hi < x.toInt) (ht : (pc : Int) + dflt = (tgt : Int)) (kk : WW E X h k n tgt lo st) : WW E X h k n pc lo (.int x :: st) := by
  obtain ⟨p, l, e, R, s, m, args, below, meth, c, Q⟩ := X
  obtain ⟨hx, hb, hml, hown, hts, hKw, hlk, hR, hl0⟩ := hC
  intro H locs ls h1 h2 h3
  exact lv_tableOut hx hb hd hx0 ht (kk H locs ls h1 h2 h3)
end ROWS
end
section
section HEAPROWS
variable {E : Ev} {X : Xt} {l0 : Launch} {own : String} {code : ByteArray} {maxL : Nat} {rm : Room} {h : Hp} {k n pc : Nat} {lo : List (Option Value)} {st : List Value}
/-- a field's link, as the tables have it -/
def FL (own : String) (index ci j : Nat) (r : vw_C) : Prop := cls[ci]? = some r ∧ j < r.2.2 ∧ Cond.fieldLink own index (r.2.1 j).1 (r.2.1 j).2.1 (r.2.1 j).2.2.1 ∈ lwG ∧ ∀ w ∈ u_ws r.1 r.2.1 r.2.2, w ∈ lwG
theorem Rep.obj {h : Hp} {H : Heap} (x : Rep E h H) {c ci : Nat} (hk : hK h c = ci + 1) (hci : ci < 19) {r : vw_C} (hr : cls[ci]? = some r) : ∃ a, c = a + 1 ∧ E.2.2.1 ≤ a ∧ t_OB a (E.1.1 ci) r.2.2 (E.1.2 ci) H (fun j => sv h c j (rfk ci j)) := by
  have h0 : hK h c ≠ 0 := by omega
  obtain ⟨a, rfl⟩ := x.code h0
  obtain ⟨g1, g2⟩ := x.2.2.2 _ h0
  unfold cellOk at g2
  rw [hk, if_pos (by omega)] at g2
  obtain ⟨r0, e1, e2⟩ := g2
  rw [show ci + 1 - 1 = ci by omega] at e1 e2
  cases e1.symm.trans hr
  exact ⟨a, rfl, g1, e2⟩
theorem r_getf {ci j index : Nat} {c : Nat} {r : vw_C} (hC : Cx E X l0 own code maxL rm) (hd : decode code pc = .ok (.getfield index, 3)) (hF : FL own index ci j r) (hk : hK h c = ci + 1) (hci : ci < 19) (kk : WW E X h k n (pc + 3) lo (sv h c j (rfk ci j) :: st)) : WW E X h k n pc lo (rv c :: st) := by
  obtain ⟨p, l, e, R, s, m, args, below, meth, cd, Q⟩ := X
  obtain ⟨hx, hb, hml, hown, hts, hKw, hlk, hR, hl0⟩ := hC
  intro H locs ls h1 h2 h3
  obtain ⟨g1, g2, g3, g4⟩ := hF
  obtain ⟨a, rfl, -, cell, q1, q2, q3, q4⟩ := h1.obj hk hci g1
  obtain ⟨hS, hfc, kC, hkC, hkind⟩ := hKw.1.1 ci _ g1
  obtain ⟨cf, kf, fi, f, hi, hsl⟩ := hS j g2
  refine W.getf hx hb hown (hts _ g3) hi (u_facts hfc hkC (u_lays hts g4 g2) hi).1 q1 (by rw [q3]; exact fun h => by cases h) (v := sv h (a + 1) j (rfk ci j)) ?_ rfl rfl hd (kk H locs ls h1 h2 h3)
  rw [hsl, q4 j g2]
theorem r_getI {ci j index : Nat} {c : Nat} {r : vw_C} (hC : Cx E X l0 own code maxL rm) (hd : decode code pc = .ok (.getfield index, 3)) (hF : FL own index ci j r) (hrf : rfk ci j = false) (hci : ci < 19) (hk : hK h c = ci + 1) (kk : WW E X h k n (pc + 3) lo (.int (hI h c j) :: st)) : WW E X h k n pc lo (rv c :: st) :=
  r_getf hC hd hF hk hci (by rw [hrf]; exact kk)
theorem r_getR {ci j index : Nat} {c : Nat} {r : vw_C} (hC : Cx E X l0 own code maxL rm) (hd : decode code pc = .ok (.getfield index, 3)) (hF : FL own index ci j r) (hrf : rfk ci j = true) (hci : ci < 19) (hk : hK h c = ci + 1) (kk : WW E X h k n (pc + 3) lo (rv (hR h c j) :: st)) : WW E X h k n pc lo (rv c :: st) :=
  r_getf hC hd hF hk hci (by rw [hrf]; exact kk)
/-- a class's fields: types, names apart -/
def FT (ci : Nat) (r : vw_C) : Prop := ∃ ty : Nat → FieldType, ctys[ci]? = some ty ∧ (∀ j, j < r.2.2 → parseFieldDescriptor (r.2.1 j).2.2.1 = some (ty j)) ∧ ∀ a, a < r.2.2 → ∀ b, b < r.2.2 → a ≠ b → (r.2.1 a).2.1 ≠ (r.2.1 b).2.1
theorem putOk {h1 : Hp} {H H1 : Heap} {a ci j N : Nat} {cell : Cell} {v : Value} {r : vw_C} (x : Rep E h H) (hk : hK h (a + 1) = ci + 1) (hci : ci < 19) (hr : cls[ci]? = some r) (hN : r.2.2 = N) (hj : j < N) (q2 : cell.cls = E.1.1 ci) (q3 : cell.vm = .none) (q4 : ∀ i, i < N → cell.slots[E.1.2 ci i]? = some (sv h (a + 1) i (rfk ci i)))
    (hap : ∀ x y, x < N → y < N → x ≠ y → E.1.2 ci x ≠ E.1.2 ci y) (e1 : H1[a]? = some (cell.setSlot (E.1.2 ci j) v)) (e2 : H1.size = H.size) (e3 : ∀ q : Nat, q ≠ a → H1[q]? = H[q]?)
    (k1 : ∀ d, hK h1 d = hK h d) (n1 : ∀ d, hL h1 d = hL h d) (i1 : ∀ d, d ≠ a + 1 → ∀ i, hI h1 d i = hI h d i) (r1 : ∀ d, d ≠ a + 1 → ∀ i, hR h1 d i = hR h d i) (s1 : ∀ i, sv h1 (a + 1) i (rfk ci i) = if i = j then v else sv h (a + 1) i (rfk ci i)) : Rep E h1 H1 := by
  refine x.put (c := a + 1) (by omega) k1 n1 i1 r1 e2 (fun q hq => e3 q hq) ?_
  unfold cellOk
  rw [k1, hk, if_pos (by omega)]
  refine ⟨r, hr, _, e1, q2, q3, fun i hi => ?_⟩
  rw [hN] at hi
  show (cell.setSlot (E.1.2 ci j) v).slots[E.1.2 ci i]? = _
  rw [t_set q4 hap hj v i hi]
  show _ = some (sv h1 (a + 1) i (rfk ci i))
  rw [s1]
  rfl
theorem r_put0 {ci j index : Nat} {c : Nat} {r : vw_C} {v : Value} {h1 : Hp} (hC : Cx E X l0 own code maxL rm) (hd : decode code pc = .ok (.putfield index, 3)) (hF : FL own index ci j r) (hT : FT ci r) (hfin : (r.2.1 j).2.2.2 = false) (hci : ci < 19) (hk : hK h c = ci + 1)
    (hv : ∀ ty, ctys[ci]? = some ty → narrow (ty j) v = v ∧ fits (ty j) v = true)
    (k1 : ∀ d, hK h1 d = hK h d) (n1 : ∀ d, hL h1 d = hL h d) (i1 : ∀ d, d ≠ c → ∀ i, hI h1 d i = hI h d i) (r1 : ∀ d, d ≠ c → ∀ i, hR h1 d i = hR h d i) (s1 : ∀ i, sv h1 c i (rfk ci i) = if i = j then v else sv h c i (rfk ci i))
    (kk : WW E X h1 k n (pc + 3) lo st) : WW E X h k n pc lo (v :: rv c :: st) := by
  obtain ⟨p, l, e, R, s, m, args, below, meth, cd, Q⟩ := X
  obtain ⟨hx, hb, hml, hown, hts, hKw, hlk, hR, hl0⟩ := hC
  intro H locs ls z1 z2 z3
  obtain ⟨g1, g2, g3, g4⟩ := hF
  obtain ⟨a, rfl, hba, cell, q1, q2, q3, q4⟩ := z1.obj hk hci g1
  obtain ⟨ty, t1, t2, t3⟩ := hT
  have hap := va_apart (own := own) hts g4 ty t2 t3 hKw.1 (ci := ci) (N := r.2.2) (C := r.1) (T := r.2.1) g1
  obtain ⟨hS, hfc, kC, hkC, hkind⟩ := hKw.1.1 ci _ g1
  obtain ⟨cf, kf, fi, f, hi, hsl⟩ := hS j g2
  have hlay := hts _ (g4 _ (u_in_lay g2))
  unfold u_lay at hlay
  rw [if_neg (by rw [hfin]; decide)] at hlay
  have hst := (u_facts hfc hkC (u_lays hts g4 g2) hi).1
  obtain ⟨v1, v2⟩ := hv ty t1
  have h6 := u_store hfc hkC hkind hlay hi (t2 j g2) v1 v2
  refine W.putK hx hb (f := f) ⟨hown, hts _ g3, ⟨_, _, _, hi⟩, hst⟩ (by rw [q2]; exact h6) q1 q3 (by rw [hsl]; exact k2_hasslot (q4 j g2)) rfl rfl hd fun H' e1 e2 e3 => ?_
  rw [hsl] at e1 ⊢
  refine kk H' _ ls (putOk z1 hk hci g1 rfl g2 q2 q3 q4 hap e1 e2 e3 k1 n1 i1 r1 s1) (fun q hq => ?_) z3
  rcases List.mem_append.mp hq with w | w
  · exact z2 q w
  · rw [List.mem_singleton.mp w]; exact hba
theorem r_putF0 {ci j index : Nat} {c : Nat} {r : vw_C} {v : Value} {h1 : Hp} {ret : Option FieldType} {KK : Option Value → Hp → Prop} (hC : Cx E X l0 own code maxL rm) (hQ : CQ E X "<init>" ret rm KK) (hd : decode code pc = .ok (.putfield index, 3)) (hF : FL own index ci j r) (hT : FT ci r) (hfin : (r.2.1 j).2.2.2 = true) (hdecl : (r.2.1 j).1 = own) (hci : ci < 19) (hk : hK h c = ci + 1)
    (hv : ∀ ty, ctys[ci]? = some ty → narrow (ty j) v = v ∧ fits (ty j) v = true)
    (k1 : ∀ d, hK h1 d = hK h d) (n1 : ∀ d, hL h1 d = hL h d) (i1 : ∀ d, d ≠ c → ∀ i, hI h1 d i = hI h d i) (r1 : ∀ d, d ≠ c → ∀ i, hR h1 d i = hR h d i) (s1 : ∀ i, sv h1 c i (rfk ci i) = if i = j then v else sv h c i (rfk ci i))
    (kk : WW E X h1 k n (pc + 3) lo st) : WW E X h k n pc lo (v :: rv c :: st) := by
  obtain ⟨p, l, e, R, s, m, args, below, meth, cd, Q⟩ := X
  obtain ⟨hx, hb, hml, hown, hts, hKw, hlk, hR, hl0⟩ := hC
  obtain ⟨-, hin, -⟩ := hQ
  intro H locs ls z1 z2 z3
  obtain ⟨g1, g2, g3, g4⟩ := hF
  obtain ⟨a, rfl, hba, cell, q1, q2, q3, q4⟩ := z1.obj hk hci g1
  obtain ⟨ty, t1, t2, t3⟩ := hT
  have hap := va_apart (own := own) hts g4 ty t2 t3 hKw.1 (ci := ci) (N := r.2.2) (C := r.1) (T := r.2.1) g1
  obtain ⟨hS, hfc, kC, hkC, hkind⟩ := hKw.1.1 ci _ g1
  obtain ⟨cf, kf, fi, f, hi, hsl⟩ := hS j g2
  have hlay := hts _ (g4 _ (u_in_lay g2))
  unfold u_lay at hlay
  rw [if_pos hfin] at hlay
  have hst := (u_facts hfc hkC (u_lays hts g4 g2) hi).1
  have hcf : m.cls = cf := by
    obtain ⟨_, _, c', _, _, _, -, -, hf', -, -, -, hown2, -⟩ := Cond.laysFinal_spec hlay
    have e1 : c' = cf := by have := hi.symm.trans hf'; simp at this; exact this.1.symm
    rw [hdecl] at hown2
    rw [← e1]; exact Option.some.inj (hown.symm.trans hown2)
  obtain ⟨v1, v2⟩ := hv ty t1
  have h6 := u_fits hfc hkC hkind (Or.inr hlay) hi (t2 j g2) v1 v2
  refine W.putFinK hx hb hown (hts _ g3) hi hst hcf hin (by rw [q2]; exact h6) q1 q3 (by rw [hsl]; exact k2_hasslot (q4 j g2)) rfl rfl hd fun H' e1 e2 e3 => ?_
  rw [hsl] at e1 ⊢
  refine kk H' _ ls (putOk z1 hk hci g1 rfl g2 q2 q3 q4 hap e1 e2 e3 k1 n1 i1 r1 s1) (fun q hq => ?_) z3
  rcases List.mem_append.mp hq with w | w
  · exact z2 q w
  · rw [List.mem_singleton.mp w]; exact hba
theorem sv_sI (c j : Nat) (v : Int32) (ci : Nat) (hrf : rfk ci j = false) (i : Nat) : sv (sI h c j v) c i (rfk ci i) = if i = j then .int v else sv h c i (rfk ci i) := by
  unfold sv
  rw [hI_sI, hR_sI]
  by_cases e : i = j
  · subst e; simp [hrf]
  · simp [e]
theorem sv_sR (c j : Nat) (v : Nat) (ci : Nat) (hrf : rfk ci j = true) (i : Nat) : sv (sR h c j v) c i (rfk ci i) = if i = j then rv v else sv h c i (rfk ci i) := by
  unfold sv
  rw [hI_sR, hR_sR]
  by_cases e : i = j
  · subst e; simp [hrf]
  · simp [e]
/-- a field's type, of a whole number that is not narrowed -/
def tyI (ci j : Nat) : Prop := ∃ ty, ctys[ci]? = some ty ∧ ty j = .int
def tyZ (ci j : Nat) : Prop := ∃ ty, ctys[ci]? = some ty ∧ ty j = .boolean
def tyR (ci j : Nat) : Prop := ∃ ty, ctys[ci]? = some ty ∧ isrf (ty j) = true
theorem tyI.ok {ci j : Nat} (h : tyI ci j) (v : Int32) : ∀ ty, ctys[ci]? = some ty → narrow (ty j) (.int v) = .int v ∧ fits (ty j) (.int v) = true := by
  obtain ⟨ty, h1, h2⟩ := h
  intro t ht
  cases h1.symm.trans ht
  rw [h2]
  exact ⟨rfl, rfl⟩
theorem tyZ.ok {ci j : Nat} (h : tyZ ci j) (v : Int32) (hv : v = 0 ∨ v = 1) : ∀ ty, ctys[ci]? = some ty → narrow (ty j) (.int v) = .int v ∧ fits (ty j) (.int v) = true := by
  obtain ⟨ty, h1, h2⟩ := h
  intro t ht
  cases h1.symm.trans ht
  rw [h2]
  rcases hv with rfl | rfl <;> exact ⟨rfl, rfl⟩
theorem tyR.ok {ci j : Nat} (h : tyR ci j) (v : Nat) : ∀ ty, ctys[ci]? = some ty → narrow (ty j) (rv v) = rv v ∧ fits (ty j) (rv v) = true := by
  obtain ⟨ty, h1, h2⟩ := h
  intro t ht
  cases h1.symm.trans ht
  generalize ty j = w at h2 ⊢
  cases w <;> first | (cases v <;> exact ⟨rfl, rfl⟩) | cases h2
theorem r_putI {ci j index : Nat} {c : Nat} {r : vw_C} {v : Int32} (hC : Cx E X l0 own code maxL rm) (hd : decode code pc = .ok (.putfield index, 3)) (hF : FL own index ci j r) (hT : FT ci r) (hfin : (r.2.1 j).2.2.2 = false) (hrf : rfk ci j = false) (hty : tyI ci j) (hci : ci < 19) (hk : hK h c = ci + 1)
    (kk : WW E X (sI h c j v) k n (pc + 3) lo st) : WW E X h k n pc lo (.int v :: rv c :: st) :=
  r_put0 (h1 := sI h c j v) hC hd hF hT hfin hci hk (hty.ok v) (fun _ => rfl) (fun _ => rfl) (fun d hd i => by rw [hI_sI, if_neg (fun q => hd q.1)]) (fun _ _ _ => rfl) (sv_sI c j v ci hrf) kk
theorem r_putZ {ci j index : Nat} {c : Nat} {r : vw_C} {v : Int32} (hC : Cx E X l0 own code maxL rm) (hd : decode code pc = .ok (.putfield index, 3)) (hF : FL own index ci j r) (hT : FT ci r) (hfin : (r.2.1 j).2.2.2 = false) (hrf : rfk ci j = false) (hty : tyZ ci j) (hci : ci < 19) (hk : hK h c = ci + 1) (hv : v = 0 ∨ v = 1)
    (kk : WW E X (sI h c j v) k n (pc + 3) lo st) : WW E X h k n pc lo (.int v :: rv c :: st) :=
  r_put0 (h1 := sI h c j v) hC hd hF hT hfin hci hk (hty.ok v hv) (fun _ => rfl) (fun _ => rfl) (fun d hd i => by rw [hI_sI, if_neg (fun q => hd q.1)]) (fun _ _ _ => rfl) (sv_sI c j v ci hrf) kk
theorem r_putR {ci j index : Nat} {c v : Nat} {r : vw_C} (hC : Cx E X l0 own code maxL rm) (hd : decode code pc = .ok (.putfield index, 3)) (hF : FL own index ci j r) (hT : FT ci r) (hfin : (r.2.1 j).2.2.2 = false) (hrf : rfk ci j = true) (hty : tyR ci j) (hci : ci < 19) (hk : hK h c = ci + 1)
    (kk : WW E X (sR h c j v) k n (pc + 3) lo st) : WW E X h k n pc lo (rv v :: rv c :: st) :=
  r_put0 (h1 := sR h c j v) hC hd hF hT hfin hci hk (hty.ok v) (fun _ => rfl) (fun _ => rfl) (fun _ _ _ => rfl) (fun d hd i => by rw [hR_sR, if_neg (fun q => hd q.1)]) (sv_sR c j v ci hrf) kk
theorem r_putFI {ci j index : Nat} {c : Nat} {r : vw_C} {v : Int32} {ret : Option FieldType} {KK : Option Value → Hp → Prop} (hC : Cx E X l0 own code maxL rm) (hQ : CQ E X "<init>" ret rm KK) (hd : decode code pc = .ok (.putfield index, 3)) (hF : FL own index ci j r) (hT : FT ci r) (hfin : (r.2.1 j).2.2.2 = true) (hdecl : (r.2.1 j).1 = own) (hrf : rfk ci j = false) (hty : tyI ci j) (hci : ci < 19) (hk : hK h c = ci + 1)
    (kk : WW E X (sI h c j v) k n (pc + 3) lo st) : WW E X h k n pc lo (.int v :: rv c :: st) :=
  r_putF0 (h1 := sI h c j v) hC hQ hd hF hT hfin hdecl hci hk (hty.ok v) (fun _ => rfl) (fun _ => rfl) (fun d hd i => by rw [hI_sI, if_neg (fun q => hd q.1)]) (fun _ _ _ => rfl) (sv_sI c j v ci hrf) kk
theorem r_putFR {ci j index : Nat} {c v : Nat} {r : vw_C} {ret : Option FieldType} {KK : Option Value → Hp → Prop} (hC : Cx E X l0 own code maxL rm) (hQ : CQ E X "<init>" ret rm KK) (hd : decode code pc = .ok (.putfield index, 3)) (hF : FL own index ci j r) (hT : FT ci r) (hfin : (r.2.1 j).2.2.2 = true) (hdecl : (r.2.1 j).1 = own) (hrf : rfk ci j = true) (hty : tyR ci j) (hci : ci < 19) (hk : hK h c = ci + 1)
    (kk : WW E X (sR h c j v) k n (pc + 3) lo st) : WW E X h k n pc lo (rv v :: rv c :: st) :=
  r_putF0 (h1 := sR h c j v) hC hQ hd hF hT hfin hdecl hci hk (hty.ok v) (fun _ => rfl) (fun _ => rfl) (fun _ _ _ => rfl) (fun d hd i => by rw [hR_sR, if_neg (fun q => hd q.1)]) (sv_sR c j v ci hrf) kk
end HEAPROWS
end
section
section ARRROWS
variable {E : Ev} {X : Xt} {l0 : Launch} {own : String} {code : ByteArray} {maxL : Nat} {rm : Room} {h : Hp} {k n pc : Nat} {lo : List (Option Value)} {st : List Value}
theorem Rep.ar {h : Hp} {H : Heap} (x : Rep E h H) {c kd d : Nat} (hk : hK h c = kd) (h20 : 20 ≤ kd) (hd : acd kd = d) : ∃ a, c = a + 1 ∧ E.2.2.1 ≤ a ∧ H[a]? = some (arrV (E.2.1 d) (hL h c) (fun i => sv h c i (decide (2 ≤ d)))) := by
  have h0 : hK h c ≠ 0 := by omega
  obtain ⟨a, rfl⟩ := x.code h0
  obtain ⟨g1, g2⟩ := x.2.2.2 _ h0
  unfold cellOk at g2
  rw [hk, if_neg (by omega), hd] at g2
  exact ⟨a, rfl, g1, g2⟩
theorem arrPut {h1 : Hp} {H H1 : Heap} {a kd d j : Nat} {v : Value} (x : Rep E h H) (hk : hK h (a + 1) = kd) (h20 : 20 ≤ kd) (hd : acd kd = d)
    (e1 : H1[a]? = some ((arrV (E.2.1 d) (hL h (a + 1)) (fun i => sv h (a + 1) i (decide (2 ≤ d)))).setSlot j v)) (e2 : H1.size = H.size) (e3 : ∀ q : Nat, q ≠ a → H1[q]? = H[q]?)
    (k1 : ∀ c, hK h1 c = hK h c) (n1 : ∀ c, hL h1 c = hL h c) (i1 : ∀ c, c ≠ a + 1 → ∀ i, hI h1 c i = hI h c i) (r1 : ∀ c, c ≠ a + 1 → ∀ i, hR h1 c i = hR h c i) (s1 : ∀ i, sv h1 (a + 1) i (decide (2 ≤ d)) = if i = j then v else sv h (a + 1) i (decide (2 ≤ d))) : Rep E h1 H1 := by
  refine x.put (c := a + 1) (by omega) k1 n1 i1 r1 e2 (fun q hq => e3 q hq) ?_
  unfold cellOk
  rw [k1, hk, if_neg (by omega), hd, n1]
  show H1[a]? = _
  rw [e1, arrV_store]
  congr 2
  funext i
  rw [s1]
  rfl
theorem sv_ii (c j : Nat) (v : Int32) (i : Nat) : sv (sI h c j v) c i false = if i = j then .int v else sv h c i false := by
  unfold sv
  rw [hI_sI, hR_sI]
  by_cases e : i = j <;> simp [e]
theorem sv_rr (c j : Nat) (v : Nat) (i : Nat) : sv (sR h c j v) c i true = if i = j then rv v else sv h c i true := by
  unfold sv
  rw [hI_sR, hR_sR]
  by_cases e : i = j <;> simp [e]
theorem r_iald {c kd : Nat} {i : Int32} (hC : Cx E X l0 own code maxL rm) (hd : decode code pc = .ok (.iaload, 1)) (h20 : 20 ≤ kd) (ha : acd kd = 0) (hk : hK h c = kd) (hin : vp_in i (hL h c)) (kk : WW E X h k n (pc + 1) lo (.int (hI h c (ix i)) :: st)) : WW E X h k n pc lo (.int i :: rv c :: st) := by
  obtain ⟨p, l, e, R, s, m, args, below, meth, cd, Q⟩ := X
  obtain ⟨hx, hb, hml, hown, hts, hKw, hlk, hR, hl0⟩ := hC
  intro H locs ls h1 h2 h3
  obtain ⟨a, rfl, -, q⟩ := h1.ar hk h20 ha
  have hlt : i.toNatClampNeg < hL h (a + 1) := Nat.not_le.mp fun q => hin (Or.inr q)
  exact W.iald (v := .int (hI h (a + 1) (ix i))) hx hb q ((hKw.arr (d := 0) (by omega)).1 _ _) (fun q => by cases q) (by rw [arrV_size]; exact hin) (by rw [arrV_read _ _ hlt]; rfl) rfl rfl hd (kk H locs ls h1 h2 h3)
theorem r_cald {c kd : Nat} {i : Int32} (hC : Cx E X l0 own code maxL rm) (hd : decode code pc = .ok (.caload, 1)) (h20 : 20 ≤ kd) (ha : acd kd = 1) (hk : hK h c = kd) (hin : vp_in i (hL h c)) (kk : WW E X h k n (pc + 1) lo (.int (hI h c (ix i)) :: st)) : WW E X h k n pc lo (.int i :: rv c :: st) := by
  obtain ⟨p, l, e, R, s, m, args, below, meth, cd, Q⟩ := X
  obtain ⟨hx, hb, hml, hown, hts, hKw, hlk, hR, hl0⟩ := hC
  intro H locs ls h1 h2 h3
  obtain ⟨a, rfl, -, q⟩ := h1.ar hk h20 ha
  have hlt : i.toNatClampNeg < hL h (a + 1) := Nat.not_le.mp fun q => hin (Or.inr q)
  exact W.cald (v := .int (hI h (a + 1) (ix i))) hx hb q ((hKw.arr (d := 1) (by omega)).1 _ _) (fun q => by cases q) (by rw [arrV_size]; exact hin) (by rw [arrV_read _ _ hlt]; rfl) rfl rfl hd (kk H locs ls h1 h2 h3)
theorem r_aald {c kd d : Nat} {i : Int32} (hC : Cx E X l0 own code maxL rm) (hd : decode code pc = .ok (.aaload, 1)) (h20 : 20 ≤ kd) (ha : acd kd = d) (hd2 : 2 ≤ d) (hk : hK h c = kd) (hin : vp_in i (hL h c)) (kk : WW E X h k n (pc + 1) lo (rv (hR h c (ix i)) :: st)) : WW E X h k n pc lo (.int i :: rv c :: st) := by
  obtain ⟨p, l, e, R, s, m, args, below, meth, cd, Q⟩ := X
  obtain ⟨hx, hb, hml, hown, hts, hKw, hlk, hR0, hl0⟩ := hC
  intro H locs ls h1 h2 h3
  obtain ⟨a, rfl, -, q⟩ := h1.ar hk h20 ha
  have hd4 : d < 4 := by rw [← ha]; exact acd_lt _
  have hlt : i.toNatClampNeg < hL h (a + 1) := Nat.not_le.mp fun q => hin (Or.inr q)
  have hty : (aty d).isReference = true := by
    rcases (show d = 2 ∨ d = 3 by omega) with rfl | rfl <;> rfl
  refine W.aald (v := rv (hR h (a + 1) (ix i))) (ty := aty d) hx hb q ((hKw.arr hd4).1 _ _) hty (fun q => by cases q) (by rw [arrV_size]; exact hin) ?_ rfl rfl hd (kk H locs ls h1 h2 h3)
  rw [arrV_read _ _ hlt]
  unfold sv
  rw [if_pos (by simpa using hd2)]
  rfl
theorem r_alen {c kd : Nat} (hC : Cx E X l0 own code maxL rm) (hd : decode code pc = .ok (.arraylength, 1)) (h20 : 20 ≤ kd) (hk : hK h c = kd) (kk : WW E X h k n (pc + 1) lo (.int (nI (hL h c)) :: st)) : WW E X h k n pc lo (rv c :: st) := by
  obtain ⟨p, l, e, R, s, m, args, below, meth, cd, Q⟩ := X
  obtain ⟨hx, hb, hml, hown, hts, hKw, hlk, hR0, hl0⟩ := hC
  intro H locs ls h1 h2 h3
  obtain ⟨a, rfl, -, q⟩ := h1.ar hk h20 rfl
  exact W.alen (n := nI (hL h (a + 1))) hx hb q ((hKw.arr (acd_lt kd)).1 _ _) (by rw [arrV_size]; rfl) rfl rfl hd (kk H locs ls h1 h2 h3)
theorem r_iast {c kd : Nat} {i v : Int32} (hC : Cx E X l0 own code maxL rm) (hd : decode code pc = .ok (.iastore, 1)) (h20 : 20 ≤ kd) (ha : acd kd = 0) (hk : hK h c = kd) (hin : vp_in i (hL h c)) (kk : WW E X (sI h c (ix i) v) k n (pc + 1) lo st) : WW E X h k n pc lo (.int v :: .int i :: rv c :: st) := by
  obtain ⟨p, l, e, R, s, m, args, below, meth, cd, Q⟩ := X
  obtain ⟨hx, hb, hml, hown, hts, hKw, hlk, hR0, hl0⟩ := hC
  intro H locs ls h1 h2 h3
  obtain ⟨a, rfl, hba, q⟩ := h1.ar hk h20 ha
  refine W.iast hx hb q ((hKw.arr (d := 0) (by omega)).1 _ _) (fun q => by cases q) (by rw [arrV_size]; exact hin) rfl rfl hd fun H' e1 e2 e3 => ?_
  refine kk H' _ ls (arrPut h1 hk h20 ha e1 e2 e3 (fun _ => rfl) (fun _ => rfl) (fun d hd i => by rw [hI_sI, if_neg (fun q => hd q.1)]) (fun _ _ _ => rfl) (fun i => sv_ii _ _ _ _)) (fun q hq => ?_) h3
  rcases List.mem_append.mp hq with w | w
  · exact h2 q w
  · rw [List.mem_singleton.mp w]; exact hba
theorem r_cast {c kd : Nat} {i v : Int32} (hC : Cx E X l0 own code maxL rm) (hd : decode code pc = .ok (.castore, 1)) (h20 : 20 ≤ kd) (ha : acd kd = 1) (hk : hK h c = kd) (hin : vp_in i (hL h c)) (kk : WW E X (sI h c (ix i) (cn v)) k n (pc + 1) lo st) : WW E X h k n pc lo (.int v :: .int i :: rv c :: st) := by
  obtain ⟨p, l, e, R, s, m, args, below, meth, cd, Q⟩ := X
  obtain ⟨hx, hb, hml, hown, hts, hKw, hlk, hR0, hl0⟩ := hC
  intro H locs ls h1 h2 h3
  obtain ⟨a, rfl, hba, q⟩ := h1.ar hk h20 ha
  refine W.cast hx hb q ((hKw.arr (d := 1) (by omega)).1 _ _) (fun q => by cases q) (by rw [arrV_size]; exact hin) rfl rfl hd fun H' e1 e2 e3 => ?_
  refine kk H' _ ls (arrPut (v := .int (cn v)) h1 hk h20 ha e1 e2 e3 (fun _ => rfl) (fun _ => rfl) (fun d hd i => by rw [hI_sI, if_neg (fun q => hd q.1)]) (fun _ _ _ => rfl) (fun i => sv_ii _ _ _ _)) (fun q hq => ?_) h3
  rcases List.mem_append.mp hq with w | w
  · exact h2 q w
  · rw [List.mem_singleton.mp w]; exact hba
/-- an object's class, from its kind -/
theorem Rep.cell {h : Hp} {H : Heap} {s : State} (x : Rep E h H) (hKw : Kw E s) {c ci : Nat} (hk : hK h c = ci + 1) (hci : ci < 19) {r : vw_C} (hr : cls[ci]? = some r) : ∃ a cell, c = a + 1 ∧ H[a]? = some cell ∧ cell.vm = .none ∧ cell.cls = E.1.1 ci ∧ ClassAt s r.1 (E.1.1 ci) := by
  obtain ⟨a, rfl, -, cell, q1, q2, q3, q4⟩ := x.obj hk hci hr
  exact ⟨a, cell, rfl, q1, q3, q2, (hKw.1.1 ci _ hr).2⟩
theorem r_aast {c kd d v ci : Nat} {i : Int32} {r : vw_C} (hC : Cx E X l0 own code maxL rm) (hd : decode code pc = .ok (.aastore, 1)) (h20 : 20 ≤ kd) (ha : acd kd = d) (hd2 : 2 ≤ d) (hci : ci < 19) (hr : cls[ci]? = some r) (hty : aty d = .object r.1) (hk : hK h c = kd) (hin : vp_in i (hL h c)) (hv : v = 0 ∨ hK h v = ci + 1) (kk : WW E X (sR h c (ix i) v) k n (pc + 1) lo st) : WW E X h k n pc lo (rv v :: .int i :: rv c :: st) := by
  obtain ⟨p, l, e, R, s, m, args, below, meth, cd, Q⟩ := X
  obtain ⟨hx, hb, hml, hown, hts, hKw, hlk, hR0, hl0⟩ := hC
  intro H locs ls h1 h2 h3
  obtain ⟨a, rfl, hba, q⟩ := h1.ar hk h20 ha
  have hd4 : d < 4 := by rw [← ha]; exact acd_lt _
  have hlt : i.toNatClampNeg < hL h (a + 1) := Nat.not_le.mp fun q => hin (Or.inr q)
  have h0 : ¬ i < 0 := fun q => hin (Or.inl q)
  have hdd : decide (2 ≤ d) = true := by simpa using hd2
  have fin : ∀ H' : Heap, H'[a]? = some ((arrV (E.2.1 d) (hL h (a + 1)) (fun i => sv h (a + 1) i (decide (2 ≤ d)))).setSlot i.toNatClampNeg (rv v)) → H'.size = H.size → (∀ q : Nat, q ≠ a → H'[q]? = H[q]?) → W p l e R s m args below meth cd H' (locs ++ [⟨a, i.toNatClampNeg⟩]) k n Q (F0 m (pc + 1) ls st) := by
    intro H' e1 e2 e3
    refine kk H' _ ls (arrPut h1 hk h20 ha e1 e2 e3 (fun _ => rfl) (fun _ => rfl) (fun _ _ _ => rfl) (fun d hd i => by rw [hR_sR, if_neg (fun q => hd q.1)]) (fun i => by rw [hdd]; exact sv_rr _ _ _ _)) (fun q hq => ?_) h3
    rcases List.mem_append.mp hq with w | w
    · exact h2 q w
    · rw [List.mem_singleton.mp w]; exact hba
  have hArr := hKw.arr hd4
  rw [hty] at hArr
  rcases hv with rfl | hv
  · exact va_WaastN (C := r.1) hx hb q (hArr.1 _ _) (fun h => by cases h) (by rw [arrV_size]; exact hin) rfl rfl hd fin
  · obtain ⟨b, cellV, rfl, g1, g3, g2, hcls⟩ := h1.cell hKw hv hci hr
    obtain ⟨kA, comp, k1, k2, k3, -⟩ := hArr.2
    have hcomp : comp = E.1.1 ci := Option.some.inj (k3.symm.trans hcls.1)
    subst hcomp
    obtain ⟨kC, hkC, -⟩ := hcls.2
    exact W.aast hx hb q (fun q h => by cases h) (fun h => by cases h) k1 k2 rfl hkC ⟨h0, by rw [arrV_size]; exact hlt⟩ g1 (fun q h => by rw [g3] at h; cases h) (by rw [g2]; exact hkC) (by rw [g2]; exact va_assign hcls) rfl rfl hd fin
/-- the classes' fields at their birth -/
def DF (ci N : Nat) : Prop := ∃ ty, ctys[ci]? = some ty ∧ ∀ j, j < N → defaultValue (ty j) = if isrf (ty j) = true then .null else .int 0
theorem r_new {ci N index : Nat} {C : String} {T : u_T} (hC : Cx E X l0 own code maxL rm) (hd : decode code pc = .ok (.new index, 3)) (hcl : Cond.classLink own index C ∈ lwG) (hins : Cond.instantiable C N ∈ lwG) (hini : Cond.initialized C ∈ lwG) (hr : cls[ci]? = some (C, T, N)) (hw : ∀ w ∈ u_ws C T N, w ∈ lwG) (hT : FT ci (C, T, N)) (hDF : DF ci N) (hci : ci < 19)
    (hrm : k + 1 ≤ rm.cells ∧ n + N ≤ rm.slots) (kk : ∀ q, q ≠ 0 → hK h q = 0 → WW E X (nN h q (ci + 1) 0) (k + 1) (n + N) (pc + 3) lo (rv q :: st)) : WW E X h k n pc lo st := by
  obtain ⟨p, l, e, R, s, m, args, below, meth, cd, Q⟩ := X
  obtain ⟨hx, hb, hml, hown, hts, hKw, hlk, hR0, hl0⟩ := hC
  intro H locs ls h1 h2 h3
  subst hR0
  have hKn := hKw.1.1 ci _ hr
  obtain ⟨ty, t1, t2, t3⟩ := hT
  obtain ⟨ty', t1', hdf⟩ := hDF
  cases t1.symm.trans t1'
  refine W.newcK hx hb hown (hts _ hcl) (hts _ hins) (hts _ hini) rfl hd hrm.1 hrm.2 hKn.2.1 rfl fun H1 kC hkC e1 z1 o1 => ?_
  have hB := u_born ty hts hw hKn hkC e1 t2
  have y : cellOk E (nN h (H.size + 1) (ci + 1) 0) H1 (H.size + 1) := by
    unfold cellOk
    rw [hK_nN, if_pos rfl, if_pos (by omega)]
    refine ⟨_, hr, hB.to (fun j hj => ?_)⟩
    rw [hdf j hj]
    unfold sv rfk
    rw [hI_nN, hR_nN, if_pos rfl, if_pos rfl, show ci + 1 - 1 = ci by omega, t1]
    rfl
  obtain ⟨g1, g2⟩ := h1.new (by omega) z1 o1 y
  exact kk (H.size + 1) (by omega) g1 H1 locs ls g2 h2 h3
theorem r_newarr {kd d N : Nat} {atype : ArrayType} {v : Int32} (hC : Cx E X l0 own code maxL rm) (hd : decode code pc = .ok (.newarray atype, 2)) (h20 : 20 ≤ kd) (ha : acd kd = d) (hd2 : d < 2) (hty : newarray.typeOf atype = aty d) (hw : Cond.arrayClass (aty d) ∈ lwG) (hv : ¬ v < 0) (hN : v.toNatClampNeg = N) (hN2 : N ≤ 100000)
    (hrm : k + 1 ≤ rm.cells ∧ n + N ≤ rm.slots) (kk : ∀ q, q ≠ 0 → hK h q = 0 → WW E X (nN h q kd N) (k + 1) (n + N) (pc + 2) lo (rv q :: st)) : WW E X h k n pc lo (.int v :: st) := by
  obtain ⟨p, l, e, R, s, m, args, below, meth, cd, Q⟩ := X
  obtain ⟨hx, hb, hml, hown, hts, hKw, hlk, hR0, hl0⟩ := hC
  intro H locs ls h1 h2 h3
  subst hR0
  have hb2 : N * componentBytes (newarray.typeOf atype) ≤ 536870912 := by
    rw [hty]
    rcases (show d = 0 ∨ d = 1 by omega) with rfl | rfl
    · show N * 4 ≤ _; omega
    · show N * 2 ≤ _; omega
  refine va_newaK hx hb (by rw [hty]; exact hts _ hw) rfl hd rfl hv hN hb2 hrm.1 hrm.2 rfl fun H1 cA e1 z1 o1 hAr hNm => ?_
  have hcA : cA = E.2.1 d := by
    have g := (hKw.arr (d := d) (by omega)).2
    rw [hty] at hNm
    rcases (show d = 0 ∨ d = 1 by omega) with rfl | rfl
    · exact Option.some.inj (hNm.symm.trans g)
    · exact Option.some.inj (hNm.symm.trans g)
  subst hcA
  have hdv : defaultValue (newarray.typeOf atype) = .int 0 := by
    rw [hty]
    rcases (show d = 0 ∨ d = 1 by omega) with rfl | rfl <;> rfl
  have y : cellOk E (nN h (H.size + 1) kd N) H1 (H.size + 1) := by
    unfold cellOk
    rw [hK_nN, if_pos rfl, if_neg (by omega), ha, hL_nN, if_pos rfl]
    show H1[H.size]? = _
    rw [e1, hdv]
    congr 2
    funext i
    unfold sv
    rw [if_neg (by simp; omega), hI_nN, if_pos rfl]
  obtain ⟨g1, g2⟩ := h1.new (by omega) z1 o1 y
  exact kk (H.size + 1) (by omega) g1 H1 locs ls g2 h2 h3
theorem r_anew {kd d N index : Nat} {C : String} {v : Int32} (hC : Cx E X l0 own code maxL rm) (hd : decode code pc = .ok (.anewarray index, 3)) (h20 : 20 ≤ kd) (ha : acd kd = d) (hd2 : d = 2 ∨ d = 3) (hty : aty d = .object C) (hw : Cond.classLink own index C ∈ lwG) (hv : ¬ v < 0) (hN : v.toNatClampNeg = N) (hN2 : N ≤ 100000)
    (hrm : k + 1 ≤ rm.cells ∧ n + N ≤ rm.slots) (kk : ∀ q, q ≠ 0 → hK h q = 0 → WW E X (nN h q kd N) (k + 1) (n + N) (pc + 3) lo (rv q :: st)) : WW E X h k n pc lo (.int v :: st) := by
  obtain ⟨p, l, e, R, s, m, args, below, meth, cd, Q⟩ := X
  obtain ⟨hx, hb, hml, hown, hts, hKw, hlk, hR0, hl0⟩ := hC
  intro H locs ls h1 h2 h3
  subst hR0; subst hN
  have hAO : va_AO C s := by
    rcases hd2 with rfl | rfl
    · cases hty; exact hKw.2.2.1
    · cases hty; exact hKw.2.2.2
  have hd4 : d < 4 := by omega
  refine W.anew hx hb hown (hts _ hw) (va_AO.use hAO) rfl hd rfl hv (by omega) hrm.1 hrm.2 fun cA kA comp f1 f2 f3 f4 => ?_
  have hcA : cA = E.2.1 d := by
    have g := (hKw.arr hd4).2
    rw [hty] at g
    obtain ⟨_, _, _, _, _, g4⟩ := g
    exact Option.some.inj (f1.symm.trans g4)
  subst hcA
  generalize hH1 : H.push ({ cls := E.2.1 d, slots := Array.replicate v.toNatClampNeg .null, vm := .none } : Cell) = H1
  have z1 : H1.size = H.size + 1 := by rw [← hH1, Array.size_push]
  have e1 : H1[H.size]? = some (arrV (E.2.1 d) v.toNatClampNeg (fun _ => .null)) := by rw [← hH1, Array.getElem?_push_size, ← arrV_new]
  have o1 : ∀ q : Nat, q < H.size → H1[q]? = H[q]? := fun q hq => by rw [← hH1, Array.getElem?_push, if_neg (Nat.ne_of_lt hq)]
  have y : cellOk E (nN h (H.size + 1) kd v.toNatClampNeg) H1 (H.size + 1) := by
    unfold cellOk
    rw [hK_nN, if_pos rfl, if_neg (by omega), ha, hL_nN, if_pos rfl]
    show H1[H.size]? = _
    rw [e1]
    congr 2
    funext i
    unfold sv
    rw [if_pos (by simp; omega), hR_nN, if_pos rfl]
    rfl
  obtain ⟨g1, g2⟩ := h1.new (by omega) z1 o1 y
  exact kk (H.size + 1) (by omega) g1 H1 locs ls g2 h2 h3
theorem r_min {index : Nat} {x y : Int32} (hC : Cx E X l0 own code maxL rm) (hd : decode code pc = .ok (.invokestatic index, 3)) (hlen : lo.length = maxL) (hl : Cond.methodLink own index Lib.Math.min.name ∈ lwG) (hs : Cond.static Lib.Math.min.name ∈ lwG) (hi : Cond.initialized "java/lang/Math" ∈ lwG) (hc : Cond.code Lib.Math.min.name Lib.Math.min.code 2 (some .int) ∈ lwG)
    (hrm : 1 ≤ rm.frames ∧ (st.map fun v => v.category).sum + 13 ≤ rm.locals ∧ k ≤ rm.cells ∧ n ≤ rm.slots) (kk : WW E X h k n (pc + 3) lo (.int (if y < x then y else x) :: st)) : WW E X h k n pc lo (.int y :: .int x :: st) := by
  obtain ⟨p, l, e, R, s, m, args, below, meth, cd, Q⟩ := X
  obtain ⟨hx, hb, hml, hown, hts, hKw, hlk, hR0, hl0⟩ := hC
  intro H locs ls h1 h2 h3
  subst hR0
  exact va_mmin hx hb (by rw [hml, h3.1, hlen]) hown (hts _ hl) (hts _ hs) (hts _ hi) (hts _ hc) hrm.1 hrm.2.1 hrm.2.2.1 hrm.2.2.2 hd (kk H locs ls h1 h2 h3)
theorem r_max {index : Nat} {x y : Int32} (hC : Cx E X l0 own code maxL rm) (hd : decode code pc = .ok (.invokestatic index, 3)) (hlen : lo.length = maxL) (hl : Cond.methodLink own index Lib.Math.max.name ∈ lwG) (hs : Cond.static Lib.Math.max.name ∈ lwG) (hi : Cond.initialized "java/lang/Math" ∈ lwG) (hc : Cond.code Lib.Math.max.name Lib.Math.max.code 2 (some .int) ∈ lwG)
    (hrm : 1 ≤ rm.frames ∧ (st.map fun v => v.category).sum + 13 ≤ rm.locals ∧ k ≤ rm.cells ∧ n ≤ rm.slots) (kk : WW E X h k n (pc + 3) lo (.int (if x < y then y else x) :: st)) : WW E X h k n pc lo (.int y :: .int x :: st) := by
  obtain ⟨p, l, e, R, s, m, args, below, meth, cd, Q⟩ := X
  obtain ⟨hx, hb, hml, hown, hts, hKw, hlk, hR0, hl0⟩ := hC
  intro H locs ls h1 h2 h3
  subst hR0
  exact va_mmax hx hb (by rw [hml, h3.1, hlen]) hown (hts _ hl) (hts _ hs) (hts _ hi) (hts _ hc) hrm.1 hrm.2.1 hrm.2.2.1 hrm.2.2.2 hd (kk H locs ls h1 h2 h3)
theorem clamp_int {z : Int32} (hz : ¬ z < 0) : z.toInt = (z.toNatClampNeg : Int) := by
  have hz0 : (0 : Int) ≤ z.toInt := by
    have := Int32.not_lt.mp hz
    simpa using Int32.le_iff_toInt_le.mp this
  show z.toInt = ((z.toInt.toNat : Nat) : Int)
  omega
theorem r_copy {index a b kd : Nat} {sp dp z : Int32} (hC : Cx E X l0 own code maxL rm) (hd : decode code pc = .ok (.invokestatic index, 3)) (hlen : lo.length = maxL) (hl : Cond.methodLink own index arraycopyName ∈ lwG) (hn : Cond.native arraycopyName ∈ lwG) (hs : Cond.static arraycopyName ∈ lwG) (hi : Cond.initialized "java/lang/System" ∈ lwG)
    (hrm : 1 ≤ rm.frames ∧ (st.map fun v => v.category).sum + 18 ≤ rm.locals) (h20 : 20 ≤ kd) (ha : acd kd = 0) (ka : hK h a = kd) (kb : hK h b = kd) (g1 : ¬ sp < 0) (g2 : ¬ dp < 0) (g3 : ¬ z < 0) (g4 : ix sp + ix z ≤ hL h a) (g5 : ix dp + ix z ≤ hL h b)
    (kk : WW E X (cpI h a (ix sp) b (ix dp) (ix z)) k n (pc + 3) lo st) : WW E X h k n pc lo (.int z :: .int dp :: rv b :: .int sp :: rv a :: st) := by
  obtain ⟨p, l, e, R, s, m, args, below, meth, cd, Q⟩ := X
  obtain ⟨hx, hb, hml, hown, hts, hKw, hlk, hR0, hl0⟩ := hC
  intro H locs ls h1 h2 h3
  subst hR0
  obtain ⟨a0, rfl, hba, qa⟩ := h1.ar ka h20 ha
  obtain ⟨b0, rfl, hbb, qb⟩ := h1.ar kb h20 ha
  have hda : decide (2 ≤ 0) = false := rfl
  rw [hda] at qa qb
  have ea : (fun i => sv h (a0 + 1) i false) = fun i => Value.int (hI h (a0 + 1) i) := by funext i; rfl
  have eb : (fun i => sv h (b0 + 1) i false) = fun i => Value.int (hI h (b0 + 1) i) := by funext i; rfl
  rw [ea] at qa
  rw [eb] at qb
  have hnf : nativeFrameWords "java/lang/System" "arraycopy" 5 = 7 := by decide +kernel
  intro T hT X
  obtain ⟨hob, k0, hk0, cm0, hkk0⟩ := (hKw.arr (d := 0) (by omega)).1 (hL h (a0 + 1)) (fun i => .int (hI h (a0 + 1) i))
  obtain ⟨hob1, k1, hk1, cm1, hkk1⟩ := (hKw.arr (d := 0) (by omega)).1 (hL h (b0 + 1)) (fun i => .int (hI h (b0 + 1) i))
  obtain ⟨vm', X', step⟩ := X.arraycopy hx hown (hts _ hl) (hts _ hn) (hts _ hs) (hts _ hi) (src := a0) (dst := b0) (srcPos := sp) (destPos := dp) (n := z) (by rw [hT]; exact qa) (by rw [hT]; exact qb)
    (fun _ h => by cases h) (fun _ h => by cases h) (fun h => by cases h) (fun h => by cases h) hk0 hk1 hkk0 hkk1 (by simp [refKind, aty]) g1 g2 g3
    (by rw [clamp_int g1, clamp_int g3, arrV_size]; have := g4; unfold ix at this; omega)
    (by rw [clamp_int g2, clamp_int g3, arrV_size]; have := g5; unfold ix at this; omega)
    (fun vm₁ _ i hi => by
      have e : (arrV (E.2.1 0) (hL h (a0 + 1)) (fun i => Value.int (hI h (a0 + 1) i))).slots.getD (sp.toNatClampNeg + i) .null = .int (hI h (a0 + 1) (sp.toNatClampNeg + i)) := by
        rw [Array.getD_eq_getD_getElem?, arrV_read _ _ (by have := g4; unfold ix at this; omega)]
        rfl
      refine ⟨?_, ?_⟩
      · rw [e]
        rfl
      · rw [e]
        exact trivial)
    (g := F0 m pc ls (.int z :: .int dp :: .ref b0 :: .int sp :: .ref a0 :: st)) rfl (by rw [hml, ← hlen]; exact h3.1) (rest := st) rfl (by rw [hb]; exact hd) hrm.1 (by rw [hnf]; have := hrm.2; show 2 * 0 + _ + _ ≤ _; omega)
  have e1 : copied (arrV (E.2.1 0) (hL h (a0 + 1)) (fun i => Value.int (hI h (a0 + 1) i))) (arrV (E.2.1 0) (hL h (b0 + 1)) (fun i => Value.int (hI h (b0 + 1) i))) sp dp z = arrV (E.2.1 0) (hL h (b0 + 1)) (fun i => .int (va_cpy (hI h (a0 + 1)) (hI h (b0 + 1)) sp.toNatClampNeg dp.toNatClampNeg z.toNatClampNeg i)) := va_copied (fun z => .int z) (E.2.1 0) (E.2.1 0) (hI h (a0 + 1)) (hI h (b0 + 1)) g4
  rw [e1] at X' step
  have hl : b0 < H.size := (Array.getElem?_eq_some_iff.mp qb).1
  generalize hnc : arrV (E.2.1 0) (hL h (b0 + 1)) (fun i => Value.int (va_cpy (hI h (a0 + 1)) (hI h (b0 + 1)) sp.toNatClampNeg dp.toNatClampNeg z.toNatClampNeg i)) = nc at X' step
  have hheap : ((T.setVm vm').setCell b0 nc).heap = H.setIfInBounds b0 nc := by rw [← hT]; rfl
  have oq : ∀ q : Nat, q ≠ b0 → (H.setIfInBounds b0 nc)[q]? = H[q]? := fun q hq => by simp [Array.getElem?_setIfInBounds, Ne.symm hq]
  have y : Rep E (cpI h (a0 + 1) (ix sp) (b0 + 1) (ix dp) (ix z)) (H.setIfInBounds b0 nc) := by
    refine h1.put (c := b0 + 1) (by omega) (fun _ => rfl) (fun _ => rfl) (fun d hd i => by rw [hI_cp, if_neg (fun q => hd q.1)]) (fun _ _ _ => rfl) (by simp) (fun q hq => oq q hq) ?_
    unfold cellOk
    rw [hK_cp, kb, if_neg (by omega), ha]
    show (H.setIfInBounds b0 nc)[b0]? = _
    rw [← hnc]
    simp only [Array.getElem?_setIfInBounds, hl, if_true]
    congr 2
    funext i
    unfold sv
    rw [if_neg (by decide), hI_cp]
    unfold va_cpy ix
    simp only [true_and]
  obtain ⟨t, a1, b1⟩ := kk _ _ ls y (fun q hq => by
      rcases List.mem_append.mp hq with w | w
      · exact h2 q w
      · obtain ⟨z, -, hz⟩ := List.mem_map.mp w
        rw [← hz]
        exact hbb) h3 _ hheap X'
  exact ⟨t, step t a1, b1⟩
end ARRROWS
end
section
section CALLROWS
variable {E : Ev} {X : Xt} {l0 : Launch} {own : String} {code : ByteArray} {maxL : Nat} {rm : Room} {h : Hp} {k n pc : Nat} {lo : List (Option Value)} {st : List Value}
/-- what the tables say of a method, for its callers -/
def CF (y : MethodName) (bytes : ByteArray) (mL : Nat) (ret : Option FieldType) (nA : Nat) : Prop := Cond.code y bytes mL ret ∈ lwG ∧ Cond.initialized y.cls ∈ lwG ∧ y.cls ≠ "java/lang/invoke/MethodHandle" ∧ y.cls ≠ "java/lang/invoke/VarHandle" ∧ (parseMethodDescriptor y.desc).map (fun d => d.parameters.length) = some nA
theorem lw_goodIn {y z : MethodName} {bytes bz : ByteArray} {mL mz : Nat} {ret rz : Option FieldType} (hc : Cond.code y bytes mL ret ∈ lwG) : GoodIn lwG (.code y bytes mL ret :: lwG) := by
  intro w hw
  rcases List.mem_cons.mp hw with rfl | hw
  · exact ⟨hc, good_of_word (lwG_good _ hc)⟩
  · exact ⟨hw, good_of_word (lwG_good _ hw)⟩
theorem RU.blind (As : List Value) (h : Hp) : FrameBlind (va_Pc As (RU E h)) := fun a U g mk q => ⟨q.1, q.2.1, va_K.moved (u := U) (U := U.calling g mk a) (Vm.Alike.refl U.vm) q.2.2.1, fun z hz => va_Nw.same rfl rfl (q.2.2.2.1 z hz), q.2.2.2.2.1, q.2.2.2.2.2⟩
/-- behind a call -/
theorem behind {p : Program} {l : Launch} {e : Env} {R : Room} {s : State} {m : MethodId} {args : Array Value} {below : List Frame} {meth : Method} {c : Code} {H : Heap} {locs : List Loc} {cells slots mc ms : Nat} {Q : State → Prop} {ls : Array Slot} {st0 rest : List Value} {KK : Option Value → Hp → Prop}
    (hr : va_Run p l e R s m args below meth c H locs cells slots mc ms (F0 m pc ls st0) rest (fun _ o t => ∃ v h1, o = .returned v ∧ Rep E h1 t.heap ∧ KK v h1) (fun q => E.2.2.1 ≤ q)) (h2 : ∀ q ∈ locs, E.2.2.1 ≤ q.base) (h3 : LR ls lo)
    (kk : ∀ v h1, KK v h1 → WW E (p, l, e, R, s, m, args, below, meth, c, Q) h1 (cells + mc) (slots + ms) (pc + 3) lo (v.toList ++ rest)) : W p l e R s m args below meth c H locs cells slots Q (F0 m pc ls st0) := by
  intro T hT X
  obtain ⟨v, st₀, t, T', L, h0, X', hL, e1, e2, ⟨v', h1, hv, hR, hK⟩, st⟩ := hr T hT X
  cases hv
  obtain ⟨t2, a1, b1⟩ := kk v h1 hK T'.heap (locs ++ L) ls (by rw [e1]; exact hR) (fun q hq => by
    rcases List.mem_append.mp hq with w | w
    · exact h2 q w
    · exact hL q w) h3 T' rfl X'
  exact ⟨t2, st t2 a1, b1⟩
/-- the room that a call asks of its caller -/
def RM (rm rmc : Room) (k n mL : Nat) (rest : List Value) : Prop := rmc.frames + 1 ≤ rm.frames ∧ 8 + (mL + 11) + rmc.locals ≤ rm.locals ∧ k + rmc.cells ≤ rm.cells ∧ n + rmc.slots ≤ rm.slots ∧ (rest.map fun v => v.category).sum ≤ 8
theorem r_callV {index ci : Nat} {c : Nat} {y : MethodName} {bytes : ByteArray} {mL nA : Nat} {ret : Option FieldType} {rmc : Room} {As : List Value} {r : vw_C} {KK : Option Value → Hp → Prop}
    (hC : Cx E X l0 own code maxL rm) (hd : decode code pc = .ok (.invokevirtual index, 3)) (hlen : lo.length = maxL) (hF : CF y bytes mL ret nA) (hl : Cond.methodLink own index y ∈ lwG) (hi : Cond.instanceMethod y ∈ lwG) (hs : Cond.selects y.cls y y ∈ lwG)
    (hci : ci < 19) (hr : cls[ci]? = some r) (hry : r.1 = y.cls) (hk : hK h c = ci + 1) (hA : As.length = nA) (hrm : RM rm rmc k n mL st) (hcon : Con E l0 y bytes mL ret rmc (rv c :: As) h KK)
    (kk : ∀ v h1, KK v h1 → WW E X h1 (k + rmc.cells) (n + rmc.slots) (pc + 3) lo (v.toList ++ st)) : WW E X h k n pc lo (As.reverse ++ rv c :: st) := by
  obtain ⟨p, l, e, R, s, m, args, below, meth, cd, Q⟩ := X
  obtain ⟨hx, hb, hml, hown, hts, hKw, hlk, hR0, hl0⟩ := hC
  intro H locs ls h1 h2 h3
  subst hR0; subst hl0
  obtain ⟨g1, g2, g3, g4, g5⟩ := hF
  obtain ⟨b, cell, rfl, q1, q2, q3, q4⟩ := h1.cell hKw hk hci hr
  refine behind (va_runV (As := As) (rest := st) ⟨hx, hb, hml, hown, hts⟩ hcon ⟨callB_of nA hts (lw_goodIn (y := y) (z := y) (bz := bytes) (mz := 0) (rz := none) g1) rfl rfl rfl (hts _ g2) (hts _ hl) ⟨g3, g4, g5⟩ ⟨hrm.1, hrm.2.1⟩, hts _ hi, hts _ hs⟩ ⟨RU.blind _ _, ⟨cell, q1, by rw [q2]; rfl, by rw [q3, ← hry]; exact q4.1⟩, fun U hU hW => ⟨rfl, by rw [hU]; exact h1, hKw.warm hW⟩⟩ rfl hA (by rw [h3.1, hlen]) rfl (lv_room hrm.2.2.2.2) hd ⟨hrm.2.2.1, hrm.2.2.2.1⟩) h2 h3 kk
theorem r_callS {index : Nat} {y : MethodName} {bytes : ByteArray} {mL nA : Nat} {ret : Option FieldType} {rmc : Room} {As : List Value} {KK : Option Value → Hp → Prop}
    (hC : Cx E X l0 own code maxL rm) (hd : decode code pc = .ok (.invokestatic index, 3)) (hlen : lo.length = maxL) (hF : CF y bytes mL ret nA) (hl : Cond.methodLink own index y ∈ lwG) (hi : Cond.static y ∈ lwG)
    (hA : As.length = nA) (hrm : RM rm rmc k n mL st) (hcon : Con E l0 y bytes mL ret rmc As h KK)
    (kk : ∀ v h1, KK v h1 → WW E X h1 (k + rmc.cells) (n + rmc.slots) (pc + 3) lo (v.toList ++ st)) : WW E X h k n pc lo (As.reverse ++ st) := by
  obtain ⟨p, l, e, R, s, m, args, below, meth, cd, Q⟩ := X
  obtain ⟨hx, hb, hml, hown, hts, hKw, hlk, hR0, hl0⟩ := hC
  intro H locs ls h1 h2 h3
  subst hR0; subst hl0
  obtain ⟨g1, g2, g3, g4, g5⟩ := hF
  refine behind (va_runS (As := As) (rest := st) ⟨hx, hb, hml, hown, hts⟩ hcon ⟨callB_of nA hts (lw_goodIn (y := y) (z := y) (bz := bytes) (mz := 0) (rz := none) g1) rfl rfl rfl (hts _ g2) (hts _ hl) ⟨g3, g4, g5⟩ ⟨hrm.1, hrm.2.1⟩, hts _ hi⟩ ⟨RU.blind _ _, fun U hU hW => ⟨rfl, by rw [hU]; exact h1, hKw.warm hW⟩⟩ rfl hA (by rw [h3.1, hlen]) rfl (lv_room hrm.2.2.2.2) hd ⟨hrm.2.2.1, hrm.2.2.2.1⟩) h2 h3 kk
theorem r_callI {index : Nat} {c : Nat} {y : MethodName} {bytes : ByteArray} {mL nA : Nat} {rmc : Room} {As : List Value} {KK : Option Value → Hp → Prop}
    (hC : Cx E X l0 own code maxL rm) (hd : decode code pc = .ok (.invokespecial index, 3)) (hlen : lo.length = maxL) (hF : CF y bytes mL none nA) (hl : Cond.methodLink own index y ∈ lwG) (hy : y.name = "<init>") (hi : Cond.instanceMethod y ∈ lwG)
    (hc0 : c ≠ 0) (hA : As.length = nA) (hrm : RM rm rmc k n mL st) (hcon : Con E l0 y bytes mL none rmc (rv c :: As) h KK)
    (kk : ∀ v h1, KK v h1 → WW E X h1 (k + rmc.cells) (n + rmc.slots) (pc + 3) lo (v.toList ++ st)) : WW E X h k n pc lo (As.reverse ++ rv c :: st) := by
  obtain ⟨p, l, e, R, s, m, args, below, meth, cd, Q⟩ := X
  obtain ⟨hx, hb, hml, hown, hts, hKw, hlk, hR0, hl0⟩ := hC
  intro H locs ls h1 h2 h3
  subst hR0; subst hl0
  obtain ⟨g1, g2, g3, g4, g5⟩ := hF
  obtain ⟨b, rfl⟩ : ∃ b, c = b + 1 := ⟨c - 1, by omega⟩
  refine behind (va_runI (As := As) (rest := st) (b := b) ⟨hx, hb, hml, hown, hts⟩ hcon ⟨callB_of nA hts (lw_goodIn (y := y) (z := y) (bz := bytes) (mz := 0) (rz := none) g1) rfl rfl rfl (hts _ g2) (hts _ hl) ⟨g3, g4, g5⟩ ⟨hrm.1, hrm.2.1⟩, hy, hts _ hi⟩ ⟨RU.blind _ _, fun U hU hW => ⟨rfl, by rw [hU]; exact h1, hKw.warm hW⟩⟩ rfl hA (by rw [h3.1, hlen]) rfl (lv_room hrm.2.2.2.2) hd ⟨hrm.2.2.1, hrm.2.2.2.1⟩) h2 h3 kk
theorem nest_CN {p : Program} {R : Room} {s : State} {args : Array Value} {index : Nat} {y : MethodName} {host : String} {bytes : ByteArray} {mL nA : Nat} {ret : Option FieldType} {rmc : Room} (hts : ∀ w ∈ lwG, w.before args s = true) (hKw : Kw E s) (hF : CF y bytes mL ret nA) (hl : (own, index, y, host) ∈ nestT) (hR : rmc.frames + 1 ≤ R.frames ∧ 8 + (mL + 11) + rmc.locals ≤ R.locals) :
    va_CN R s args own index y host bytes mL ret (.code y bytes mL ret :: lwG) rmc rmc.cells rmc.slots nA := by
  obtain ⟨g1, g2, g3, g4, g5⟩ := hF
  exact va_cnB nA hts (lw_goodIn (y := y) (z := y) (bz := bytes) (mz := 0) (rz := none) g1) rfl rfl rfl (hKw.2.1 _ hl) (hts _ g2) ⟨g3, g4, g5⟩ hR
theorem r_callSN {index : Nat} {y : MethodName} {host : String} {bytes : ByteArray} {mL nA : Nat} {ret : Option FieldType} {rmc : Room} {As : List Value} {KK : Option Value → Hp → Prop}
    (hC : Cx E X l0 own code maxL rm) (hd : decode code pc = .ok (.invokestatic index, 3)) (hlen : lo.length = maxL) (hF : CF y bytes mL ret nA) (hl : (own, index, y, host) ∈ nestT) (hi : Cond.static y ∈ lwG)
    (hA : As.length = nA) (hrm : RM rm rmc k n mL st) (hcon : Con E l0 y bytes mL ret rmc As h KK)
    (kk : ∀ v h1, KK v h1 → WW E X h1 (k + rmc.cells) (n + rmc.slots) (pc + 3) lo (v.toList ++ st)) : WW E X h k n pc lo (As.reverse ++ st) := by
  obtain ⟨p, l, e, R, s, m, args, below, meth, cd, Q⟩ := X
  obtain ⟨hx, hb, hml, hown, hts, hKw, hlk, hR0, hl0⟩ := hC
  intro H locs ls h1 h2 h3
  subst hR0; subst hl0
  refine behind (va_runSN (As := As) (rest := st) ⟨hx, hb, hml, hown, hts⟩ hcon ⟨nest_CN (p := p) hts hKw hF hl ⟨hrm.1, hrm.2.1⟩, hts _ hi, trivial⟩ ⟨RU.blind _ _, fun U hU hW => ⟨rfl, by rw [hU]; exact h1, hKw.warm hW⟩⟩ rfl hA (by rw [h3.1, hlen]) rfl (lv_room hrm.2.2.2.2) hd ⟨hrm.2.2.1, hrm.2.2.2.1⟩) h2 h3 kk
theorem r_callIN {index : Nat} {c : Nat} {y : MethodName} {host : String} {bytes : ByteArray} {mL nA : Nat} {rmc : Room} {As : List Value} {KK : Option Value → Hp → Prop}
    (hC : Cx E X l0 own code maxL rm) (hd : decode code pc = .ok (.invokespecial index, 3)) (hlen : lo.length = maxL) (hF : CF y bytes mL none nA) (hl : (own, index, y, host) ∈ nestT) (hy : y.name = "<init>") (hi : Cond.instanceMethod y ∈ lwG)
    (hc0 : c ≠ 0) (hA : As.length = nA) (hrm : RM rm rmc k n mL st) (hcon : Con E l0 y bytes mL none rmc (rv c :: As) h KK)
    (kk : ∀ v h1, KK v h1 → WW E X h1 (k + rmc.cells) (n + rmc.slots) (pc + 3) lo (v.toList ++ st)) : WW E X h k n pc lo (As.reverse ++ rv c :: st) := by
  obtain ⟨p, l, e, R, s, m, args, below, meth, cd, Q⟩ := X
  obtain ⟨hx, hb, hml, hown, hts, hKw, hlk, hR0, hl0⟩ := hC
  intro H locs ls h1 h2 h3
  subst hR0; subst hl0
  obtain ⟨b, rfl⟩ : ∃ b, c = b + 1 := ⟨c - 1, by omega⟩
  refine behind (va_runIN (As := As) (rest := st) (b := b) ⟨hx, hb, hml, hown, hts⟩ hcon ⟨nest_CN (p := p) hts hKw hF hl ⟨hrm.1, hrm.2.1⟩, hy, hts _ hi⟩ ⟨RU.blind _ _, fun U hU hW => ⟨rfl, by rw [hU]; exact h1, hKw.warm hW⟩⟩ rfl hA (by rw [h3.1, hlen]) rfl (lv_room hrm.2.2.2.2) hd ⟨hrm.2.2.1, hrm.2.2.2.1⟩) h2 h3 kk
theorem r_obj {index : Nat} {c : Nat} (hC : Cx E X l0 own code maxL rm) (hd : decode code pc = .ok (.invokespecial index, 3)) (hlen : lo.length = maxL) (hl : Cond.methodLink own index Lib.objectInit ∈ lwG) (hi : Cond.instanceMethod Lib.objectInit ∈ lwG) (hc : Cond.code Lib.objectInit ⟨#[0xb1]⟩ 1 none ∈ lwG) (hc0 : c ≠ 0)
    (hrm : 1 ≤ rm.frames ∧ (st.map fun v => v.category).sum + 12 ≤ rm.locals) (kk : WW E X h k n (pc + 3) lo st) : WW E X h k n pc lo (rv c :: st) := by
  obtain ⟨p, l, e, R, s, m, args, below, meth, cd, Q⟩ := X
  obtain ⟨hx, hb, hml, hown, hts, hKw, hlk, hR0, hl0⟩ := hC
  intro H locs ls h1 h2 h3
  subst hR0
  obtain ⟨b, rfl⟩ : ∃ b, c = b + 1 := ⟨c - 1, by omega⟩
  exact W.objInit hx hb hown (hts _ hl) (hts _ hi) (hts _ hc) rfl (by show ls.size = _; rw [hml, h3.1, hlen]) rfl hd hrm.1 (by have := hrm.2; show 2 * 0 + _ + 12 ≤ _; omega) (kk H locs ls h1 h2 h3)
/-! returns -/
theorem r_iret {nm : String} {KK : Option Value → Hp → Prop} {v : Int32} (hC : Cx E X l0 own code maxL rm) (hQ : CQ E X nm (some .int) rm KK) (hd : decode code pc = .ok (.ireturn, 1)) (hk : k ≤ rm.cells) (hn : n ≤ rm.slots) (hv : KK (some (.int v)) h) : WW E X h k n pc lo [.int v] := by
  obtain ⟨p, l, e, R, s, m, args, below, meth, cd, Q⟩ := X
  obtain ⟨hx, hb, hml, hown, hts, hKw, hlk, hR0, hl0⟩ := hC
  obtain ⟨hr, -, hQ⟩ := hQ
  intro H locs ls h1 h2 h3
  subst hQ
  exact W.widen hk hn (W.iret hx hb hr (fun t ht hW => ⟨_, h, rfl, by rw [ht]; exact h1, hv⟩) h2 hd)
theorem r_zret {nm : String} {KK : Option Value → Hp → Prop} {v : Int32} (hC : Cx E X l0 own code maxL rm) (hQ : CQ E X nm (some .boolean) rm KK) (hd : decode code pc = .ok (.ireturn, 1)) (hk : k ≤ rm.cells) (hn : n ≤ rm.slots) (h01 : v = 0 ∨ v = 1) (hv : KK (some (.int v)) h) : WW E X h k n pc lo [.int v] := by
  obtain ⟨p, l, e, R, s, m, args, below, meth, cd, Q⟩ := X
  obtain ⟨hx, hb, hml, hown, hts, hKw, hlk, hR0, hl0⟩ := hC
  obtain ⟨hr, -, hQ⟩ := hQ
  intro H locs ls h1 h2 h3
  subst hQ
  exact W.widen hk hn (W.zret hx hb hr (by rcases h01 with rfl | rfl <;> rfl) (fun t ht hW => ⟨_, h, rfl, by rw [ht]; exact h1, hv⟩) h2 hd)
theorem r_cret {nm : String} {KK : Option Value → Hp → Prop} {v : Int32} (hC : Cx E X l0 own code maxL rm) (hQ : CQ E X nm (some .char) rm KK) (hd : decode code pc = .ok (.ireturn, 1)) (hk : k ≤ rm.cells) (hn : n ≤ rm.slots) (hcn : cn v = v) (hv : KK (some (.int v)) h) : WW E X h k n pc lo [.int v] := by
  obtain ⟨p, l, e, R, s, m, args, below, meth, cd, Q⟩ := X
  obtain ⟨hx, hb, hml, hown, hts, hKw, hlk, hR0, hl0⟩ := hC
  obtain ⟨hr, -, hQ⟩ := hQ
  intro H locs ls h1 h2 h3
  subst hQ
  exact W.widen hk hn (W.zret hx hb hr (by rw [← hcn]; exact pk_nc v) (fun t ht hW => ⟨_, h, rfl, by rw [ht]; exact h1, hv⟩) h2 hd)
theorem r_vret {nm : String} {KK : Option Value → Hp → Prop} (hC : Cx E X l0 own code maxL rm) (hQ : CQ E X nm none rm KK) (hd : decode code pc = .ok (.return_, 1)) (hk : k ≤ rm.cells) (hn : n ≤ rm.slots) (hv : KK none h) : WW E X h k n pc lo [] := by
  obtain ⟨p, l, e, R, s, m, args, below, meth, cd, Q⟩ := X
  obtain ⟨hx, hb, hml, hown, hts, hKw, hlk, hR0, hl0⟩ := hC
  obtain ⟨hr, -, hQ⟩ := hQ
  intro H locs ls h1 h2 h3
  subst hQ
  exact W.widen hk hn (W.vret hx hb hr (fun t ht hW => ⟨_, h, rfl, by rw [ht]; exact h1, hv⟩) h2 hd)
theorem r_aret {nm : String} {KK : Option Value → Hp → Prop} {v : Nat} {rt : FieldType} (hC : Cx E X l0 own code maxL rm) (hQ : CQ E X nm (some rt) rm KK) (hrt : (∃ n, rt = .object n) ∨ ∃ t, rt = .array t) (hd : decode code pc = .ok (.areturn, 1)) (hk : k ≤ rm.cells) (hn : n ≤ rm.slots) (hv : KK (some (rv v)) h) : WW E X h k n pc lo [rv v] := by
  obtain ⟨p, l, e, R, s, m, args, below, meth, cd, Q⟩ := X
  obtain ⟨hx, hb, hml, hown, hts, hKw, hlk, hR0, hl0⟩ := hC
  obtain ⟨hr, -, hQ⟩ := hQ
  intro H locs ls h1 h2 h3
  subst hQ
  exact W.widen hk hn (W.aret hx hb hr hrt (rv_or v) (fun t ht hW => ⟨_, h, rfl, by rw [ht]; exact h1, hv⟩) h2 hd)
/-- the locals at a method's entry -/
def ent (As : List Value) (maxL : Nat) : List (Option Value) := As.map some ++ List.replicate (maxL - As.length) none
theorem lv_args_mem : ∀ (As : List Value) (i j : Nat) (v : Value), (∀ v ∈ As, v.category = 1) → As[j]? = some v → (i + j, v) ∈ lv_args i As
  | [], _, j, v, _, h => by simp at h
  | a :: As, i, 0, v, _, h => by cases h; exact List.mem_cons_self
  | a :: As, i, j + 1, v, hc, h => by
    have ha : ¬ a.category = 2 := by rw [hc a List.mem_cons_self]; decide
    unfold lv_args
    rw [if_neg ha]
    rw [List.getElem?_cons_succ] at h
    have := lv_args_mem As (i + 1) j v (fun v hv => hc v (List.mem_cons_of_mem _ hv)) h
    rw [show i + 1 + j = i + (j + 1) by omega] at this
    exact List.mem_cons_of_mem _ this
theorem lg_len (As : List Value) (hc : ∀ v ∈ As, v.category = 1) : (lg_sl As).length = As.length := by
  induction As with
  | nil => rfl
  | cons a t ih =>
    have ha : ¬ a.category = 2 := by rw [hc a List.mem_cons_self]; decide
    have := ih (fun v hv => hc v (List.mem_cons_of_mem _ hv))
    unfold lg_sl at this ⊢
    rw [List.flatMap_cons, if_neg ha]
    simp only [List.length_append, List.length_cons, List.length_nil, this]
    omega
theorem ent_LR (As : List Value) (maxL : Nat) (hc : ∀ v ∈ As, v.category = 1) (hl : As.length ≤ maxL) : LR ((lg_sl As ++ List.replicate (maxL - (lg_sl As).length) Slot.unset).toArray) (ent As maxL) := by
  have h0 := lv_entry As (n := maxL) (by rw [lg_len As hc]; exact hl)
  refine ⟨?_, h0.2.1, fun i v hv => ?_⟩
  · rw [h0.1]; unfold ent; simp; omega
  · unfold ent at hv
    by_cases hi : i < As.length
    · rw [List.getElem?_append_left (by simpa using hi), List.getElem?_map] at hv
      cases hj : As[i]? with
      | none => rw [hj] at hv; cases hv
      | some w =>
        rw [hj] at hv
        cases hv
        have := lv_args_mem As 0 i v hc hj
        rw [Nat.zero_add] at this
        exact ⟨hc v (List.mem_of_getElem? hj), h0.2.2 _ this⟩
    · rw [List.getElem?_append_right (by simpa using Nat.le_of_not_lt hi), List.getElem?_replicate] at hv
      split at hv <;> cases hv
theorem Con.of {y : MethodName} {bytes : ByteArray} {ret : Option FieldType} {As : List Value} {KK : Option Value → Hp → Prop} (hy : plainName y.cls = true) (hc : ∀ v ∈ As, v.category = 1) (hl : As.length ≤ maxL)
    (body : ∀ X : Xt, Cx E X l0 y.cls bytes maxL rm → CQ E X y.name ret rm KK → WW E X h 0 0 0 (ent As maxL) []) : Con E l0 y bytes maxL ret rm As h KK := by
  refine Met.ofW (cc := bytes) (maxL := maxL) (ret := ret) hy rfl ?_
  intro p e s m args below meth c s₁ B hml hv
  obtain ⟨rfl, hR, hKw⟩ := hv
  have hts := atoms_spec (ws := .code y bytes maxL ret :: lwG) B.pre
  have := body (p, l0, e, (headSpec (.code y bytes maxL ret :: lwG) rm).room, s, m, As.toArray, below, meth, c, _) ⟨B.exec, B.bytes, hml, findClass_of_methodNamed B.named, fun w hw => hts w (List.mem_cons_of_mem _ hw), hKw, B.notSynchronized, rfl, rfl⟩ ⟨B.returns, (name_of_methodNamed B.named B.method).1, rfl⟩
  rw [lg_entry_eq]
  exact this s.heap [] _ hR (fun q hq => by cases hq) (ent_LR As maxL hc hl)
end CALLROWS
end
