section
-- ===== PART A: goes FIRST, ahead of the names: the tables' words, and 'selects' of the private methods out of them =====
/-- a private method of a class that the tables say can be made, by its rows of tables_1 -/
def lw_okq (q : MethodName × Nat) : Prop := (q.1.cls ≠ "java/lang/invoke/MethodHandle" ∧ q.1.cls ≠ "java/lang/invoke/VarHandle") ∧ Cond.instantiable q.1.cls q.2 ∈ tables_1 ∧ Cond.privateMethod q.1 ∈ tables_1 ∧ Cond.instanceMethod q.1 ∈ tables_1
theorem lw_p0 : lw_okq (⟨"TypeWorkshop", "recordState", "()V"⟩, 9) := ⟨⟨by decide +kernel, by decide +kernel⟩, List.mem_of_getElem? (i := 12) (by decide +kernel), List.mem_of_getElem? (i := 157) (by decide +kernel), List.mem_of_getElem? (i := 158) (by decide +kernel)⟩
theorem lw_p1 : lw_okq (⟨"TypeWorkshop", "dropOldestState", "()V"⟩, 9) := ⟨⟨by decide +kernel, by decide +kernel⟩, List.mem_of_getElem? (i := 12) (by decide +kernel), List.mem_of_getElem? (i := 161) (by decide +kernel), List.mem_of_getElem? (i := 162) (by decide +kernel)⟩
theorem lw_p2 : lw_okq (⟨"TypeWorkshop", "isCase", "(I)Z"⟩, 9) := ⟨⟨by decide +kernel, by decide +kernel⟩, List.mem_of_getElem? (i := 12) (by decide +kernel), List.mem_of_getElem? (i := 180) (by decide +kernel), List.mem_of_getElem? (i := 181) (by decide +kernel)⟩
theorem lw_p3 : lw_okq (⟨"TypeWorkshop", "castWanted", "(I)I"⟩, 9) := ⟨⟨by decide +kernel, by decide +kernel⟩, List.mem_of_getElem? (i := 12) (by decide +kernel), List.mem_of_getElem? (i := 187) (by decide +kernel), List.mem_of_getElem? (i := 188) (by decide +kernel)⟩
theorem lw_p4 : lw_okq (⟨"TypeWorkshop$Layout", "addLine", "(III)V"⟩, 9) := ⟨⟨by decide +kernel, by decide +kernel⟩, List.mem_of_getElem? (i := 253) (by decide +kernel), List.mem_of_getElem? (i := 262) (by decide +kernel), List.mem_of_getElem? (i := 263) (by decide +kernel)⟩
theorem lw_p5 : lw_okq (⟨"TypeWorkshop$Layout", "addGaps", "(II)V"⟩, 9) := ⟨⟨by decide +kernel, by decide +kernel⟩, List.mem_of_getElem? (i := 253) (by decide +kernel), List.mem_of_getElem? (i := 271) (by decide +kernel), List.mem_of_getElem? (i := 272) (by decide +kernel)⟩
theorem lw_p6 : lw_okq (⟨"TypeWorkshop", "reckon", "(LTypeWorkshop$Job;)V"⟩, 9) := ⟨⟨by decide +kernel, by decide +kernel⟩, List.mem_of_getElem? (i := 12) (by decide +kernel), List.mem_of_getElem? (i := 373) (by decide +kernel), List.mem_of_getElem? (i := 374) (by decide +kernel)⟩
theorem lw_p7 : lw_okq (⟨"TypeWorkshop", "missingOf", "(I)I"⟩, 9) := ⟨⟨by decide +kernel, by decide +kernel⟩, List.mem_of_getElem? (i := 12) (by decide +kernel), List.mem_of_getElem? (i := 404) (by decide +kernel), List.mem_of_getElem? (i := 405) (by decide +kernel)⟩
theorem lw_p8 : lw_okq (⟨"TypeWorkshop", "takeNeeded", "(I)[I"⟩, 9) := ⟨⟨by decide +kernel, by decide +kernel⟩, List.mem_of_getElem? (i := 12) (by decide +kernel), List.mem_of_getElem? (i := 409) (by decide +kernel), List.mem_of_getElem? (i := 410) (by decide +kernel)⟩
theorem lw_p9 : lw_okq (⟨"TypeWorkshop", "takePieces", "([IIII)I"⟩, 9) := ⟨⟨by decide +kernel, by decide +kernel⟩, List.mem_of_getElem? (i := 12) (by decide +kernel), List.mem_of_getElem? (i := 413) (by decide +kernel), List.mem_of_getElem? (i := 414) (by decide +kernel)⟩
theorem lw_p10 : lw_okq (⟨"TypeWorkshop", "giveBack", "(LTypeWorkshop$Job;Z)I"⟩, 9) := ⟨⟨by decide +kernel, by decide +kernel⟩, List.mem_of_getElem? (i := 12) (by decide +kernel), List.mem_of_getElem? (i := 444) (by decide +kernel), List.mem_of_getElem? (i := 445) (by decide +kernel)⟩
theorem lw_p11 : lw_okq (⟨"TypeWorkshop", "findPiece", "(LTypeWorkshop$Job;II)I"⟩, 9) := ⟨⟨by decide +kernel, by decide +kernel⟩, List.mem_of_getElem? (i := 12) (by decide +kernel), List.mem_of_getElem? (i := 514) (by decide +kernel), List.mem_of_getElem? (i := 515) (by decide +kernel)⟩
theorem lw_p12 : lw_okq (⟨"TypeWorkshopModel", "record", "()V"⟩, 22) := ⟨⟨by decide +kernel, by decide +kernel⟩, List.mem_of_getElem? (i := 569) (by decide +kernel), List.mem_of_getElem? (i := 650) (by decide +kernel), List.mem_of_getElem? (i := 651) (by decide +kernel)⟩
theorem lw_p13 : lw_okq (⟨"TypeWorkshopModel", "noCase", "(I)Z"⟩, 22) := ⟨⟨by decide +kernel, by decide +kernel⟩, List.mem_of_getElem? (i := 569) (by decide +kernel), List.mem_of_getElem? (i := 662) (by decide +kernel), List.mem_of_getElem? (i := 663) (by decide +kernel)⟩
theorem lw_p14 : lw_okq (⟨"TypeWorkshopModel", "has", "(II)I"⟩, 22) := ⟨⟨by decide +kernel, by decide +kernel⟩, List.mem_of_getElem? (i := 569) (by decide +kernel), List.mem_of_getElem? (i := 669) (by decide +kernel), List.mem_of_getElem? (i := 670) (by decide +kernel)⟩
theorem lw_p15 : lw_okq (⟨"TypeWorkshopModel", "casts", "(III)V"⟩, 22) := ⟨⟨by decide +kernel, by decide +kernel⟩, List.mem_of_getElem? (i := 569) (by decide +kernel), List.mem_of_getElem? (i := 676) (by decide +kernel), List.mem_of_getElem? (i := 677) (by decide +kernel)⟩
def lw_privs_1 : List (MethodName × Nat) := [(⟨"TypeWorkshop", "recordState", "()V"⟩, 9), (⟨"TypeWorkshop", "dropOldestState", "()V"⟩, 9), (⟨"TypeWorkshop", "isCase", "(I)Z"⟩, 9), (⟨"TypeWorkshop", "castWanted", "(I)I"⟩, 9), (⟨"TypeWorkshop$Layout", "addLine", "(III)V"⟩, 9), (⟨"TypeWorkshop$Layout", "addGaps", "(II)V"⟩, 9), (⟨"TypeWorkshop", "reckon", "(LTypeWorkshop$Job;)V"⟩, 9), (⟨"TypeWorkshop", "missingOf", "(I)I"⟩, 9), (⟨"TypeWorkshop", "takeNeeded", "(I)[I"⟩, 9), (⟨"TypeWorkshop", "takePieces", "([IIII)I"⟩, 9), (⟨"TypeWorkshop", "giveBack", "(LTypeWorkshop$Job;Z)I"⟩, 9), (⟨"TypeWorkshop", "findPiece", "(LTypeWorkshop$Job;II)I"⟩, 9), (⟨"TypeWorkshopModel", "record", "()V"⟩, 22), (⟨"TypeWorkshopModel", "noCase", "(I)Z"⟩, 22), (⟨"TypeWorkshopModel", "has", "(II)I"⟩, 22), (⟨"TypeWorkshopModel", "casts", "(III)V"⟩, 22)]
theorem lw_r1 : ∀ q ∈ lw_privs_1, lw_okq q := List.forall_mem_cons.mpr ⟨lw_p0, List.forall_mem_cons.mpr ⟨lw_p1, List.forall_mem_cons.mpr ⟨lw_p2, List.forall_mem_cons.mpr ⟨lw_p3, List.forall_mem_cons.mpr ⟨lw_p4, List.forall_mem_cons.mpr ⟨lw_p5, List.forall_mem_cons.mpr ⟨lw_p6, List.forall_mem_cons.mpr ⟨lw_p7, List.forall_mem_cons.mpr ⟨lw_p8, List.forall_mem_cons.mpr ⟨lw_p9, List.forall_mem_cons.mpr ⟨lw_p10, List.forall_mem_cons.mpr ⟨lw_p11, List.forall_mem_cons.mpr ⟨lw_p12, List.forall_mem_cons.mpr ⟨lw_p13, List.forall_mem_cons.mpr ⟨lw_p14, List.forall_mem_cons.mpr ⟨lw_p15, fun _ h => absurd h List.not_mem_nil⟩⟩⟩⟩⟩⟩⟩⟩⟩⟩⟩⟩⟩⟩⟩⟩
theorem lw_p16 : lw_okq (⟨"TypeWorkshopModel", "inBox", "()I"⟩, 22) := ⟨⟨by decide +kernel, by decide +kernel⟩, List.mem_of_getElem? (i := 569) (by decide +kernel), List.mem_of_getElem? (i := 692) (by decide +kernel), List.mem_of_getElem? (i := 693) (by decide +kernel)⟩
theorem lw_p17 : lw_okq (⟨"TypeWorkshopModel", "boxMetal", "()I"⟩, 22) := ⟨⟨by decide +kernel, by decide +kernel⟩, List.mem_of_getElem? (i := 569) (by decide +kernel), List.mem_of_getElem? (i := 696) (by decide +kernel), List.mem_of_getElem? (i := 697) (by decide +kernel)⟩
theorem lw_p18 : lw_okq (⟨"TypeWorkshopModel", "faultOf", "()I"⟩, 22) := ⟨⟨by decide +kernel, by decide +kernel⟩, List.mem_of_getElem? (i := 569) (by decide +kernel), List.mem_of_getElem? (i := 712) (by decide +kernel), List.mem_of_getElem? (i := 713) (by decide +kernel)⟩
theorem lw_p19 : lw_okq (⟨"TypeWorkshopModel", "layLines", "(I)V"⟩, 22) := ⟨⟨by decide +kernel, by decide +kernel⟩, List.mem_of_getElem? (i := 569) (by decide +kernel), List.mem_of_getElem? (i := 719) (by decide +kernel), List.mem_of_getElem? (i := 720) (by decide +kernel)⟩
theorem lw_p20 : lw_okq (⟨"TypeWorkshopModel", "layLine", "(III)V"⟩, 22) := ⟨⟨by decide +kernel, by decide +kernel⟩, List.mem_of_getElem? (i := 569) (by decide +kernel), List.mem_of_getElem? (i := 723) (by decide +kernel), List.mem_of_getElem? (i := 724) (by decide +kernel)⟩
theorem lw_p21 : lw_okq (⟨"TypeWorkshopModel", "put", "(III)V"⟩, 22) := ⟨⟨by decide +kernel, by decide +kernel⟩, List.mem_of_getElem? (i := 569) (by decide +kernel), List.mem_of_getElem? (i := 727) (by decide +kernel), List.mem_of_getElem? (i := 728) (by decide +kernel)⟩
theorem lw_p22 : lw_okq (⟨"TypeWorkshopModel", "noJob", "(I)Z"⟩, 22) := ⟨⟨by decide +kernel, by decide +kernel⟩, List.mem_of_getElem? (i := 569) (by decide +kernel), List.mem_of_getElem? (i := 735) (by decide +kernel), List.mem_of_getElem? (i := 736) (by decide +kernel)⟩
theorem lw_p23 : lw_okq (⟨"TypeWorkshopModel", "ofJob", "(II)I"⟩, 22) := ⟨⟨by decide +kernel, by decide +kernel⟩, List.mem_of_getElem? (i := 569) (by decide +kernel), List.mem_of_getElem? (i := 739) (by decide +kernel), List.mem_of_getElem? (i := 740) (by decide +kernel)⟩
theorem lw_p24 : lw_okq (⟨"TypeWorkshopModel", "layNeeds", "(I)V"⟩, 22) := ⟨⟨by decide +kernel, by decide +kernel⟩, List.mem_of_getElem? (i := 569) (by decide +kernel), List.mem_of_getElem? (i := 743) (by decide +kernel), List.mem_of_getElem? (i := 744) (by decide +kernel)⟩
theorem lw_p25 : lw_okq (⟨"TypeWorkshopModel", "layJob", "(I)V"⟩, 22) := ⟨⟨by decide +kernel, by decide +kernel⟩, List.mem_of_getElem? (i := 569) (by decide +kernel), List.mem_of_getElem? (i := 747) (by decide +kernel), List.mem_of_getElem? (i := 748) (by decide +kernel)⟩
theorem lw_p26 : lw_okq (⟨"TypeWorkshopModel", "hasForme", "(I)Z"⟩, 22) := ⟨⟨by decide +kernel, by decide +kernel⟩, List.mem_of_getElem? (i := 569) (by decide +kernel), List.mem_of_getElem? (i := 751) (by decide +kernel), List.mem_of_getElem? (i := 752) (by decide +kernel)⟩
theorem lw_p27 : lw_okq (⟨"TypeWorkshopModel", "inForme", "(III)I"⟩, 22) := ⟨⟨by decide +kernel, by decide +kernel⟩, List.mem_of_getElem? (i := 569) (by decide +kernel), List.mem_of_getElem? (i := 755) (by decide +kernel), List.mem_of_getElem? (i := 756) (by decide +kernel)⟩
theorem lw_p28 : lw_okq (⟨"TypeWorkshopModel", "allLacks", "()I"⟩, 22) := ⟨⟨by decide +kernel, by decide +kernel⟩, List.mem_of_getElem? (i := 569) (by decide +kernel), List.mem_of_getElem? (i := 762) (by decide +kernel), List.mem_of_getElem? (i := 763) (by decide +kernel)⟩
theorem lw_p29 : lw_okq (⟨"TypeWorkshopModel", "lacks", "(I)I"⟩, 22) := ⟨⟨by decide +kernel, by decide +kernel⟩, List.mem_of_getElem? (i := 569) (by decide +kernel), List.mem_of_getElem? (i := 766) (by decide +kernel), List.mem_of_getElem? (i := 767) (by decide +kernel)⟩
theorem lw_p30 : lw_okq (⟨"TypeWorkshopModel", "takes", "(II)I"⟩, 22) := ⟨⟨by decide +kernel, by decide +kernel⟩, List.mem_of_getElem? (i := 569) (by decide +kernel), List.mem_of_getElem? (i := 770) (by decide +kernel), List.mem_of_getElem? (i := 771) (by decide +kernel)⟩
theorem lw_p31 : lw_okq (⟨"TypeWorkshopModel", "goBack", "(II)I"⟩, 22) := ⟨⟨by decide +kernel, by decide +kernel⟩, List.mem_of_getElem? (i := 569) (by decide +kernel), List.mem_of_getElem? (i := 787) (by decide +kernel), List.mem_of_getElem? (i := 788) (by decide +kernel)⟩
def lw_privs_2 : List (MethodName × Nat) := [(⟨"TypeWorkshopModel", "inBox", "()I"⟩, 22), (⟨"TypeWorkshopModel", "boxMetal", "()I"⟩, 22), (⟨"TypeWorkshopModel", "faultOf", "()I"⟩, 22), (⟨"TypeWorkshopModel", "layLines", "(I)V"⟩, 22), (⟨"TypeWorkshopModel", "layLine", "(III)V"⟩, 22), (⟨"TypeWorkshopModel", "put", "(III)V"⟩, 22), (⟨"TypeWorkshopModel", "noJob", "(I)Z"⟩, 22), (⟨"TypeWorkshopModel", "ofJob", "(II)I"⟩, 22), (⟨"TypeWorkshopModel", "layNeeds", "(I)V"⟩, 22), (⟨"TypeWorkshopModel", "layJob", "(I)V"⟩, 22), (⟨"TypeWorkshopModel", "hasForme", "(I)Z"⟩, 22), (⟨"TypeWorkshopModel", "inForme", "(III)I"⟩, 22), (⟨"TypeWorkshopModel", "allLacks", "()I"⟩, 22), (⟨"TypeWorkshopModel", "lacks", "(I)I"⟩, 22), (⟨"TypeWorkshopModel", "takes", "(II)I"⟩, 22), (⟨"TypeWorkshopModel", "goBack", "(II)I"⟩, 22)]
theorem lw_r2 : ∀ q ∈ lw_privs_2, lw_okq q := List.forall_mem_cons.mpr ⟨lw_p16, List.forall_mem_cons.mpr ⟨lw_p17, List.forall_mem_cons.mpr ⟨lw_p18, List.forall_mem_cons.mpr ⟨lw_p19, List.forall_mem_cons.mpr ⟨lw_p20, List.forall_mem_cons.mpr ⟨lw_p21, List.forall_mem_cons.mpr ⟨lw_p22, List.forall_mem_cons.mpr ⟨lw_p23, List.forall_mem_cons.mpr ⟨lw_p24, List.forall_mem_cons.mpr ⟨lw_p25, List.forall_mem_cons.mpr ⟨lw_p26, List.forall_mem_cons.mpr ⟨lw_p27, List.forall_mem_cons.mpr ⟨lw_p28, List.forall_mem_cons.mpr ⟨lw_p29, List.forall_mem_cons.mpr ⟨lw_p30, List.forall_mem_cons.mpr ⟨lw_p31, fun _ h => absurd h List.not_mem_nil⟩⟩⟩⟩⟩⟩⟩⟩⟩⟩⟩⟩⟩⟩⟩⟩
theorem lw_p32 : lw_okq (⟨"TypeWorkshopModel", "inFormeOf", "(IZ)I"⟩, 22) := ⟨⟨by decide +kernel, by decide +kernel⟩, List.mem_of_getElem? (i := 569) (by decide +kernel), List.mem_of_getElem? (i := 795) (by decide +kernel), List.mem_of_getElem? (i := 796) (by decide +kernel)⟩
theorem lw_p33 : lw_okq (⟨"TypeWorkshopModel", "spaceAt", "(II)I"⟩, 22) := ⟨⟨by decide +kernel, by decide +kernel⟩, List.mem_of_getElem? (i := 569) (by decide +kernel), List.mem_of_getElem? (i := 846) (by decide +kernel), List.mem_of_getElem? (i := 847) (by decide +kernel)⟩
theorem lw_p34 : lw_okq (⟨"TypeWorkshopModel", "isToDo", "(I)Z"⟩, 22) := ⟨⟨by decide +kernel, by decide +kernel⟩, List.mem_of_getElem? (i := 569) (by decide +kernel), List.mem_of_getElem? (i := 854) (by decide +kernel), List.mem_of_getElem? (i := 855) (by decide +kernel)⟩
theorem lw_p35 : lw_okq (⟨"TypeWorkshopModel", "caseMetal", "()I"⟩, 22) := ⟨⟨by decide +kernel, by decide +kernel⟩, List.mem_of_getElem? (i := 569) (by decide +kernel), List.mem_of_getElem? (i := 862) (by decide +kernel), List.mem_of_getElem? (i := 863) (by decide +kernel)⟩
theorem lw_p36 : lw_okq (⟨"TypeWorkshopModel", "formeMetal", "()I"⟩, 22) := ⟨⟨by decide +kernel, by decide +kernel⟩, List.mem_of_getElem? (i := 569) (by decide +kernel), List.mem_of_getElem? (i := 866) (by decide +kernel), List.mem_of_getElem? (i := 867) (by decide +kernel)⟩
theorem lw_p37 : lw_okq (⟨"TypeWorkshopModel", "lateDays", "()I"⟩, 22) := ⟨⟨by decide +kernel, by decide +kernel⟩, List.mem_of_getElem? (i := 569) (by decide +kernel), List.mem_of_getElem? (i := 870) (by decide +kernel), List.mem_of_getElem? (i := 871) (by decide +kernel)⟩
theorem lw_p38 : lw_okq (⟨"TypeWorkshopModel", "pastDue", "()I"⟩, 22) := ⟨⟨by decide +kernel, by decide +kernel⟩, List.mem_of_getElem? (i := 569) (by decide +kernel), List.mem_of_getElem? (i := 874) (by decide +kernel), List.mem_of_getElem? (i := 875) (by decide +kernel)⟩
def lw_privs_3 : List (MethodName × Nat) := [(⟨"TypeWorkshopModel", "inFormeOf", "(IZ)I"⟩, 22), (⟨"TypeWorkshopModel", "spaceAt", "(II)I"⟩, 22), (⟨"TypeWorkshopModel", "isToDo", "(I)Z"⟩, 22), (⟨"TypeWorkshopModel", "caseMetal", "()I"⟩, 22), (⟨"TypeWorkshopModel", "formeMetal", "()I"⟩, 22), (⟨"TypeWorkshopModel", "lateDays", "()I"⟩, 22), (⟨"TypeWorkshopModel", "pastDue", "()I"⟩, 22)]
theorem lw_r3 : ∀ q ∈ lw_privs_3, lw_okq q := List.forall_mem_cons.mpr ⟨lw_p32, List.forall_mem_cons.mpr ⟨lw_p33, List.forall_mem_cons.mpr ⟨lw_p34, List.forall_mem_cons.mpr ⟨lw_p35, List.forall_mem_cons.mpr ⟨lw_p36, List.forall_mem_cons.mpr ⟨lw_p37, List.forall_mem_cons.mpr ⟨lw_p38, fun _ h => absurd h List.not_mem_nil⟩⟩⟩⟩⟩⟩⟩
def lw_privs : List (MethodName × Nat) := lw_privs_1 ++ (lw_privs_2 ++ (lw_privs_3))
def lw_tbl : List Cond := k2_sels lw_privs ++ tables_1
theorem lw_privs_ok : ∀ q ∈ lw_privs, lw_okq q := by
  show ∀ q ∈ lw_privs_1 ++ (lw_privs_2 ++ (lw_privs_3)), lw_okq q
  exact List.forall_mem_append.mpr ⟨lw_r1, List.forall_mem_append.mpr ⟨lw_r2, lw_r3⟩⟩
def RX0 : String := "TypeWorkshop$Draft"
def TX0 : u_T := fun k => match k with
  | 0 => ("TypeWorkshop$Draft", "signs", "[C", true)
  | _ => ("TypeWorkshop$Draft", "length", "I", false)
def tyX0 : Nat → FieldType := fun k => match k with
  | 0 => .array .char
  | _ => .int
theorem nmX0 : ∀ a, a < 2 → ∀ b, b < 2 → a ≠ b → (TX0 a).2.1 ≠ (TX0 b).2.1 := by decide +kernel
theorem tyX0_ok : ∀ k, k < 2 → parseFieldDescriptor (TX0 k).2.2.1 = some (tyX0 k) := by decide +kernel
abbrev cX0_init : ByteArray := prog_2_method_1_code
def yX0_init : MethodName := ⟨RX0, "<init>", "()V"⟩
abbrev cX0_append : ByteArray := prog_2_method_2_code
def yX0_append : MethodName := ⟨RX0, "append", "(C)Z"⟩
abbrev cX0_findFault : ByteArray := prog_2_method_3_code
def yX0_findFault : MethodName := ⟨RX0, "findFault", "()I"⟩
def RX1 : String := "TypeWorkshop$Job"
def TX1 : u_T := fun k => match k with
  | 0 => ("TypeWorkshop$Job", "order", "LTypeWorkshop$Order;", true)
  | 1 => ("TypeWorkshop$Job", "state", "I", true)
  | 2 => ("TypeWorkshop$Job", "printedOn", "I", true)
  | _ => ("TypeWorkshop$Job", "taken", "[I", true)
def tyX1 : Nat → FieldType := fun k => match k with
  | 0 => .object "TypeWorkshop$Order"
  | 1 => .int
  | 2 => .int
  | _ => .array .int
theorem nmX1 : ∀ a, a < 4 → ∀ b, b < 4 → a ≠ b → (TX1 a).2.1 ≠ (TX1 b).2.1 := by decide +kernel
theorem tyX1_ok : ∀ k, k < 4 → parseFieldDescriptor (TX1 k).2.2.1 = some (tyX1 k) := by decide +kernel
abbrev cX1_init : ByteArray := prog_3_method_1_code
def yX1_init : MethodName := ⟨RX1, "<init>", "(LTypeWorkshop$Order;II[I)V"⟩
abbrev cX1_isOpen : ByteArray := prog_3_method_2_code
def yX1_isOpen : MethodName := ⟨RX1, "isOpen", "()Z"⟩
abbrev cX1_hasForme : ByteArray := prog_3_method_3_code
def yX1_hasForme : MethodName := ⟨RX1, "hasForme", "()Z"⟩
abbrev cX1_daysLate : ByteArray := prog_3_method_4_code
def yX1_daysLate : MethodName := ⟨RX1, "daysLate", "()I"⟩
abbrev cX1_takenFrom : ByteArray := prog_3_method_5_code
def yX1_takenFrom : MethodName := ⟨RX1, "takenFrom", "(II)I"⟩
abbrev cX1_takenInAll : ByteArray := prog_3_method_6_code
def yX1_takenInAll : MethodName := ⟨RX1, "takenInAll", "(I)I"⟩
abbrev cX1_formePieces : ByteArray := prog_3_method_7_code
def yX1_formePieces : MethodName := ⟨RX1, "formePieces", "()I"⟩
abbrev cX1_borrowedPieces : ByteArray := prog_3_method_8_code
def yX1_borrowedPieces : MethodName := ⟨RX1, "borrowedPieces", "()I"⟩
abbrev cX1_formeMetal : ByteArray := prog_3_method_9_code
def yX1_formeMetal : MethodName := ⟨RX1, "formeMetal", "()I"⟩
def RX2 : String := "TypeWorkshop$Layout"
def TX2 : u_T := fun k => match k with
  | 0 => ("TypeWorkshop$Layout", "text", "[C", true)
  | 1 => ("TypeWorkshop$Layout", "letters", "[I", true)
  | 2 => ("TypeWorkshop$Layout", "lineEnds", "[I", true)
  | 3 => ("TypeWorkshop$Layout", "gapsUpTo", "[I", true)
  | 4 => ("TypeWorkshop$Layout", "gapWidths", "[I", true)
  | 5 => ("TypeWorkshop$Layout", "lineCount", "I", false)
  | 6 => ("TypeWorkshop$Layout", "letterCount", "I", false)
  | 7 => ("TypeWorkshop$Layout", "gapCount", "I", false)
  | _ => ("TypeWorkshop$Layout", "tooWide", "Z", false)
def tyX2 : Nat → FieldType := fun k => match k with
  | 0 => .array .char
  | 1 => .array .int
  | 2 => .array .int
  | 3 => .array .int
  | 4 => .array .int
  | 5 => .int
  | 6 => .int
  | 7 => .int
  | _ => .boolean
theorem nmX2 : ∀ a, a < 9 → ∀ b, b < 9 → a ≠ b → (TX2 a).2.1 ≠ (TX2 b).2.1 := by decide +kernel
theorem tyX2_ok : ∀ k, k < 9 → parseFieldDescriptor (TX2 k).2.2.1 = some (tyX2 k) := by decide +kernel
abbrev cX2_init : ByteArray := prog_4_method_1_code
def yX2_init : MethodName := ⟨RX2, "<init>", "(LTypeWorkshop$Draft;I)V"⟩
abbrev cX2_addLine : ByteArray := prog_4_method_2_code
def yX2_addLine : MethodName := ⟨RX2, "addLine", "(III)V"⟩
abbrev cX2_addGaps : ByteArray := prog_4_method_3_code
def yX2_addGaps : MethodName := ⟨RX2, "addGaps", "(II)V"⟩
abbrev cX2_hasLine : ByteArray := prog_4_method_4_code
def yX2_hasLine : MethodName := ⟨RX2, "hasLine", "(I)Z"⟩
abbrev cX2_lineStart : ByteArray := prog_4_method_5_code
def yX2_lineStart : MethodName := ⟨RX2, "lineStart", "(I)I"⟩
abbrev cX2_firstGap : ByteArray := prog_4_method_6_code
def yX2_firstGap : MethodName := ⟨RX2, "firstGap", "(I)I"⟩
abbrev cX2_gapWidth : ByteArray := prog_4_method_7_code
def yX2_gapWidth : MethodName := ⟨RX2, "gapWidth", "(I)I"⟩
abbrev cX2_signAt : ByteArray := prog_4_method_8_code
def yX2_signAt : MethodName := ⟨RX2, "signAt", "(I)C"⟩
def RX3 : String := "TypeWorkshop$Order"
def TX3 : u_T := fun k => match k with
  | 0 => ("TypeWorkshop$Order", "box", "I", true)
  | 1 => ("TypeWorkshop$Order", "measure", "I", true)
  | 2 => ("TypeWorkshop$Order", "due", "I", true)
  | _ => ("TypeWorkshop$Order", "layout", "LTypeWorkshop$Layout;", true)
def tyX3 : Nat → FieldType := fun k => match k with
  | 0 => .int
  | 1 => .int
  | 2 => .int
  | _ => .object "TypeWorkshop$Layout"
theorem nmX3 : ∀ a, a < 4 → ∀ b, b < 4 → a ≠ b → (TX3 a).2.1 ≠ (TX3 b).2.1 := by decide +kernel
theorem tyX3_ok : ∀ k, k < 4 → parseFieldDescriptor (TX3 k).2.2.1 = some (tyX3 k) := by decide +kernel
abbrev cX3_init : ByteArray := prog_5_method_1_code
def yX3_init : MethodName := ⟨RX3, "<init>", "(IIILTypeWorkshop$Layout;)V"⟩
def RX4 : String := "TypeWorkshop$Spacer"
def TX4 : u_T := fun k => match k with
  | 0 => ("TypeWorkshop$Spacer", "foursLeft", "I", false)
  | 1 => ("TypeWorkshop$Spacer", "twosLeft", "I", false)
  | 2 => ("TypeWorkshop$Spacer", "fours", "I", false)
  | 3 => ("TypeWorkshop$Spacer", "twos", "I", false)
  | 4 => ("TypeWorkshop$Spacer", "ones", "I", false)
  | 5 => ("TypeWorkshop$Spacer", "allFours", "I", false)
  | 6 => ("TypeWorkshop$Spacer", "allTwos", "I", false)
  | _ => ("TypeWorkshop$Spacer", "allOnes", "I", false)
def tyX4 : Nat → FieldType := fun k => match k with
  | 0 => .int
  | 1 => .int
  | 2 => .int
  | 3 => .int
  | 4 => .int
  | 5 => .int
  | 6 => .int
  | _ => .int
theorem nmX4 : ∀ a, a < 8 → ∀ b, b < 8 → a ≠ b → (TX4 a).2.1 ≠ (TX4 b).2.1 := by decide +kernel
theorem tyX4_ok : ∀ k, k < 8 → parseFieldDescriptor (TX4 k).2.2.1 = some (tyX4 k) := by decide +kernel
abbrev cX4_init : ByteArray := prog_6_method_1_code
def yX4_init : MethodName := ⟨RX4, "<init>", "()V"⟩
abbrev cX4_begin : ByteArray := prog_6_method_2_code
def yX4_begin : MethodName := ⟨RX4, "begin", "(II)V"⟩
abbrev cX4_fill : ByteArray := prog_6_method_3_code
def yX4_fill : MethodName := ⟨RX4, "fill", "(I)V"⟩
abbrev cX4_pieceCount : ByteArray := prog_6_method_4_code
def yX4_pieceCount : MethodName := ⟨RX4, "pieceCount", "()I"⟩
abbrev cX4_digitAt : ByteArray := prog_6_method_5_code
def yX4_digitAt : MethodName := ⟨RX4, "digitAt", "(I)C"⟩
def RX5 : String := "TypeWorkshop$State"
def TX5 : u_T := fun k => match k with
  | 0 => ("TypeWorkshop$State", "inCases", "[I", true)
  | 1 => ("TypeWorkshop$State", "worn", "[I", true)
  | 2 => ("TypeWorkshop$State", "jobs", "[LTypeWorkshop$Job;", true)
  | 3 => ("TypeWorkshop$State", "caseCount", "I", false)
  | 4 => ("TypeWorkshop$State", "jobCount", "I", false)
  | 5 => ("TypeWorkshop$State", "pot", "I", false)
  | 6 => ("TypeWorkshop$State", "day", "I", false)
  | 7 => ("TypeWorkshop$State", "bought", "I", false)
  | 8 => ("TypeWorkshop$State", "dross", "I", false)
  | 9 => ("TypeWorkshop$State", "castPieces", "I", false)
  | _ => ("TypeWorkshop$State", "meltedPieces", "I", false)
def tyX5 : Nat → FieldType := fun k => match k with
  | 0 => .array .int
  | 1 => .array .int
  | 2 => .array (.object "TypeWorkshop$Job")
  | 3 => .int
  | 4 => .int
  | 5 => .int
  | 6 => .int
  | 7 => .int
  | 8 => .int
  | 9 => .int
  | _ => .int
theorem nmX5 : ∀ a, a < 11 → ∀ b, b < 11 → a ≠ b → (TX5 a).2.1 ≠ (TX5 b).2.1 := by decide +kernel
theorem tyX5_ok : ∀ k, k < 11 → parseFieldDescriptor (TX5 k).2.2.1 = some (tyX5 k) := by decide +kernel
abbrev cX5_init : ByteArray := prog_7_method_1_code
def yX5_init : MethodName := ⟨RX5, "<init>", "()V"⟩
abbrev cX5_copyFrom : ByteArray := prog_7_method_2_code
def yX5_copyFrom : MethodName := ⟨RX5, "copyFrom", "(LTypeWorkshop$State;)V"⟩
abbrev cX5_findJob : ByteArray := prog_7_method_3_code
def yX5_findJob : MethodName := ⟨RX5, "findJob", "(I)LTypeWorkshop$Job;"⟩
abbrev cX5_putJob : ByteArray := prog_7_method_4_code
def yX5_putJob : MethodName := ⟨RX5, "putJob", "(ILTypeWorkshop$Job;)V"⟩
abbrev cX5_held : ByteArray := prog_7_method_5_code
def yX5_held : MethodName := ⟨RX5, "held", "(II)I"⟩
abbrev cX5_heldInAll : ByteArray := prog_7_method_6_code
def yX5_heldInAll : MethodName := ⟨RX5, "heldInAll", "(I)I"⟩
abbrev cX5_put : ByteArray := prog_7_method_7_code
def yX5_put : MethodName := ⟨RX5, "put", "(III)V"⟩
abbrev cX5_wornPieces : ByteArray := prog_7_method_8_code
def yX5_wornPieces : MethodName := ⟨RX5, "wornPieces", "()I"⟩
abbrev cX5_wornMetal : ByteArray := prog_7_method_9_code
def yX5_wornMetal : MethodName := ⟨RX5, "wornMetal", "()I"⟩
abbrev cX5_emptyWornBox : ByteArray := prog_7_method_10_code
def yX5_emptyWornBox : MethodName := ⟨RX5, "emptyWornBox", "()V"⟩
abbrev cX5_metalInCases : ByteArray := prog_7_method_11_code
def yX5_metalInCases : MethodName := ⟨RX5, "metalInCases", "()I"⟩
abbrev cX5_metalInFormes : ByteArray := prog_7_method_12_code
def yX5_metalInFormes : MethodName := ⟨RX5, "metalInFormes", "()I"⟩
abbrev cX5_allDaysLate : ByteArray := prog_7_method_13_code
def yX5_allDaysLate : MethodName := ⟨RX5, "allDaysLate", "()I"⟩
abbrev cX5_overdueJobs : ByteArray := prog_7_method_14_code
def yX5_overdueJobs : MethodName := ⟨RX5, "overdueJobs", "()I"⟩
def RX6 : String := "TypeWorkshop"
def TX6 : u_T := fun k => match k with
  | 0 => ("TypeWorkshop", "draft", "LTypeWorkshop$Draft;", true)
  | 1 => ("TypeWorkshop", "now", "LTypeWorkshop$State;", true)
  | 2 => ("TypeWorkshop", "history", "[LTypeWorkshop$State;", true)
  | 3 => ("TypeWorkshop", "historyLength", "I", false)
  | 4 => ("TypeWorkshop", "snapshot", "LTypeWorkshop$State;", false)
  | 5 => ("TypeWorkshop", "spacer", "LTypeWorkshop$Spacer;", true)
  | 6 => ("TypeWorkshop", "needed", "[I", true)
  | 7 => ("TypeWorkshop", "available", "[I", true)
  | _ => ("TypeWorkshop", "wanted", "[I", true)
def tyX6 : Nat → FieldType := fun k => match k with
  | 0 => .object "TypeWorkshop$Draft"
  | 1 => .object "TypeWorkshop$State"
  | 2 => .array (.object "TypeWorkshop$State")
  | 3 => .int
  | 4 => .object "TypeWorkshop$State"
  | 5 => .object "TypeWorkshop$Spacer"
  | 6 => .array .int
  | 7 => .array .int
  | _ => .array .int
theorem nmX6 : ∀ a, a < 9 → ∀ b, b < 9 → a ≠ b → (TX6 a).2.1 ≠ (TX6 b).2.1 := by decide +kernel
theorem tyX6_ok : ∀ k, k < 9 → parseFieldDescriptor (TX6 k).2.2.1 = some (tyX6 k) := by decide +kernel
abbrev cX6_init : ByteArray := prog_1_method_1_code
def yX6_init : MethodName := ⟨RX6, "<init>", "()V"⟩
abbrev cX6_buy : ByteArray := prog_1_method_2_code
def yX6_buy : MethodName := ⟨RX6, "buy", "(I)I"⟩
abbrev cX6_addCase : ByteArray := prog_1_method_3_code
def yX6_addCase : MethodName := ⟨RX6, "addCase", "()I"⟩
abbrev cX6_cast : ByteArray := prog_1_method_4_code
def yX6_cast : MethodName := ⟨RX6, "cast", "(III)I"⟩
abbrev cX6_castFount : ByteArray := prog_1_method_5_code
def yX6_castFount : MethodName := ⟨RX6, "castFount", "(II)I"⟩
abbrev cX6_melt : ByteArray := prog_1_method_6_code
def yX6_melt : MethodName := ⟨RX6, "melt", "(III)I"⟩
abbrev cX6_meltBox : ByteArray := prog_1_method_7_code
def yX6_meltBox : MethodName := ⟨RX6, "meltBox", "()I"⟩
abbrev cX6_type : ByteArray := prog_1_method_8_code
def yX6_type : MethodName := ⟨RX6, "type", "(C)I"⟩
abbrev cX6_clearText : ByteArray := prog_1_method_9_code
def yX6_clearText : MethodName := ⟨RX6, "clearText", "()I"⟩
abbrev cX6_order : ByteArray := prog_1_method_10_code
def yX6_order : MethodName := ⟨RX6, "order", "(III)I"⟩
abbrev cX6_set : ByteArray := prog_1_method_11_code
def yX6_set : MethodName := ⟨RX6, "set", "(I)I"⟩
abbrev cX6_castMissing : ByteArray := prog_1_method_12_code
def yX6_castMissing : MethodName := ⟨RX6, "castMissing", "(I)I"⟩
abbrev cX6_print : ByteArray := prog_1_method_13_code
def yX6_print : MethodName := ⟨RX6, "print", "(I)I"⟩
abbrev cX6_distribute : ByteArray := prog_1_method_14_code
def yX6_distribute : MethodName := ⟨RX6, "distribute", "(I)I"⟩
abbrev cX6_cancel : ByteArray := prog_1_method_15_code
def yX6_cancel : MethodName := ⟨RX6, "cancel", "(I)I"⟩
abbrev cX6_pass : ByteArray := prog_1_method_16_code
def yX6_pass : MethodName := ⟨RX6, "pass", "(I)I"⟩
abbrev cX6_undo : ByteArray := prog_1_method_17_code
def yX6_undo : MethodName := ⟨RX6, "undo", "()I"⟩
abbrev cX6_keep : ByteArray := prog_1_method_18_code
def yX6_keep : MethodName := ⟨RX6, "keep", "()I"⟩
abbrev cX6_restore : ByteArray := prog_1_method_19_code
def yX6_restore : MethodName := ⟨RX6, "restore", "()I"⟩
abbrev cX6_pieces : ByteArray := prog_1_method_20_code
def yX6_pieces : MethodName := ⟨RX6, "pieces", "(II)I"⟩
abbrev cX6_job : ByteArray := prog_1_method_21_code
def yX6_job : MethodName := ⟨RX6, "job", "(II)I"⟩
abbrev cX6_need : ByteArray := prog_1_method_22_code
def yX6_need : MethodName := ⟨RX6, "need", "(II)I"⟩
abbrev cX6_missing : ByteArray := prog_1_method_23_code
def yX6_missing : MethodName := ⟨RX6, "missing", "(II)I"⟩
abbrev cX6_taken : ByteArray := prog_1_method_24_code
def yX6_taken : MethodName := ⟨RX6, "taken", "(III)I"⟩
abbrev cX6_gap : ByteArray := prog_1_method_25_code
def yX6_gap : MethodName := ⟨RX6, "gap", "(III)I"⟩
abbrev cX6_pieceAt : ByteArray := prog_1_method_26_code
def yX6_pieceAt : MethodName := ⟨RX6, "pieceAt", "(III)I"⟩
abbrev cX6_urgent : ByteArray := prog_1_method_27_code
def yX6_urgent : MethodName := ⟨RX6, "urgent", "()I"⟩
abbrev cX6_count : ByteArray := prog_1_method_28_code
def yX6_count : MethodName := ⟨RX6, "count", "(I)I"⟩
abbrev cX6_isCase : ByteArray := prog_1_method_29_code
def yX6_isCase : MethodName := ⟨RX6, "isCase", "(I)Z"⟩
abbrev cX6_isSort : ByteArray := prog_1_method_30_code
def yX6_isSort : MethodName := ⟨RX6, "isSort", "(I)Z"⟩
abbrev cX6_isLetter : ByteArray := prog_1_method_31_code
def yX6_isLetter : MethodName := ⟨RX6, "isLetter", "(C)Z"⟩
abbrev cX6_widthOf : ByteArray := prog_1_method_32_code
def yX6_widthOf : MethodName := ⟨RX6, "widthOf", "(I)I"⟩
abbrev cX6_recordState : ByteArray := prog_1_method_33_code
def yX6_recordState : MethodName := ⟨RX6, "recordState", "()V"⟩
abbrev cX6_dropOldestState : ByteArray := prog_1_method_34_code
def yX6_dropOldestState : MethodName := ⟨RX6, "dropOldestState", "()V"⟩
abbrev cX6_castWanted : ByteArray := prog_1_method_35_code
def yX6_castWanted : MethodName := ⟨RX6, "castWanted", "(I)I"⟩
abbrev cX6_reckon : ByteArray := prog_1_method_36_code
def yX6_reckon : MethodName := ⟨RX6, "reckon", "(LTypeWorkshop$Job;)V"⟩
abbrev cX6_missingOf : ByteArray := prog_1_method_37_code
def yX6_missingOf : MethodName := ⟨RX6, "missingOf", "(I)I"⟩
abbrev cX6_takeNeeded : ByteArray := prog_1_method_38_code
def yX6_takeNeeded : MethodName := ⟨RX6, "takeNeeded", "(I)[I"⟩
abbrev cX6_takePieces : ByteArray := prog_1_method_39_code
def yX6_takePieces : MethodName := ⟨RX6, "takePieces", "([IIII)I"⟩
abbrev cX6_slotOf : ByteArray := prog_1_method_40_code
def yX6_slotOf : MethodName := ⟨RX6, "slotOf", "(II)I"⟩
abbrev cX6_giveBack : ByteArray := prog_1_method_41_code
def yX6_giveBack : MethodName := ⟨RX6, "giveBack", "(LTypeWorkshop$Job;Z)I"⟩
abbrev cX6_findPiece : ByteArray := prog_1_method_42_code
def yX6_findPiece : MethodName := ⟨RX6, "findPiece", "(LTypeWorkshop$Job;II)I"⟩
def RX7 : String := "TypeWorkshopModel"
def TX7 : u_T := fun k => match k with
  | 0 => ("TypeWorkshopModel", "now", "[I", true)
  | 1 => ("TypeWorkshopModel", "history", "[I", true)
  | 2 => ("TypeWorkshopModel", "kept", "I", false)
  | 3 => ("TypeWorkshopModel", "slot", "[I", true)
  | 4 => ("TypeWorkshopModel", "isFilled", "Z", false)
  | 5 => ("TypeWorkshopModel", "typed", "I", false)
  | 6 => ("TypeWorkshopModel", "text", "[I", true)
  | 7 => ("TypeWorkshopModel", "worked", "I", false)
  | 8 => ("TypeWorkshopModel", "work", "[I", true)
  | 9 => ("TypeWorkshopModel", "lines", "I", false)
  | 10 => ("TypeWorkshopModel", "letters", "I", false)
  | 11 => ("TypeWorkshopModel", "gaps", "I", false)
  | 12 => ("TypeWorkshopModel", "lineFrom", "[I", true)
  | 13 => ("TypeWorkshopModel", "lineEnd", "[I", true)
  | 14 => ("TypeWorkshopModel", "firstGap", "[I", true)
  | 15 => ("TypeWorkshopModel", "gapWide", "[I", true)
  | 16 => ("TypeWorkshopModel", "isTooWide", "Z", false)
  | 17 => ("TypeWorkshopModel", "needs", "[I", true)
  | 18 => ("TypeWorkshopModel", "there", "[I", true)
  | 19 => ("TypeWorkshopModel", "fours", "[I", true)
  | 20 => ("TypeWorkshopModel", "twos", "[I", true)
  | _ => ("TypeWorkshopModel", "ones", "[I", true)
def tyX7 : Nat → FieldType := fun k => match k with
  | 0 => .array .int
  | 1 => .array .int
  | 2 => .int
  | 3 => .array .int
  | 4 => .boolean
  | 5 => .int
  | 6 => .array .int
  | 7 => .int
  | 8 => .array .int
  | 9 => .int
  | 10 => .int
  | 11 => .int
  | 12 => .array .int
  | 13 => .array .int
  | 14 => .array .int
  | 15 => .array .int
  | 16 => .boolean
  | 17 => .array .int
  | 18 => .array .int
  | 19 => .array .int
  | 20 => .array .int
  | _ => .array .int
theorem nmX7 : ∀ a, a < 22 → ∀ b, b < 22 → a ≠ b → (TX7 a).2.1 ≠ (TX7 b).2.1 := by decide +kernel
theorem tyX7_ok : ∀ k, k < 22 → parseFieldDescriptor (TX7 k).2.2.1 = some (tyX7 k) := by decide +kernel
abbrev cX7_init : ByteArray := prog_9_method_1_code
def yX7_init : MethodName := ⟨RX7, "<init>", "()V"⟩
abbrev cX7_in : ByteArray := prog_9_method_2_code
def yX7_in : MethodName := ⟨RX7, "in", "(III)Z"⟩
abbrev cX7_record : ByteArray := prog_9_method_3_code
def yX7_record : MethodName := ⟨RX7, "record", "()V"⟩
abbrev cX7_width : ByteArray := prog_9_method_4_code
def yX7_width : MethodName := ⟨RX7, "width", "(I)I"⟩
abbrev cX7_noCase : ByteArray := prog_9_method_5_code
def yX7_noCase : MethodName := ⟨RX7, "noCase", "(I)Z"⟩
abbrev cX7_noSort : ByteArray := prog_9_method_6_code
def yX7_noSort : MethodName := ⟨RX7, "noSort", "(I)Z"⟩
abbrev cX7_noJob : ByteArray := prog_9_method_7_code
def yX7_noJob : MethodName := ⟨RX7, "noJob", "(I)Z"⟩
abbrev cX7_has : ByteArray := prog_9_method_8_code
def yX7_has : MethodName := ⟨RX7, "has", "(II)I"⟩
abbrev cX7_ofJob : ByteArray := prog_9_method_9_code
def yX7_ofJob : MethodName := ⟨RX7, "ofJob", "(II)I"⟩
abbrev cX7_put : ByteArray := prog_9_method_10_code
def yX7_put : MethodName := ⟨RX7, "put", "(III)V"⟩
abbrev cX7_inForme : ByteArray := prog_9_method_11_code
def yX7_inForme : MethodName := ⟨RX7, "inForme", "(III)I"⟩
abbrev cX7_buy : ByteArray := prog_9_method_12_code
def yX7_buy : MethodName := ⟨RX7, "buy", "(I)I"⟩
abbrev cX7_addCase : ByteArray := prog_9_method_13_code
def yX7_addCase : MethodName := ⟨RX7, "addCase", "()I"⟩
abbrev cX7_casts : ByteArray := prog_9_method_14_code
def yX7_casts : MethodName := ⟨RX7, "casts", "(III)V"⟩
abbrev cX7_cast : ByteArray := prog_9_method_15_code
def yX7_cast : MethodName := ⟨RX7, "cast", "(III)I"⟩
abbrev cX7_castFount : ByteArray := prog_9_method_16_code
def yX7_castFount : MethodName := ⟨RX7, "castFount", "(II)I"⟩
abbrev cX7_melt : ByteArray := prog_9_method_17_code
def yX7_melt : MethodName := ⟨RX7, "melt", "(III)I"⟩
abbrev cX7_inBox : ByteArray := prog_9_method_18_code
def yX7_inBox : MethodName := ⟨RX7, "inBox", "()I"⟩
abbrev cX7_boxMetal : ByteArray := prog_9_method_19_code
def yX7_boxMetal : MethodName := ⟨RX7, "boxMetal", "()I"⟩
abbrev cX7_meltBox : ByteArray := prog_9_method_20_code
def yX7_meltBox : MethodName := ⟨RX7, "meltBox", "()I"⟩
abbrev cX7_type : ByteArray := prog_9_method_21_code
def yX7_type : MethodName := ⟨RX7, "type", "(C)I"⟩
abbrev cX7_clearText : ByteArray := prog_9_method_22_code
def yX7_clearText : MethodName := ⟨RX7, "clearText", "()I"⟩
abbrev cX7_isLetter : ByteArray := prog_9_method_23_code
def yX7_isLetter : MethodName := ⟨RX7, "isLetter", "(I)Z"⟩
abbrev cX7_faultOf : ByteArray := prog_9_method_24_code
def yX7_faultOf : MethodName := ⟨RX7, "faultOf", "()I"⟩
abbrev cX7_layLine : ByteArray := prog_9_method_25_code
def yX7_layLine : MethodName := ⟨RX7, "layLine", "(III)V"⟩
abbrev cX7_layLines : ByteArray := prog_9_method_26_code
def yX7_layLines : MethodName := ⟨RX7, "layLines", "(I)V"⟩
abbrev cX7_layJob : ByteArray := prog_9_method_27_code
def yX7_layJob : MethodName := ⟨RX7, "layJob", "(I)V"⟩
abbrev cX7_least : ByteArray := prog_9_method_28_code
def yX7_least : MethodName := ⟨RX7, "least", "(II)I"⟩
abbrev cX7_hasForme : ByteArray := prog_9_method_29_code
def yX7_hasForme : MethodName := ⟨RX7, "hasForme", "(I)Z"⟩
abbrev cX7_layNeeds : ByteArray := prog_9_method_30_code
def yX7_layNeeds : MethodName := ⟨RX7, "layNeeds", "(I)V"⟩
abbrev cX7_lacks : ByteArray := prog_9_method_31_code
def yX7_lacks : MethodName := ⟨RX7, "lacks", "(I)I"⟩
abbrev cX7_allLacks : ByteArray := prog_9_method_32_code
def yX7_allLacks : MethodName := ⟨RX7, "allLacks", "()I"⟩
abbrev cX7_order : ByteArray := prog_9_method_33_code
def yX7_order : MethodName := ⟨RX7, "order", "(III)I"⟩
abbrev cX7_takes : ByteArray := prog_9_method_34_code
def yX7_takes : MethodName := ⟨RX7, "takes", "(II)I"⟩
abbrev cX7_set : ByteArray := prog_9_method_35_code
def yX7_set : MethodName := ⟨RX7, "set", "(I)I"⟩
abbrev cX7_castMissing : ByteArray := prog_9_method_36_code
def yX7_castMissing : MethodName := ⟨RX7, "castMissing", "(I)I"⟩
abbrev cX7_print : ByteArray := prog_9_method_37_code
def yX7_print : MethodName := ⟨RX7, "print", "(I)I"⟩
abbrev cX7_goBack : ByteArray := prog_9_method_38_code
def yX7_goBack : MethodName := ⟨RX7, "goBack", "(II)I"⟩
abbrev cX7_distribute : ByteArray := prog_9_method_39_code
def yX7_distribute : MethodName := ⟨RX7, "distribute", "(I)I"⟩
abbrev cX7_inFormeOf : ByteArray := prog_9_method_40_code
def yX7_inFormeOf : MethodName := ⟨RX7, "inFormeOf", "(IZ)I"⟩
abbrev cX7_cancel : ByteArray := prog_9_method_41_code
def yX7_cancel : MethodName := ⟨RX7, "cancel", "(I)I"⟩
abbrev cX7_pass : ByteArray := prog_9_method_42_code
def yX7_pass : MethodName := ⟨RX7, "pass", "(I)I"⟩
abbrev cX7_undo : ByteArray := prog_9_method_43_code
def yX7_undo : MethodName := ⟨RX7, "undo", "()I"⟩
abbrev cX7_keep : ByteArray := prog_9_method_44_code
def yX7_keep : MethodName := ⟨RX7, "keep", "()I"⟩
abbrev cX7_restore : ByteArray := prog_9_method_45_code
def yX7_restore : MethodName := ⟨RX7, "restore", "()I"⟩
abbrev cX7_pieces : ByteArray := prog_9_method_46_code
def yX7_pieces : MethodName := ⟨RX7, "pieces", "(II)I"⟩
abbrev cX7_job : ByteArray := prog_9_method_47_code
def yX7_job : MethodName := ⟨RX7, "job", "(II)I"⟩
abbrev cX7_need : ByteArray := prog_9_method_48_code
def yX7_need : MethodName := ⟨RX7, "need", "(II)I"⟩
abbrev cX7_missing : ByteArray := prog_9_method_49_code
def yX7_missing : MethodName := ⟨RX7, "missing", "(II)I"⟩
abbrev cX7_taken : ByteArray := prog_9_method_50_code
def yX7_taken : MethodName := ⟨RX7, "taken", "(III)I"⟩
abbrev cX7_gap : ByteArray := prog_9_method_51_code
def yX7_gap : MethodName := ⟨RX7, "gap", "(III)I"⟩
abbrev cX7_spaceAt : ByteArray := prog_9_method_52_code
def yX7_spaceAt : MethodName := ⟨RX7, "spaceAt", "(II)I"⟩
abbrev cX7_spaces : ByteArray := prog_9_method_53_code
def yX7_spaces : MethodName := ⟨RX7, "spaces", "(I)I"⟩
abbrev cX7_pieceAt : ByteArray := prog_9_method_54_code
def yX7_pieceAt : MethodName := ⟨RX7, "pieceAt", "(III)I"⟩
abbrev cX7_isToDo : ByteArray := prog_9_method_55_code
def yX7_isToDo : MethodName := ⟨RX7, "isToDo", "(I)Z"⟩
abbrev cX7_urgent : ByteArray := prog_9_method_56_code
def yX7_urgent : MethodName := ⟨RX7, "urgent", "()I"⟩
abbrev cX7_caseMetal : ByteArray := prog_9_method_57_code
def yX7_caseMetal : MethodName := ⟨RX7, "caseMetal", "()I"⟩
abbrev cX7_formeMetal : ByteArray := prog_9_method_58_code
def yX7_formeMetal : MethodName := ⟨RX7, "formeMetal", "()I"⟩
abbrev cX7_lateDays : ByteArray := prog_9_method_59_code
def yX7_lateDays : MethodName := ⟨RX7, "lateDays", "()I"⟩
abbrev cX7_pastDue : ByteArray := prog_9_method_60_code
def yX7_pastDue : MethodName := ⟨RX7, "pastDue", "()I"⟩
abbrev cX7_count : ByteArray := prog_9_method_61_code
def yX7_count : MethodName := ⟨RX7, "count", "(I)I"⟩
def RJ9 : String := "java/lang/Math"
def TJ9 : u_T := fun k => match k with
  | _ => ("", "", "", false)
def tyJ9 : Nat → FieldType := fun k => match k with
  | _ => .int
theorem nmJ9 : ∀ a, a < 0 → ∀ b, b < 0 → a ≠ b → (TJ9 a).2.1 ≠ (TJ9 b).2.1 := by decide +kernel
theorem tyJ9_ok : ∀ k, k < 0 → parseFieldDescriptor (TJ9 k).2.2.1 = some (tyJ9 k) := by decide +kernel
abbrev cJ9_max_7cf53 : ByteArray := prog_10_method_65_code
def yJ9_max_7cf53 : MethodName := ⟨RJ9, "max", "(II)I"⟩
abbrev cJ9_min_7cf53 : ByteArray := prog_10_method_69_code
def yJ9_min_7cf53 : MethodName := ⟨RJ9, "min", "(II)I"⟩
def RJ10 : String := "java/lang/System"
def TJ10 : u_T := fun k => match k with
  | _ => ("", "", "", false)
def tyJ10 : Nat → FieldType := fun k => match k with
  | _ => .int
theorem nmJ10 : ∀ a, a < 0 → ∀ b, b < 0 → a ≠ b → (TJ10 a).2.1 ≠ (TJ10 b).2.1 := by decide +kernel
theorem tyJ10_ok : ∀ k, k < 0 → parseFieldDescriptor (TJ10 k).2.2.1 = some (tyJ10 k) := by decide +kernel
def RL : String := "TypeWorkshopLaw"
abbrev cL_law : ByteArray := code
def yL_law : MethodName := ⟨RL, "law", "([I)Z"⟩
end
section
/-! the pure heap: contents by cell code (address + 1; 0 is null) and place -/
def lwG : List Cond := lw_tbl.filter goodWord
theorem lwm (i : Nat) {w : Cond} (h : lw_tbl[i]? = some w) (hg : goodWord w = true) : w ∈ lwG := List.mem_filter.mpr ⟨List.mem_of_getElem? h, hg⟩
theorem lwG_good (w : Cond) (h : w ∈ lwG) : goodWord w = true := (List.mem_filter.mp h).2
abbrev Hp : Type := (Nat → Nat → Int32) × (Nat → Nat → Nat) × (Nat → Nat) × (Nat → Nat)
def hI (h : Hp) (c i : Nat) : Int32 := h.1 c i
def hR (h : Hp) (c i : Nat) : Nat := h.2.1 c i
def hK (h : Hp) (c : Nat) : Nat := h.2.2.1 c
def hL (h : Hp) (c : Nat) : Nat := h.2.2.2 c
def sI (h : Hp) (c i : Nat) (v : Int32) : Hp := (fun x j => if x = c ∧ j = i then v else h.1 x j, h.2.1, h.2.2.1, h.2.2.2)
def sR (h : Hp) (c i : Nat) (v : Nat) : Hp := (h.1, fun x j => if x = c ∧ j = i then v else h.2.1 x j, h.2.2.1, h.2.2.2)
def nN (h : Hp) (q k n : Nat) : Hp := (fun x j => if x = q then 0 else h.1 x j, fun x j => if x = q then 0 else h.2.1 x j, fun x => if x = q then k else h.2.2.1 x, fun x => if x = q then n else h.2.2.2 x)
def cpI (h : Hp) (a sp b dp n : Nat) : Hp := (fun x j => if x = b ∧ dp ≤ j ∧ j < dp + n then h.1 a (sp + (j - dp)) else h.1 x j, h.2.1, h.2.2.1, h.2.2.2)
def ix (i : Int32) : Nat := i.toNatClampNeg
/-- what a char keeps of an int -/
def cn (x : Int32) : Int32 := (x.toUInt32 % 65536).toInt32
theorem hI_sI (h : Hp) (c i : Nat) (v : Int32) (x j : Nat) : hI (sI h c i v) x j = if x = c ∧ j = i then v else hI h x j := rfl
theorem hR_sI (h : Hp) (c i : Nat) (v : Int32) (x j : Nat) : hR (sI h c i v) x j = hR h x j := rfl
theorem hK_sI (h : Hp) (c i : Nat) (v : Int32) (x : Nat) : hK (sI h c i v) x = hK h x := rfl
theorem hL_sI (h : Hp) (c i : Nat) (v : Int32) (x : Nat) : hL (sI h c i v) x = hL h x := rfl
theorem hI_sR (h : Hp) (c i : Nat) (v : Nat) (x j : Nat) : hI (sR h c i v) x j = hI h x j := rfl
theorem hR_sR (h : Hp) (c i : Nat) (v : Nat) (x j : Nat) : hR (sR h c i v) x j = if x = c ∧ j = i then v else hR h x j := rfl
theorem hK_sR (h : Hp) (c i : Nat) (v : Nat) (x : Nat) : hK (sR h c i v) x = hK h x := rfl
theorem hL_sR (h : Hp) (c i : Nat) (v : Nat) (x : Nat) : hL (sR h c i v) x = hL h x := rfl
theorem hI_nN (h : Hp) (q k n x j : Nat) : hI (nN h q k n) x j = if x = q then 0 else hI h x j := rfl
theorem hR_nN (h : Hp) (q k n x j : Nat) : hR (nN h q k n) x j = if x = q then 0 else hR h x j := rfl
theorem hK_nN (h : Hp) (q k n x : Nat) : hK (nN h q k n) x = if x = q then k else hK h x := rfl
theorem hL_nN (h : Hp) (q k n x : Nat) : hL (nN h q k n) x = if x = q then n else hL h x := rfl
theorem hI_cp (h : Hp) (a sp b dp n x j : Nat) : hI (cpI h a sp b dp n) x j = if x = b ∧ dp ≤ j ∧ j < dp + n then hI h a (sp + (j - dp)) else hI h x j := rfl
theorem hR_cp (h : Hp) (a sp b dp n x j : Nat) : hR (cpI h a sp b dp n) x j = hR h x j := rfl
theorem hK_cp (h : Hp) (a sp b dp n x : Nat) : hK (cpI h a sp b dp n) x = hK h x := rfl
theorem hL_cp (h : Hp) (a sp b dp n x : Nat) : hL (cpI h a sp b dp n) x = hL h x := rfl
/-! references -/
def oc : Nat → Option Nat
  | 0 => none
  | a + 1 => some a
def rv (c : Nat) : Value := va_rf (oc c)
theorem rv_0 : rv 0 = .null := rfl
theorem rv_s (a : Nat) : rv (a + 1) = .ref a := rfl
theorem rv_cat (c : Nat) : (rv c).category = 1 := by cases c <;> rfl
theorem rv_or (c : Nat) : rv c = .null ∨ ∃ a, rv c = .ref a := by cases c <;> first | exact Or.inl rfl | exact Or.inr ⟨_, rfl⟩
/-! the classes: which slots are references -/
def cls : List vw_C := [(RX0, TX0, 2), (RX1, TX1, 4), (RX2, TX2, 9), (RX3, TX3, 4), (RX4, TX4, 8), (RX5, TX5, 11), (RX6, TX6, 9), (RX7, TX7, 22)]
def isrf (t : FieldType) : Bool := match t with
  | .object _ => true
  | .array _ => true
  | _ => false
def ctys : List (Nat → FieldType) := [tyX0, tyX1, tyX2, tyX3, tyX4, tyX5, tyX6, tyX7]
def rfk (c k : Nat) : Bool := match ctys[c]? with
  | some t => isrf (t k)
  | none => false
/-- kinds: a class's number + 1; 20 int[], 21 char[], 22 Job[], 23 State[], 30 the reference's int[] -/
def acd (k : Nat) : Nat := if k = 21 then 1 else if k = 22 then 2 else if k = 23 then 3 else 0
def aty (d : Nat) : FieldType := if d = 1 then .char else if d = 2 then .object RX1 else if d = 3 then .object RX5 else .int
abbrev Ev : Type := va_G × (Nat → ClassId) × Nat × Heap
def sv (h : Hp) (c i : Nat) (r : Bool) : Value := if r = true then rv (hR h c i) else .int (hI h c i)
def cellOk (E : Ev) (h : Hp) (H : Heap) (c : Nat) : Prop :=
  if hK h c < 20 then ∃ r : vw_C, cls[hK h c - 1]? = some r ∧ t_OB (c - 1) (E.1.1 (hK h c - 1)) r.2.2 (E.1.2 (hK h c - 1)) H (fun k => sv h c k (rfk (hK h c - 1) k))
  else H[c - 1]? = some (arrV (E.2.1 (acd (hK h c))) (hL h c) (fun i => sv h c i (decide (2 ≤ acd (hK h c)))))
def Rep (E : Ev) (h : Hp) (H : Heap) : Prop := hK h 0 = 0 ∧ E.2.2.1 ≤ H.size ∧ (∀ q : Nat, q < E.2.2.1 → H[q]? = E.2.2.2[q]?) ∧ ∀ c, hK h c ≠ 0 → E.2.2.1 ≤ c - 1 ∧ cellOk E h H c
theorem cellOk.lt {E : Ev} {h : Hp} {H : Heap} {c : Nat} (x : cellOk E h H c) : c - 1 < H.size := by
  unfold cellOk at x
  split at x
  · obtain ⟨r, -, cell, h2, -⟩ := x
    exact (Array.getElem?_eq_some_iff.mp h2).1
  · exact (Array.getElem?_eq_some_iff.mp x).1
theorem cellOk.same {E : Ev} {h h1 : Hp} {H H1 : Heap} {c : Nat} (x : cellOk E h H c) (k : hK h1 c = hK h c) (n : hL h1 c = hL h c) (i : ∀ j, hI h1 c j = hI h c j) (r : ∀ j, hR h1 c j = hR h c j) (q : H1[c - 1]? = H[c - 1]?) : cellOk E h1 H1 c := by
  have e : ∀ (j : Nat) (b : Bool), sv h1 c j b = sv h c j b := fun j b => by unfold sv; rw [i, r]
  unfold cellOk at x ⊢
  rw [k]
  split at x
  · rename_i hk
    rw [if_pos hk]
    obtain ⟨r0, g1, g2⟩ := x
    exact ⟨r0, g1, (g2.kept q).to (fun j _ => (e j _).symm)⟩
  · rename_i hk
    rw [if_neg hk, q, n, x]
    congr 2
    funext j
    exact (e j _).symm
theorem Rep.code {E : Ev} {h : Hp} {H : Heap} (x : Rep E h H) {c : Nat} (k : hK h c ≠ 0) : ∃ a, c = a + 1 := by
  cases c with
  | zero => exact absurd x.1 k
  | succ a => exact ⟨a, rfl⟩
/-- one cell is written -/
theorem Rep.put {E : Ev} {h h1 : Hp} {H H1 : Heap} {c : Nat} (x : Rep E h H) (k0 : hK h c ≠ 0) (k : ∀ d, hK h1 d = hK h d) (n : ∀ d, hL h1 d = hL h d) (i : ∀ d, d ≠ c → ∀ j, hI h1 d j = hI h d j) (r : ∀ d, d ≠ c → ∀ j, hR h1 d j = hR h d j)
    (z : H1.size = H.size) (o : ∀ q : Nat, q ≠ c - 1 → H1[q]? = H[q]?) (y : cellOk E h1 H1 c) : Rep E h1 H1 := by
  obtain ⟨a0, rfl⟩ := x.code k0
  refine ⟨by rw [k]; exact x.1, by rw [z]; exact x.2.1, fun q hq => ?_, fun d hd => ?_⟩
  · have := (x.2.2.2 _ k0).1
    rw [o q (by omega)]
    exact x.2.2.1 q hq
  · rw [k] at hd
    refine ⟨(x.2.2.2 d hd).1, ?_⟩
    by_cases e : d = a0 + 1
    · subst e; exact y
    · obtain ⟨d0, rfl⟩ := x.code hd
      exact (x.2.2.2 _ hd).2.same (k _) (n _) (i _ e) (r _ e) (o _ (by omega))
/-- one cell is made -/
theorem Rep.new {E : Ev} {h : Hp} {H H1 : Heap} {kd n : Nat} (x : Rep E h H) (hk : kd ≠ 0) (z : H1.size = H.size + 1) (o : ∀ q : Nat, q < H.size → H1[q]? = H[q]?) (y : cellOk E (nN h (H.size + 1) kd n) H1 (H.size + 1)) : hK h (H.size + 1) = 0 ∧ Rep E (nN h (H.size + 1) kd n) H1 := by
  have hz : hK h (H.size + 1) = 0 := by
    by_cases e : hK h (H.size + 1) = 0
    · exact e
    · have := (x.2.2.2 _ e).2.lt
      omega
  refine ⟨hz, ?_, by have := x.2.1; omega, fun q hq => ?_, fun d hd => ?_⟩
  · rw [hK_nN, if_neg (by omega)]; exact x.1
  · have := x.2.1
    rw [o q (by omega)]
    exact x.2.2.1 q hq
  · by_cases e : d = H.size + 1
    · subst e
      exact ⟨by have := x.2.1; omega, y⟩
    · rw [hK_nN, if_neg e] at hd
      obtain ⟨g1, g2⟩ := x.2.2.2 d hd
      refine ⟨g1, g2.same ?_ ?_ (fun j => ?_) (fun j => ?_) (o _ g2.lt)⟩
      · rw [hK_nN, if_neg e]
      · rw [hL_nN, if_neg e]
      · rw [hI_nN, if_neg e]
      · rw [hR_nN, if_neg e]
end
section
def nestT : List (String × Nat × MethodName × String) := [(RX6, 9, yX0_init, RX6), (RX6, 18, yX5_init, RX6), (RX6, 36, yX4_init, RX6), (RX5, 55, yX6_slotOf, RX6), (RX5, 62, yX6_widthOf, RX6), (RX0, 19, yX6_isLetter, RX6), (RX2, 60, yX6_isLetter, RX6), (RX2, 64, yX6_widthOf, RX6), (RX1, 37, yX6_slotOf, RX6), (RX1, 54, yX6_widthOf, RX6)]
def nestW (q : String × Nat × MethodName × String) : Cond := .methodLinkNest q.1 q.2.1 q.2.2.1 q.2.2.2
/-- what the tables say, of a state -/
def Kw (E : Ev) (s : State) : Prop := va_K E.1 cls [(E.2.1 0, aty 0), (E.2.1 1, aty 1), (E.2.1 2, aty 2), (E.2.1 3, aty 3)] s ∧ (∀ q ∈ nestT, va_Nw (nestW q) s) ∧ va_AO RX1 s ∧ va_AO RX5 s
theorem Kw.warm {E : Ev} {s U : State} (hW : s.WarmedH U.vm) (h : Kw E s) : Kw E U := ⟨va_K.moved hW.alike h.1, fun q hq => va_Nw.warmM hW (h.2.1 q hq), va_AO.moved hW.alike h.2.2.1, va_AO.moved hW.alike h.2.2.2⟩
theorem Kw.arr {E : Ev} {s : State} (h : Kw E s) {d : Nat} (hd : d < 4) : ArrOfT s (E.2.1 d) (aty d) ∧ va_RA s (E.2.1 d) (aty d) := by
  match d, hd with
  | 0, _ => exact h.1.2 0 _ rfl
  | 1, _ => exact h.1.2 1 _ rfl
  | 2, _ => exact h.1.2 2 _ rfl
  | 3, _ => exact h.1.2 3 _ rfl
theorem acd_lt (k : Nat) : acd k < 4 := by unfold acd; split <;> (try split) <;> (try split) <;> omega
def RU (E : Ev) (h : Hp) (U : State) : Prop := Rep E h U.heap ∧ Kw E U
/-- a method's contract: from every machine that holds h it returns v, and holds h1, as KK says -/
def Con (E : Ev) (l : Launch) (y : MethodName) (bytes : ByteArray) (maxL : Nat) (ret : Option FieldType) (rm : Room) (As : List Value) (h : Hp) (KK : Option Value → Hp → Prop) : Prop :=
  Met l y (.code y bytes maxL ret :: lwG) rm (va_Pc As (RU E h)) (fun _ _ o t => ∃ v h1, o = .returned v ∧ Rep E h1 t.heap ∧ KK v h1) rm.cells rm.slots (fun q => E.2.2.1 ≤ q)
abbrev Xt : Type := Program × Launch × Env × Room × State × MethodId × Array Value × List Frame × Method × Code × (State → Prop)
/-- locals by place; none: nothing is said -/
def LR (ls : Array Slot) (lo : List (Option Value)) : Prop := ls.size = lo.length ∧ lv_wf ls ∧ ∀ (i : Nat) (v : Value), lo[i]? = some (some v) → v.category = 1 ∧ ls[i]? = some (.val v)
def WW (E : Ev) (X : Xt) (h : Hp) (k n pc : Nat) (lo : List (Option Value)) (st : List Value) : Prop :=
  match X with
  | (p, l, e, R, s, m, args, below, meth, c, Q) => ∀ (H : Heap) (locs : List Loc) (ls : Array Slot), Rep E h H → (∀ q ∈ locs, E.2.2.1 ≤ q.base) → LR ls lo → W p l e R s m args below meth c H locs k n Q (F0 m pc ls st)
def Cx (E : Ev) (X : Xt) (l0 : Launch) (own : String) (code : ByteArray) (maxL : Nat) (rm : Room) : Prop :=
  match X with
  | (p, l, _, R, s, m, args, _, meth, c, _) => p.tables.exec = Jvm.exec ∧ c.code = code ∧ c.maxLocals = maxL ∧ s.vm.findClass own = some m.cls ∧ (∀ w ∈ lwG, w.before args s = true) ∧ Kw E s ∧ meth.locks = false ∧ R = rm ∧ l = l0
def CQ (E : Ev) (X : Xt) (nm : String) (ret : Option FieldType) (rm : Room) (KK : Option Value → Hp → Prop) : Prop :=
  match X with
  | (_, _, _, _, s, _, args, below, meth, _, Q) => meth.sig.returnType = ret ∧ meth.name = nm ∧ Q = MQ below (fun _ _ o t => ∃ v h1, o = .returned v ∧ Rep E h1 t.heap ∧ KK v h1) args s rm.cells rm.slots (fun q => E.2.2.1 ≤ q)
section LRs
theorem LR.has {ls : Array Slot} {lo : List (Option Value)} (h : LR ls lo) : lv_has ls lo.length ((List.range lo.length).filterMap (fun i => match lo[i]? with | some (some v) => some (i, v) | _ => none)) := by
  refine ⟨h.1, h.2.1, fun q hq => ?_⟩
  obtain ⟨i, -, hi⟩ := List.mem_filterMap.mp hq
  split at hi
  · rename_i v hv
    cases hi
    exact (h.2.2 i v hv).2
  · cases hi
theorem LR.get {ls : Array Slot} {lo : List (Option Value)} (h : LR ls lo) {i : Nat} {v : Value} (hi : lo[i]? = some (some v)) : ls[i]? = some (.val v) := (h.2.2 i v hi).2
theorem LR.set {ls : Array Slot} {lo : List (Option Value)} (h : LR ls lo) {i : Nat} {v : Value} (hc : v.category = 1) (hi : i < lo.length) : ∃ ls', storeLocals ls i v = some ls' ∧ LR ls' (lo.set i (some v)) := by
  obtain ⟨ls', e, h1, h2, h3⟩ := lv_store1 h.has hi hc
  refine ⟨ls', e, by rw [h1, List.length_set], h2, fun j w hj => ?_⟩
  by_cases hji : j = i
  · subst hji
    rw [List.getElem?_set_self hi] at hj
    cases hj
    exact ⟨hc, h3 _ List.mem_cons_self⟩
  · rw [List.getElem?_set_ne (Ne.symm hji)] at hj
    have hw := (h.2.2 j w hj).1
    refine ⟨hw, h3 (j, w) (List.mem_cons_of_mem _ (List.mem_filter.mpr ⟨List.mem_filterMap.mpr ⟨j, List.mem_range.mpr (List.getElem?_eq_some_iff.mp hj).1, by simp only [hj]⟩, ?_⟩))⟩
    simp only [Bool.and_eq_true, Bool.not_eq_true', beq_eq_false_iff_ne, ne_eq, Bool.and_eq_false_iff]
    exact ⟨hji, Or.inr (by omega)⟩
/-- fewer locals -/
def lsub : List (Option Value) → List (Option Value) → Prop
  | [], [] => True
  | a :: l, b :: m => (b = none ∨ b = a) ∧ lsub l m
  | _, _ => False
theorem lsub.len : ∀ {l m : List (Option Value)}, lsub l m → l.length = m.length
  | [], [], _ => rfl
  | _ :: _, _ :: _, h => by rw [List.length_cons, List.length_cons, lsub.len h.2]
  | [], _ :: _, h => h.elim
  | _ :: _, [], h => h.elim
theorem lsub.at : ∀ {l m : List (Option Value)}, lsub l m → ∀ (i : Nat) (v : Value), m[i]? = some (some v) → l[i]? = some (some v)
  | [], [], _, i, v, h => by simp at h
  | a :: l, b :: m, h, i, v, hv => by
    cases i with
    | zero =>
      rw [List.getElem?_cons_zero] at hv ⊢
      rcases h.1 with e | e
      · rw [e] at hv; cases hv
      · rw [← e]; exact hv
    | succ i =>
      rw [List.getElem?_cons_succ] at hv ⊢
      exact lsub.at h.2 i v hv
  | [], _ :: _, h, _, _, _ => h.elim
  | _ :: _, [], h, _, _, _ => h.elim
theorem LR.sub {ls : Array Slot} {lo lo1 : List (Option Value)} (h : LR ls lo) (hs : lsub lo lo1) : LR ls lo1 := ⟨h.1.trans hs.len, h.2.1, fun i v hv => h.2.2 i v (hs.at i v hv)⟩
end LRs
section ROWS
variable {E : Ev} {X : Xt} {l0 : Launch} {own : String} {code : ByteArray} {maxL : Nat} {rm : Room} {h : Hp} {k n pc : Nat} {lo : List (Option Value)} {st : List Value}
theorem r_iadd {x y : Int32} (hC : Cx E X l0 own code maxL rm) (hd : decode code pc = .ok (.iadd, 1)) (kk : WW E X h k n (pc + 1) lo (.int (x + y) :: st)) : WW E X h k n pc lo (.int y :: .int x :: st) := by
  obtain ⟨p, l, e, R, s, m, args, below, meth, c, Q⟩ := X
  obtain ⟨hx, hb, hml, hown, hts, hKw, hlk, hR, hl0⟩ := hC
  intro H locs ls h1 h2 h3
  exact lv_iadd hx hb hd (kk H locs ls h1 h2 h3)
theorem r_isub {x y : Int32} (hC : Cx E X l0 own code maxL rm) (hd : decode code pc = .ok (.isub, 1)) (kk : WW E X h k n (pc + 1) lo (.int (x - y) :: st)) : WW E X h k n pc lo (.int y :: .int x :: st) := by
  obtain ⟨p, l, e, R, s, m, args, below, meth, c, Q⟩ := X
  obtain ⟨hx, hb, hml, hown, hts, hKw, hlk, hR, hl0⟩ := hC
  intro H locs ls h1 h2 h3
  exact lv_isub hx hb hd (kk H locs ls h1 h2 h3)
theorem r_imul {x y : Int32} (hC : Cx E X l0 own code maxL rm) (hd : decode code pc = .ok (.imul, 1)) (kk : WW E X h k n (pc + 1) lo (.int (x * y) :: st)) : WW E X h k n pc lo (.int y :: .int x :: st) := by
  obtain ⟨p, l, e, R, s, m, args, below, meth, c, Q⟩ := X
  obtain ⟨hx, hb, hml, hown, hts, hKw, hlk, hR, hl0⟩ := hC
  intro H locs ls h1 h2 h3
  exact lv_imul hx hb hd (kk H locs ls h1 h2 h3)
theorem r_iand {x y : Int32} (hC : Cx E X l0 own code maxL rm) (hd : decode code pc = .ok (.iand, 1)) (kk : WW E X h k n (pc + 1) lo (.int (x &&& y) :: st)) : WW E X h k n pc lo (.int y :: .int x :: st) := by
  obtain ⟨p, l, e, R, s, m, args, below, meth, c, Q⟩ := X
  obtain ⟨hx, hb, hml, hown, hts, hKw, hlk, hR, hl0⟩ := hC
  intro H locs ls h1 h2 h3
  exact lv_iand hx hb hd (kk H locs ls h1 h2 h3)
theorem r_idiv {x y : Int32} (hC : Cx E X l0 own code maxL rm) (hd : decode code pc = .ok (.idiv, 1)) (hne : ¬ y = 0) (kk : WW E X h k n (pc + 1) lo (.int (x / y) :: st)) : WW E X h k n pc lo (.int y :: .int x :: st) := by
  obtain ⟨p, l, e, R, s, m, args, below, meth, c, Q⟩ := X
  obtain ⟨hx, hb, hml, hown, hts, hKw, hlk, hR, hl0⟩ := hC
  intro H locs ls h1 h2 h3
  exact lv_idiv hx hb hd hne (kk H locs ls h1 h2 h3)
theorem r_irem {x y : Int32} (hC : Cx E X l0 own code maxL rm) (hd : decode code pc = .ok (.irem, 1)) (hne : ¬ y = 0) (kk : WW E X h k n (pc + 1) lo (.int (x - x / y * y) :: st)) : WW E X h k n pc lo (.int y :: .int x :: st) := by
  obtain ⟨p, l, e, R, s, m, args, below, meth, c, Q⟩ := X
  obtain ⟨hx, hb, hml, hown, hts, hKw, hlk, hR, hl0⟩ := hC
  intro H locs ls h1 h2 h3
  exact lv_irem hx hb hd hne (kk H locs ls h1 h2 h3)
theorem r_ineg {x : Int32} (hC : Cx E X l0 own code maxL rm) (hd : decode code pc = .ok (.ineg, 1)) (kk : WW E X h k n (pc + 1) lo (.int (-x) :: st)) : WW E X h k n pc lo (.int x :: st) := by
  obtain ⟨p, l, e, R, s, m, args, below, meth, c, Q⟩ := X
  obtain ⟨hx, hb, hml, hown, hts, hKw, hlk, hR, hl0⟩ := hC
  intro H locs ls h1 h2 h3
  exact lv_ineg hx hb hd (kk H locs ls h1 h2 h3)
theorem r_i2c {x : Int32} (hC : Cx E X l0 own code maxL rm) (hd : decode code pc = .ok (.i2c, 1)) (kk : WW E X h k n (pc + 1) lo (.int (cn x) :: st)) : WW E X h k n pc lo (.int x :: st) := by
  obtain ⟨p, l, e, R, s, m, args, below, meth, c, Q⟩ := X
  obtain ⟨hx, hb, hml, hown, hts, hKw, hlk, hR, hl0⟩ := hC
  intro H locs ls h1 h2 h3
  exact lv_i2c hx hb hd rfl (kk H locs ls h1 h2 h3)
theorem r_iconst {z : Int} {v : Int32} (hC : Cx E X l0 own code maxL rm) (hd : decode code pc = .ok (.iconst z, 1)) (hv : Int32.ofInt z = v) (kk : WW E X h k n (pc + 1) lo (.int v :: st)) : WW E X h k n pc lo (st) := by
  obtain ⟨p, l, e, R, s, m, args, below, meth, c, Q⟩ := X
  obtain ⟨hx, hb, hml, hown, hts, hKw, hlk, hR, hl0⟩ := hC
  intro H locs ls h1 h2 h3
  exact lv_iconst hx hb hd hv (kk H locs ls h1 h2 h3)
theorem r_bipush {z : Int} {v : Int32} (hC : Cx E X l0 own code maxL rm) (hd : decode code pc = .ok (.bipush z, 2)) (hv : (Int8.ofInt z).toInt32 = v) (kk : WW E X h k n (pc + 2) lo (.int v :: st)) : WW E X h k n pc lo (st) := by
  obtain ⟨p, l, e, R, s, m, args, below, meth, c, Q⟩ := X
  obtain ⟨hx, hb, hml, hown, hts, hKw, hlk, hR, hl0⟩ := hC
  intro H locs ls h1 h2 h3
  exact lv_bipush hx hb hd hv (kk H locs ls h1 h2 h3)
theorem r_sipush {z : Int} {v : Int32} (hC : Cx E X l0 own code maxL rm) (hd : decode code pc = .ok (.sipush z, 3)) (hv : (Int16.ofInt z).toInt32 = v) (kk : WW E X h k n (pc + 3) lo (.int v :: st)) : WW E X h k n pc lo (st) := by
  obtain ⟨p, l, e, R, s, m, args, below, meth, c, Q⟩ := X
  obtain ⟨hx, hb, hml, hown, hts, hKw, hlk, hR, hl0⟩ := hC
  intro H locs ls h1 h2 h3
  exact lv_sipush hx hb hd hv (kk H locs ls h1 h2 h3)
theorem r_ldc {index : Nat} {v : Int32} (hC : Cx E X l0 own code maxL rm) (hd : decode code pc = .ok (.ldc index, 2)) (hw : Cond.constant own index v ∈ lwG) (kk : WW E X h k n (pc + 2) lo (.int v :: st)) : WW E X h k n pc lo st := by
  obtain ⟨p, l, e, R, s, m, args, below, meth, c, Q⟩ := X
  obtain ⟨hx, hb, hml, hown, hts, hKw, hlk, hR, hl0⟩ := hC
  intro H locs ls h1 h2 h3
  exact lv_ldc hx hb hown (hts _ hw) hd (kk H locs ls h1 h2 h3)
theorem r_dup {v : Value} (hC : Cx E X l0 own code maxL rm) (hd : decode code pc = .ok (.dup, 1)) (hv : v.category = 1) (kk : WW E X h k n (pc + 1) lo (v :: v :: st)) : WW E X h k n pc lo (v :: st) := by
  obtain ⟨p, l, e, R, s, m, args, below, meth, c, Q⟩ := X
  obtain ⟨hx, hb, hml, hown, hts, hKw, hlk, hR, hl0⟩ := hC
  intro H locs ls h1 h2 h3
  exact lv_dup hx hb hd hv (kk H locs ls h1 h2 h3)
theorem r_dup2 {v w : Value} (hC : Cx E X l0 own code maxL rm) (hd : decode code pc = .ok (.dup2, 1)) (hv : v.category = 1) (hw : w.category = 1) (kk : WW E X h k n (pc + 1) lo (v :: w :: v :: w :: st)) : WW E X h k n pc lo (v :: w :: st) := by
  obtain ⟨p, l, e, R, s, m, args, below, meth, c, Q⟩ := X
  obtain ⟨hx, hb, hml, hown, hts, hKw, hlk, hR, hl0⟩ := hC
  intro H locs ls h1 h2 h3
  exact lv_dup2_11 hx hb hd hv hw (kk H locs ls h1 h2 h3)
theorem r_null  (hC : Cx E X l0 own code maxL rm) (hd : decode code pc = .ok (.aconst_null, 1)) (kk : WW E X h k n (pc + 1) lo (rv 0 :: st)) : WW E X h k n pc lo (st) := by
  obtain ⟨p, l, e, R, s, m, args, below, meth, c, Q⟩ := X
  obtain ⟨hx, hb, hml, hown, hts, hKw, hlk, hR, hl0⟩ := hC
  intro H locs ls h1 h2 h3
  exact lv_null hx hb hd (kk H locs ls h1 h2 h3)
theorem r_iload_n {f : Fin 4} {x : Int32} (hC : Cx E X l0 own code maxL rm) (hd : decode code pc = .ok (.iload_n f, 1)) (hi : lo[(f : Nat)]? = some (some (.int x))) (kk : WW E X h k n (pc + 1) lo (.int x :: st)) : WW E X h k n pc lo st := by
  obtain ⟨p, l, e, R, s, m, args, below, meth, c, Q⟩ := X
  obtain ⟨hx, hb, hml, hown, hts, hKw, hlk, hR, hl0⟩ := hC
  intro H locs ls h1 h2 h3
  exact lv_iload_n hx hb hd rfl (h3.get hi) (kk H locs ls h1 h2 h3)
theorem r_iload {i : Nat} {x : Int32} (hC : Cx E X l0 own code maxL rm) (hd : decode code pc = .ok (.iload i, 2)) (hi : lo[i]? = some (some (.int x))) (kk : WW E X h k n (pc + 2) lo (.int x :: st)) : WW E X h k n pc lo st := by
  obtain ⟨p, l, e, R, s, m, args, below, meth, c, Q⟩ := X
  obtain ⟨hx, hb, hml, hown, hts, hKw, hlk, hR, hl0⟩ := hC
  intro H locs ls h1 h2 h3
  exact lv_iload hx hb hd (h3.get hi) (kk H locs ls h1 h2 h3)
theorem r_aload_n {f : Fin 4} {x : Nat} (hC : Cx E X l0 own code maxL rm) (hd : decode code pc = .ok (.aload_n f, 1)) (hi : lo[(f : Nat)]? = some (some (rv x))) (kk : WW E X h k n (pc + 1) lo (rv x :: st)) : WW E X h k n pc lo st := by
  obtain ⟨p, l, e, R, s, m, args, below, meth, c, Q⟩ := X
  obtain ⟨hx, hb, hml, hown, hts, hKw, hlk, hR, hl0⟩ := hC
  intro H locs ls h1 h2 h3
  cases x with
  | zero => exact lv_aload_nN hx hb hd rfl (h3.get hi) (kk H locs ls h1 h2 h3)
  | succ x => exact lv_aload_n hx hb hd rfl (h3.get hi) (kk H locs ls h1 h2 h3)
theorem r_aload {i : Nat} {x : Nat} (hC : Cx E X l0 own code maxL rm) (hd : decode code pc = .ok (.aload i, 2)) (hi : lo[i]? = some (some (rv x))) (kk : WW E X h k n (pc + 2) lo (rv x :: st)) : WW E X h k n pc lo st := by
  obtain ⟨p, l, e, R, s, m, args, below, meth, c, Q⟩ := X
  obtain ⟨hx, hb, hml, hown, hts, hKw, hlk, hR, hl0⟩ := hC
  intro H locs ls h1 h2 h3
  cases x with
  | zero => exact lv_aloadN hx hb hd (h3.get hi) (kk H locs ls h1 h2 h3)
  | succ x => exact lv_aload hx hb hd (h3.get hi) (kk H locs ls h1 h2 h3)
theorem LR.set2 {ls : Array Slot} {lo lo1 : List (Option Value)} {i : Nat} {v : Value} (h : LR ls lo) (hc : v.category = 1) (hi : i < lo.length) (hl : lo.set i (some v) = lo1) : ∀ ls' : Array Slot, lv_has ls' lo.length ((i, v) :: ((List.range lo.length).filterMap (fun i => match lo[i]? with | some (some v) => some (i, v) | _ => none)).filter (fun q => !(q.1 == i) && !(q.1 + 1 == i && q.2.category == 2))) → LR ls' lo1 := by
  intro ls' ⟨h1, h2, h3⟩
  subst hl
  refine ⟨by rw [h1, List.length_set], h2, fun j w hj => ?_⟩
  by_cases hji : j = i
  · subst hji
    rw [List.getElem?_set_self hi] at hj
    cases hj
    exact ⟨hc, h3 _ List.mem_cons_self⟩
  · rw [List.getElem?_set_ne (Ne.symm hji)] at hj
    have hw := (h.2.2 j w hj).1
    refine ⟨hw, h3 (j, w) (List.mem_cons_of_mem _ (List.mem_filter.mpr ⟨List.mem_filterMap.mpr ⟨j, List.mem_range.mpr (List.getElem?_eq_some_iff.mp hj).1, by simp only [hj]⟩, ?_⟩))⟩
    simp only [Bool.and_eq_true, Bool.not_eq_true', beq_eq_false_iff_ne, ne_eq, Bool.and_eq_false_iff]
    exact ⟨hji, Or.inr (by omega)⟩
theorem r_istore_n {f : Fin 4} {x : Int32} {lo1 : List (Option Value)} (hC : Cx E X l0 own code maxL rm) (hd : decode code pc = .ok (.istore_n f, 1)) (hi : (f : Nat) < lo.length) (hl : lo.set (f : Nat) (some (.int x)) = lo1) (kk : WW E X h k n (pc + 1) lo1 st) : WW E X h k n pc lo (.int x :: st) := by
  obtain ⟨p, l, e, R, s, m, args, below, meth, c, Q⟩ := X
  obtain ⟨hx, hb, hml, hown, hts, hKw, hlk, hR, hl0⟩ := hC
  intro H locs ls h1 h2 h3
  exact lv_istore_n hx hb hd rfl h3.has hi rfl (fun ls1 q => kk H locs ls1 h1 h2 (h3.set2 rfl hi hl ls1 q))
theorem r_istore {i : Nat} {x : Int32} {lo1 : List (Option Value)} (hC : Cx E X l0 own code maxL rm) (hd : decode code pc = .ok (.istore i, 2)) (hi : i < lo.length) (hl : lo.set i (some (.int x)) = lo1) (kk : WW E X h k n (pc + 2) lo1 st) : WW E X h k n pc lo (.int x :: st) := by
  obtain ⟨p, l, e, R, s, m, args, below, meth, c, Q⟩ := X
  obtain ⟨hx, hb, hml, hown, hts, hKw, hlk, hR, hl0⟩ := hC
  intro H locs ls h1 h2 h3
  exact lv_istore hx hb hd h3.has hi rfl (fun ls1 q => kk H locs ls1 h1 h2 (h3.set2 rfl hi hl ls1 q))
theorem r_astore_n {f : Fin 4} {x : Nat} {lo1 : List (Option Value)} (hC : Cx E X l0 own code maxL rm) (hd : decode code pc = .ok (.astore_n f, 1)) (hi : (f : Nat) < lo.length) (hl : lo.set (f : Nat) (some (rv x)) = lo1) (kk : WW E X h k n (pc + 1) lo1 st) : WW E X h k n pc lo (rv x :: st) := by
  obtain ⟨p, l, e, R, s, m, args, below, meth, c, Q⟩ := X
  obtain ⟨hx, hb, hml, hown, hts, hKw, hlk, hR, hl0⟩ := hC
  intro H locs ls h1 h2 h3
  cases x with
  | zero => exact lv_astore_nN hx hb hd rfl h3.has hi rfl (fun ls1 q => kk H locs ls1 h1 h2 (h3.set2 rfl hi hl ls1 q))
  | succ x => exact lv_astore_n hx hb hd rfl h3.has hi rfl (fun ls1 q => kk H locs ls1 h1 h2 (h3.set2 rfl hi hl ls1 q))
theorem r_astore {i : Nat} {x : Nat} {lo1 : List (Option Value)} (hC : Cx E X l0 own code maxL rm) (hd : decode code pc = .ok (.astore i, 2)) (hi : i < lo.length) (hl : lo.set i (some (rv x)) = lo1) (kk : WW E X h k n (pc + 2) lo1 st) : WW E X h k n pc lo (rv x :: st) := by
  obtain ⟨p, l, e, R, s, m, args, below, meth, c, Q⟩ := X
  obtain ⟨hx, hb, hml, hown, hts, hKw, hlk, hR, hl0⟩ := hC
  intro H locs ls h1 h2 h3
  cases x with
  | zero => exact lv_astoreN hx hb hd h3.has hi rfl (fun ls1 q => kk H locs ls1 h1 h2 (h3.set2 rfl hi hl ls1 q))
  | succ x => exact lv_astore hx hb hd h3.has hi rfl (fun ls1 q => kk H locs ls1 h1 h2 (h3.set2 rfl hi hl ls1 q))
theorem r_iinc {i : Nat} {z : Int} {x v : Int32} {lo1 : List (Option Value)} (hC : Cx E X l0 own code maxL rm) (hd : decode code pc = .ok (.iinc i z, 3)) (hi : lo[i]? = some (some (.int x))) (hv : Int32.ofInt z = v) (hl : lo.set i (some (.int (x + v))) = lo1) (kk : WW E X h k n (pc + 3) lo1 st) : WW E X h k n pc lo st := by
  obtain ⟨p, l, e, R, s, m, args, below, meth, c, Q⟩ := X
  obtain ⟨hx, hb, hml, hown, hts, hKw, hlk, hR, hl0⟩ := hC
  intro H locs ls h1 h2 h3
  have hlt : i < lo.length := (List.getElem?_eq_some_iff.mp hi).1
  have hm : (i, Value.int x) ∈ (List.range lo.length).filterMap (fun i => match lo[i]? with | some (some v) => some (i, v) | _ => none) := List.mem_filterMap.mpr ⟨i, List.mem_range.mpr hlt, by simp only [hi]⟩
  obtain ⟨j, hj⟩ := List.getElem?_of_mem hm
  exact lv_iinc hx hb hd h3.has (k := j) hj (by rw [hv]) hlt rfl (fun ls1 q => kk H locs ls1 h1 h2 (h3.set2 rfl hlt hl ls1 q))
theorem r_icmp_eq {x y : Int32} {off : Int} {tgt : Nat} (hC : Cx E X l0 own code maxL rm) (hd : decode code pc = .ok (.if_icmp .eq off, 3)) (ht : (pc : Int) + off = (tgt : Int)) (kt : x = y → WW E X h k n tgt lo st) (kf : ¬ (x = y) → WW E X h k n (pc + 3) lo st) : WW E X h k n pc lo (.int y :: .int x :: st) := by
  obtain ⟨p, l, e, R, s, m, args, below, meth, c, Q⟩ := X
  obtain ⟨hx, hb, hml, hown, hts, hKw, hlk, hR, hl0⟩ := hC
  intro H locs ls h1 h2 h3
  exact lv_icmp_eq hx hb hd ht (fun q => kt (q) H locs ls h1 h2 h3) (fun q => kf (q) H locs ls h1 h2 h3)
theorem r_if_eq {x : Int32} {off : Int} {tgt : Nat} (hC : Cx E X l0 own code maxL rm) (hd : decode code pc = .ok (.ifCond .eq off, 3)) (ht : (pc : Int) + off = (tgt : Int)) (kt : x = 0 → WW E X h k n tgt lo st) (kf : ¬ (x = 0) → WW E X h k n (pc + 3) lo st) : WW E X h k n pc lo (.int x :: st) := by
  obtain ⟨p, l, e, R, s, m, args, below, meth, c, Q⟩ := X
  obtain ⟨hx, hb, hml, hown, hts, hKw, hlk, hR, hl0⟩ := hC
  intro H locs ls h1 h2 h3
  exact lv_if_eq hx hb hd ht (fun q => kt (q) H locs ls h1 h2 h3) (fun q => kf (q) H locs ls h1 h2 h3)
theorem r_icmp_ne {x y : Int32} {off : Int} {tgt : Nat} (hC : Cx E X l0 own code maxL rm) (hd : decode code pc = .ok (.if_icmp .ne off, 3)) (ht : (pc : Int) + off = (tgt : Int)) (kt : ¬ x = y → WW E X h k n tgt lo st) (kf : x = y → WW E X h k n (pc + 3) lo st) : WW E X h k n pc lo (.int y :: .int x :: st) := by
  obtain ⟨p, l, e, R, s, m, args, below, meth, c, Q⟩ := X
  obtain ⟨hx, hb, hml, hown, hts, hKw, hlk, hR, hl0⟩ := hC
  intro H locs ls h1 h2 h3
  exact lv_icmp_ne hx hb hd ht (fun q => kt (q) H locs ls h1 h2 h3) (fun q => kf (q) H locs ls h1 h2 h3)
theorem r_if_ne {x : Int32} {off : Int} {tgt : Nat} (hC : Cx E X l0 own code maxL rm) (hd : decode code pc = .ok (.ifCond .ne off, 3)) (ht : (pc : Int) + off = (tgt : Int)) (kt : ¬ x = 0 → WW E X h k n tgt lo st) (kf : x = 0 → WW E X h k n (pc + 3) lo st) : WW E X h k n pc lo (.int x :: st) := by
  obtain ⟨p, l, e, R, s, m, args, below, meth, c, Q⟩ := X
  obtain ⟨hx, hb, hml, hown, hts, hKw, hlk, hR, hl0⟩ := hC
  intro H locs ls h1 h2 h3
  exact lv_if_ne hx hb hd ht (fun q => kt (q) H locs ls h1 h2 h3) (fun q => kf (q) H locs ls h1 h2 h3)
theorem r_icmp_lt {x y : Int32} {off : Int} {tgt : Nat} (hC : Cx E X l0 own code maxL rm) (hd : decode code pc = .ok (.if_icmp .lt off, 3)) (ht : (pc : Int) + off = (tgt : Int)) (kt : x < y → WW E X h k n tgt lo st) (kf : ¬ (x < y) → WW E X h k n (pc + 3) lo st) : WW E X h k n pc lo (.int y :: .int x :: st) := by
  obtain ⟨p, l, e, R, s, m, args, below, meth, c, Q⟩ := X
  obtain ⟨hx, hb, hml, hown, hts, hKw, hlk, hR, hl0⟩ := hC
  intro H locs ls h1 h2 h3
  exact lv_icmp_lt hx hb hd ht (fun q => kt (q) H locs ls h1 h2 h3) (fun q => kf (q) H locs ls h1 h2 h3)
theorem r_if_lt {x : Int32} {off : Int} {tgt : Nat} (hC : Cx E X l0 own code maxL rm) (hd : decode code pc = .ok (.ifCond .lt off, 3)) (ht : (pc : Int) + off = (tgt : Int)) (kt : x < 0 → WW E X h k n tgt lo st) (kf : ¬ (x < 0) → WW E X h k n (pc + 3) lo st) : WW E X h k n pc lo (.int x :: st) := by
  obtain ⟨p, l, e, R, s, m, args, below, meth, c, Q⟩ := X
  obtain ⟨hx, hb, hml, hown, hts, hKw, hlk, hR, hl0⟩ := hC
  intro H locs ls h1 h2 h3
  exact lv_if_lt hx hb hd ht (fun q => kt (q) H locs ls h1 h2 h3) (fun q => kf (q) H locs ls h1 h2 h3)
theorem r_icmp_ge {x y : Int32} {off : Int} {tgt : Nat} (hC : Cx E X l0 own code maxL rm) (hd : decode code pc = .ok (.if_icmp .ge off, 3)) (ht : (pc : Int) + off = (tgt : Int)) (kt : y ≤ x → WW E X h k n tgt lo st) (kf : ¬ (y ≤ x) → WW E X h k n (pc + 3) lo st) : WW E X h k n pc lo (.int y :: .int x :: st) := by
  obtain ⟨p, l, e, R, s, m, args, below, meth, c, Q⟩ := X
  obtain ⟨hx, hb, hml, hown, hts, hKw, hlk, hR, hl0⟩ := hC
  intro H locs ls h1 h2 h3
  exact lv_icmp_ge hx hb hd ht (fun q => kt (q) H locs ls h1 h2 h3) (fun q => kf (q) H locs ls h1 h2 h3)
theorem r_if_ge {x : Int32} {off : Int} {tgt : Nat} (hC : Cx E X l0 own code maxL rm) (hd : decode code pc = .ok (.ifCond .ge off, 3)) (ht : (pc : Int) + off = (tgt : Int)) (kt : 0 ≤ x → WW E X h k n tgt lo st) (kf : ¬ (0 ≤ x) → WW E X h k n (pc + 3) lo st) : WW E X h k n pc lo (.int x :: st) := by
  obtain ⟨p, l, e, R, s, m, args, below, meth, c, Q⟩ := X
  obtain ⟨hx, hb, hml, hown, hts, hKw, hlk, hR, hl0⟩ := hC
  intro H locs ls h1 h2 h3
  exact lv_if_ge hx hb hd ht (fun q => kt (q) H locs ls h1 h2 h3) (fun q => kf (q) H locs ls h1 h2 h3)
theorem r_icmp_gt {x y : Int32} {off : Int} {tgt : Nat} (hC : Cx E X l0 own code maxL rm) (hd : decode code pc = .ok (.if_icmp .gt off, 3)) (ht : (pc : Int) + off = (tgt : Int)) (kt : y < x → WW E X h k n tgt lo st) (kf : ¬ (y < x) → WW E X h k n (pc + 3) lo st) : WW E X h k n pc lo (.int y :: .int x :: st) := by
  obtain ⟨p, l, e, R, s, m, args, below, meth, c, Q⟩ := X
  obtain ⟨hx, hb, hml, hown, hts, hKw, hlk, hR, hl0⟩ := hC
  intro H locs ls h1 h2 h3
  exact lv_icmp_gt hx hb hd ht (fun q => kt (q) H locs ls h1 h2 h3) (fun q => kf (q) H locs ls h1 h2 h3)
theorem r_if_gt {x : Int32} {off : Int} {tgt : Nat} (hC : Cx E X l0 own code maxL rm) (hd : decode code pc = .ok (.ifCond .gt off, 3)) (ht : (pc : Int) + off = (tgt : Int)) (kt : 0 < x → WW E X h k n tgt lo st) (kf : ¬ (0 < x) → WW E X h k n (pc + 3) lo st) : WW E X h k n pc lo (.int x :: st) := by
  obtain ⟨p, l, e, R, s, m, args, below, meth, c, Q⟩ := X
  obtain ⟨hx, hb, hml, hown, hts, hKw, hlk, hR, hl0⟩ := hC
  intro H locs ls h1 h2 h3
  exact lv_if_gt hx hb hd ht (fun q => kt (q) H locs ls h1 h2 h3) (fun q => kf (q) H locs ls h1 h2 h3)
theorem r_icmp_le {x y : Int32} {off : Int} {tgt : Nat} (hC : Cx E X l0 own code maxL rm) (hd : decode code pc = .ok (.if_icmp .le off, 3)) (ht : (pc : Int) + off = (tgt : Int)) (kt : x ≤ y → WW E X h k n tgt lo st) (kf : ¬ (x ≤ y) → WW E X h k n (pc + 3) lo st) : WW E X h k n pc lo (.int y :: .int x :: st) := by
  obtain ⟨p, l, e, R, s, m, args, below, meth, c, Q⟩ := X
  obtain ⟨hx, hb, hml, hown, hts, hKw, hlk, hR, hl0⟩ := hC
  intro H locs ls h1 h2 h3
  exact lv_icmp_le hx hb hd ht (fun q => kt (q) H locs ls h1 h2 h3) (fun q => kf (q) H locs ls h1 h2 h3)
theorem r_if_le {x : Int32} {off : Int} {tgt : Nat} (hC : Cx E X l0 own code maxL rm) (hd : decode code pc = .ok (.ifCond .le off, 3)) (ht : (pc : Int) + off = (tgt : Int)) (kt : x ≤ 0 → WW E X h k n tgt lo st) (kf : ¬ (x ≤ 0) → WW E X h k n (pc + 3) lo st) : WW E X h k n pc lo (.int x :: st) := by
  obtain ⟨p, l, e, R, s, m, args, below, meth, c, Q⟩ := X
  obtain ⟨hx, hb, hml, hown, hts, hKw, hlk, hR, hl0⟩ := hC
  intro H locs ls h1 h2 h3
  exact lv_if_le hx hb hd ht (fun q => kt (q) H locs ls h1 h2 h3) (fun q => kf (q) H locs ls h1 h2 h3)
theorem r_ifnull {x : Nat} {off : Int} {tgt : Nat} (hC : Cx E X l0 own code maxL rm) (hd : decode code pc = .ok (.ifnull off, 3)) (ht : (pc : Int) + off = (tgt : Int)) (kt : x = 0 → WW E X h k n tgt lo st) (kf : ¬ x = 0 → WW E X h k n (pc + 3) lo st) : WW E X h k n pc lo (rv x :: st) := by
  obtain ⟨p, l, e, R, s, m, args, below, meth, c, Q⟩ := X
  obtain ⟨hx, hb, hml, hown, hts, hKw, hlk, hR, hl0⟩ := hC
  intro H locs ls h1 h2 h3
  cases x with
  | zero => exact lv_ifnullN hx hb hd ht (kt rfl H locs ls h1 h2 h3)
  | succ x => exact lv_ifnull hx hb hd (kf (Nat.succ_ne_zero x) H locs ls h1 h2 h3)
theorem r_ifnonnull {x : Nat} {off : Int} {tgt : Nat} (hC : Cx E X l0 own code maxL rm) (hd : decode code pc = .ok (.ifnonnull off, 3)) (ht : (pc : Int) + off = (tgt : Int)) (kt : ¬ x = 0 → WW E X h k n tgt lo st) (kf : x = 0 → WW E X h k n (pc + 3) lo st) : WW E X h k n pc lo (rv x :: st) := by
  obtain ⟨p, l, e, R, s, m, args, below, meth, c, Q⟩ := X
  obtain ⟨hx, hb, hml, hown, hts, hKw, hlk, hR, hl0⟩ := hC
  intro H locs ls h1 h2 h3
  cases x with
  | zero => exact lv_ifnonnullN hx hb hd (kf rfl H locs ls h1 h2 h3)
  | succ x => exact lv_ifnonnull hx hb hd ht (kt (Nat.succ_ne_zero x) H locs ls h1 h2 h3)
theorem r_goto {off : Int} {tgt : Nat} (hC : Cx E X l0 own code maxL rm) (hd : decode code pc = .ok (.goto off, 3)) (ht : (pc : Int) + off = (tgt : Int)) (kk : WW E X h k n tgt lo st) : WW E X h k n pc lo st := by
  obtain ⟨p, l, e, R, s, m, args, below, meth, c, Q⟩ := X
  obtain ⟨hx, hb, hml, hown, hts, hKw, hlk, hR, hl0⟩ := hC
  intro H locs ls h1 h2 h3
  exact lv_goto hx hb hd ht (kk H locs ls h1 h2 h3)
theorem r_sub {lo1 : List (Option Value)} (hs : lsub lo lo1) (kk : WW E X h k n pc lo1 st) : WW E X h k n pc lo st := by
  obtain ⟨p, l, e, R, s, m, args, below, meth, c, Q⟩ := X
  intro H locs ls h1 h2 h3
  exact kk H locs ls h1 h2 (h3.sub hs)
theorem r_wide {k1 n1 : Nat} (hk : k ≤ k1) (hn : n ≤ n1) (kk : WW E X h k1 n1 pc lo st) : WW E X h k n pc lo st := by
  obtain ⟨p, l, e, R, s, m, args, below, meth, c, Q⟩ := X
  intro H locs ls h1 h2 h3
  exact W.widen hk hn (kk H locs ls h1 h2 h3)
theorem r_tabIn {dflt lo' hi : Int} {offs : Array Int} {len : Nat} {x : Int32} {off : Int} {tgt : Nat} (hC : Cx E X l0 own code maxL rm) (hd : decode code pc = .ok (.tableswitch dflt lo' hi offs, len)) (i : Nat) (hx0 : x.toInt = lo' + (i : Int)) (hi1 : ¬ hi < lo' + (i : Int)) (ho : offs[i]? = some off) (ht : (pc : Int) + off = (tgt : Int)) (kk : WW E X h k n tgt lo st) : WW E X h k n pc lo (.int x :: st) := by
  obtain ⟨p, l, e, R, s, m, args, below, meth, c, Q⟩ := X
  obtain ⟨hx, hb, hml, hown, hts, hKw, hlk, hR, hl0⟩ := hC
  intro H locs ls h1 h2 h3
  exact lv_tableIn hx hb hd (by rw [hx0]; omega) (by rw [hx0]; exact hi1) (by rw [hx0, show lo' + (i : Int) - lo' = (i : Int) by omega, Int.toNat_natCast]; exact ho) ht (kk H locs ls h1 h2 h3)
theorem r_tabOut {dflt lo' hi : Int} {offs : Array Int} {len : Nat} {x : Int32} {tgt : Nat} (hC : Cx E X l0 own code maxL rm) (hd : decode code pc = .ok (.tableswitch dflt lo' hi offs, len)) (hx0 : x.toInt < lo' ∨ hi < x.toInt) (ht : (pc : Int) + dflt = (tgt : Int)) (kk : WW E X h k n tgt lo st) : WW E X h k n pc lo (.int x :: st) := by
  obtain ⟨p, l, e, R, s, m, args, below, meth, c, Q⟩ := X
  obtain ⟨hx, hb, hml, hown, hts, hKw, hlk, hR, hl0⟩ := hC
  intro H locs ls h1 h2 h3
  exact lv_tableOut hx hb hd hx0 ht (kk H locs ls h1 h2 h3)
end ROWS
end
section
section HEAPROWS
variable {E : Ev} {X : Xt} {l0 : Launch} {own : String} {code : ByteArray} {maxL : Nat} {rm : Room} {h : Hp} {k n pc : Nat} {lo : List (Option Value)} {st : List Value}
/-- a field's link, as the tables have it -/
def FL (own : String) (index ci j : Nat) (r : vw_C) : Prop := cls[ci]? = some r ∧ j < r.2.2 ∧ Cond.fieldLink own index (r.2.1 j).1 (r.2.1 j).2.1 (r.2.1 j).2.2.1 ∈ lwG ∧ ∀ w ∈ u_ws r.1 r.2.1 r.2.2, w ∈ lwG
theorem Rep.obj {h : Hp} {H : Heap} (x : Rep E h H) {c ci : Nat} (hk : hK h c = ci + 1) (hci : ci < 19) {r : vw_C} (hr : cls[ci]? = some r) : ∃ a, c = a + 1 ∧ E.2.2.1 ≤ a ∧ t_OB a (E.1.1 ci) r.2.2 (E.1.2 ci) H (fun j => sv h c j (rfk ci j)) := by
  have h0 : hK h c ≠ 0 := by omega
  obtain ⟨a, rfl⟩ := x.code h0
  obtain ⟨g1, g2⟩ := x.2.2.2 _ h0
  unfold cellOk at g2
  rw [hk, if_pos (by omega)] at g2
  obtain ⟨r0, e1, e2⟩ := g2
  rw [show ci + 1 - 1 = ci by omega] at e1 e2
  cases e1.symm.trans hr
  exact ⟨a, rfl, g1, e2⟩
theorem r_getf {ci j index : Nat} {c : Nat} {r : vw_C} (hC : Cx E X l0 own code maxL rm) (hd : decode code pc = .ok (.getfield index, 3)) (hF : FL own index ci j r) (hk : hK h c = ci + 1) (hci : ci < 19) (kk : WW E X h k n (pc + 3) lo (sv h c j (rfk ci j) :: st)) : WW E X h k n pc lo (rv c :: st) := by
  obtain ⟨p, l, e, R, s, m, args, below, meth, cd, Q⟩ := X
  obtain ⟨hx, hb, hml, hown, hts, hKw, hlk, hR, hl0⟩ := hC
  intro H locs ls h1 h2 h3
  obtain ⟨g1, g2, g3, g4⟩ := hF
  obtain ⟨a, rfl, -, cell, q1, q2, q3, q4⟩ := h1.obj hk hci g1
  obtain ⟨hS, hfc, kC, hkC, hkind⟩ := hKw.1.1 ci _ g1
  obtain ⟨cf, kf, fi, f, hi, hsl⟩ := hS j g2
  refine W.getf hx hb hown (hts _ g3) hi (u_facts hfc hkC (u_lays hts g4 g2) hi).1 q1 (by rw [q3]; exact fun h => by cases h) (v := sv h (a + 1) j (rfk ci j)) ?_ rfl rfl hd (kk H locs ls h1 h2 h3)
  rw [hsl, q4 j g2]
theorem r_getI {ci j index : Nat} {c : Nat} {r : vw_C} (hC : Cx E X l0 own code maxL rm) (hd : decode code pc = .ok (.getfield index, 3)) (hF : FL own index ci j r) (hrf : rfk ci j = false) (hci : ci < 19) (hk : hK h c = ci + 1) (kk : WW E X h k n (pc + 3) lo (.int (hI h c j) :: st)) : WW E X h k n pc lo (rv c :: st) :=
  r_getf hC hd hF hk hci (by rw [hrf]; exact kk)
theorem r_getR {ci j index : Nat} {c : Nat} {r : vw_C} (hC : Cx E X l0 own code maxL rm) (hd : decode code pc = .ok (.getfield index, 3)) (hF : FL own index ci j r) (hrf : rfk ci j = true) (hci : ci < 19) (hk : hK h c = ci + 1) (kk : WW E X h k n (pc + 3) lo (rv (hR h c j) :: st)) : WW E X h k n pc lo (rv c :: st) :=
  r_getf hC hd hF hk hci (by rw [hrf]; exact kk)
/-- a class's fields: types, names apart -/
def FT (ci : Nat) (r : vw_C) : Prop := ∃ ty : Nat → FieldType, ctys[ci]? = some ty ∧ (∀ j, j < r.2.2 → parseFieldDescriptor (r.2.1 j).2.2.1 = some (ty j)) ∧ ∀ a, a < r.2.2 → ∀ b, b < r.2.2 → a ≠ b → (r.2.1 a).2.1 ≠ (r.2.1 b).2.1
theorem putOk {h1 : Hp} {H H1 : Heap} {a ci j N : Nat} {cell : Cell} {v : Value} {r : vw_C} (x : Rep E h H) (hk : hK h (a + 1) = ci + 1) (hci : ci < 19) (hr : cls[ci]? = some r) (hN : r.2.2 = N) (hj : j < N) (q2 : cell.cls = E.1.1 ci) (q3 : cell.vm = .none) (q4 : ∀ i, i < N → cell.slots[E.1.2 ci i]? = some (sv h (a + 1) i (rfk ci i)))
    (hap : ∀ x y, x < N → y < N → x ≠ y → E.1.2 ci x ≠ E.1.2 ci y) (e1 : H1[a]? = some (cell.setSlot (E.1.2 ci j) v)) (e2 : H1.size = H.size) (e3 : ∀ q : Nat, q ≠ a → H1[q]? = H[q]?)
    (k1 : ∀ d, hK h1 d = hK h d) (n1 : ∀ d, hL h1 d = hL h d) (i1 : ∀ d, d ≠ a + 1 → ∀ i, hI h1 d i = hI h d i) (r1 : ∀ d, d ≠ a + 1 → ∀ i, hR h1 d i = hR h d i) (s1 : ∀ i, sv h1 (a + 1) i (rfk ci i) = if i = j then v else sv h (a + 1) i (rfk ci i)) : Rep E h1 H1 := by
  refine x.put (c := a + 1) (by omega) k1 n1 i1 r1 e2 (fun q hq => e3 q hq) ?_
  unfold cellOk
  rw [k1, hk, if_pos (by omega)]
  refine ⟨r, hr, _, e1, q2, q3, fun i hi => ?_⟩
  rw [hN] at hi
  show (cell.setSlot (E.1.2 ci j) v).slots[E.1.2 ci i]? = _
  rw [t_set q4 hap hj v i hi]
  show _ = some (sv h1 (a + 1) i (rfk ci i))
  rw [s1]
  rfl
theorem r_put0 {ci j index : Nat} {c : Nat} {r : vw_C} {v : Value} {h1 : Hp} (hC : Cx E X l0 own code maxL rm) (hd : decode code pc = .ok (.putfield index, 3)) (hF : FL own index ci j r) (hT : FT ci r) (hfin : (r.2.1 j).2.2.2 = false) (hci : ci < 19) (hk : hK h c = ci + 1)
    (hv : ∀ ty, ctys[ci]? = some ty → narrow (ty j) v = v ∧ fits (ty j) v = true)
    (k1 : ∀ d, hK h1 d = hK h d) (n1 : ∀ d, hL h1 d = hL h d) (i1 : ∀ d, d ≠ c → ∀ i, hI h1 d i = hI h d i) (r1 : ∀ d, d ≠ c → ∀ i, hR h1 d i = hR h d i) (s1 : ∀ i, sv h1 c i (rfk ci i) = if i = j then v else sv h c i (rfk ci i))
    (kk : WW E X h1 k n (pc + 3) lo st) : WW E X h k n pc lo (v :: rv c :: st) := by
  obtain ⟨p, l, e, R, s, m, args, below, meth, cd, Q⟩ := X
  obtain ⟨hx, hb, hml, hown, hts, hKw, hlk, hR, hl0⟩ := hC
  intro H locs ls z1 z2 z3
  obtain ⟨g1, g2, g3, g4⟩ := hF
  obtain ⟨a, rfl, hba, cell, q1, q2, q3, q4⟩ := z1.obj hk hci g1
  obtain ⟨ty, t1, t2, t3⟩ := hT
  have hap := va_apart (own := own) hts g4 ty t2 t3 hKw.1 (ci := ci) (N := r.2.2) (C := r.1) (T := r.2.1) g1
  obtain ⟨hS, hfc, kC, hkC, hkind⟩ := hKw.1.1 ci _ g1
  obtain ⟨cf, kf, fi, f, hi, hsl⟩ := hS j g2
  have hlay := hts _ (g4 _ (u_in_lay g2))
  unfold u_lay at hlay
  rw [if_neg (by rw [hfin]; decide)] at hlay
  have hst := (u_facts hfc hkC (u_lays hts g4 g2) hi).1
  obtain ⟨v1, v2⟩ := hv ty t1
  have h6 := u_store hfc hkC hkind hlay hi (t2 j g2) v1 v2
  refine W.putK hx hb (f := f) ⟨hown, hts _ g3, ⟨_, _, _, hi⟩, hst⟩ (by rw [q2]; exact h6) q1 q3 (by rw [hsl]; exact k2_hasslot (q4 j g2)) rfl rfl hd fun H' e1 e2 e3 => ?_
  rw [hsl] at e1 ⊢
  refine kk H' _ ls (putOk z1 hk hci g1 rfl g2 q2 q3 q4 hap e1 e2 e3 k1 n1 i1 r1 s1) (fun q hq => ?_) z3
  rcases List.mem_append.mp hq with w | w
  · exact z2 q w
  · rw [List.mem_singleton.mp w]; exact hba
theorem r_putF0 {ci j index : Nat} {c : Nat} {r : vw_C} {v : Value} {h1 : Hp} {ret : Option FieldType} {KK : Option Value → Hp → Prop} (hC : Cx E X l0 own code maxL rm) (hQ : CQ E X "<init>" ret rm KK) (hd : decode code pc = .ok (.putfield index, 3)) (hF : FL own index ci j r) (hT : FT ci r) (hfin : (r.2.1 j).2.2.2 = true) (hdecl : (r.2.1 j).1 = own) (hci : ci < 19) (hk : hK h c = ci + 1)
    (hv : ∀ ty, ctys[ci]? = some ty → narrow (ty j) v = v ∧ fits (ty j) v = true)
    (k1 : ∀ d, hK h1 d = hK h d) (n1 : ∀ d, hL h1 d = hL h d) (i1 : ∀ d, d ≠ c → ∀ i, hI h1 d i = hI h d i) (r1 : ∀ d, d ≠ c → ∀ i, hR h1 d i = hR h d i) (s1 : ∀ i, sv h1 c i (rfk ci i) = if i = j then v else sv h c i (rfk ci i))
    (kk : WW E X h1 k n (pc + 3) lo st) : WW E X h k n pc lo (v :: rv c :: st) := by
  obtain ⟨p, l, e, R, s, m, args, below, meth, cd, Q⟩ := X
  obtain ⟨hx, hb, hml, hown, hts, hKw, hlk, hR, hl0⟩ := hC
  obtain ⟨-, hin, -⟩ := hQ
  intro H locs ls z1 z2 z3
  obtain ⟨g1, g2, g3, g4⟩ := hF
  obtain ⟨a, rfl, hba, cell, q1, q2, q3, q4⟩ := z1.obj hk hci g1
  obtain ⟨ty, t1, t2, t3⟩ := hT
  have hap := va_apart (own := own) hts g4 ty t2 t3 hKw.1 (ci := ci) (N := r.2.2) (C := r.1) (T := r.2.1) g1
  obtain ⟨hS, hfc, kC, hkC, hkind⟩ := hKw.1.1 ci _ g1
  obtain ⟨cf, kf, fi, f, hi, hsl⟩ := hS j g2
  have hlay := hts _ (g4 _ (u_in_lay g2))
  unfold u_lay at hlay
  rw [if_pos hfin] at hlay
  have hst := (u_facts hfc hkC (u_lays hts g4 g2) hi).1
  have hcf : m.cls = cf := by
    obtain ⟨_, _, c', _, _, _, -, -, hf', -, -, -, hown2, -⟩ := Cond.laysFinal_spec hlay
    have e1 : c' = cf := by have := hi.symm.trans hf'; simp at this; exact this.1.symm
    rw [hdecl] at hown2
    rw [← e1]; exact Option.some.inj (hown.symm.trans hown2)
  obtain ⟨v1, v2⟩ := hv ty t1
  have h6 := u_fits hfc hkC hkind (Or.inr hlay) hi (t2 j g2) v1 v2
  refine W.putFinK hx hb hown (hts _ g3) hi hst hcf hin (by rw [q2]; exact h6) q1 q3 (by rw [hsl]; exact k2_hasslot (q4 j g2)) rfl rfl hd fun H' e1 e2 e3 => ?_
  rw [hsl] at e1 ⊢
  refine kk H' _ ls (putOk z1 hk hci g1 rfl g2 q2 q3 q4 hap e1 e2 e3 k1 n1 i1 r1 s1) (fun q hq => ?_) z3
  rcases List.mem_append.mp hq with w | w
  · exact z2 q w
  · rw [List.mem_singleton.mp w]; exact hba
theorem sv_sI (c j : Nat) (v : Int32) (ci : Nat) (hrf : rfk ci j = false) (i : Nat) : sv (sI h c j v) c i (rfk ci i) = if i = j then .int v else sv h c i (rfk ci i) := by
  unfold sv
  rw [hI_sI, hR_sI]
  by_cases e : i = j
  · subst e; simp [hrf]
  · simp [e]
theorem sv_sR (c j : Nat) (v : Nat) (ci : Nat) (hrf : rfk ci j = true) (i : Nat) : sv (sR h c j v) c i (rfk ci i) = if i = j then rv v else sv h c i (rfk ci i) := by
  unfold sv
  rw [hI_sR, hR_sR]
  by_cases e : i = j
  · subst e; simp [hrf]
  · simp [e]
/-- a field's type, of a whole number that is not narrowed -/
def tyI (ci j : Nat) : Prop := ∃ ty, ctys[ci]? = some ty ∧ ty j = .int
def tyZ (ci j : Nat) : Prop := ∃ ty, ctys[ci]? = some ty ∧ ty j = .boolean
def tyR (ci j : Nat) : Prop := ∃ ty, ctys[ci]? = some ty ∧ isrf (ty j) = true
theorem tyI.ok {ci j : Nat} (h : tyI ci j) (v : Int32) : ∀ ty, ctys[ci]? = some ty → narrow (ty j) (.int v) = .int v ∧ fits (ty j) (.int v) = true := by
  obtain ⟨ty, h1, h2⟩ := h
  intro t ht
  cases h1.symm.trans ht
  rw [h2]
  exact ⟨rfl, rfl⟩
theorem tyZ.ok {ci j : Nat} (h : tyZ ci j) (v : Int32) (hv : v = 0 ∨ v = 1) : ∀ ty, ctys[ci]? = some ty → narrow (ty j) (.int v) = .int v ∧ fits (ty j) (.int v) = true := by
  obtain ⟨ty, h1, h2⟩ := h
  intro t ht
  cases h1.symm.trans ht
  rw [h2]
  rcases hv with rfl | rfl <;> exact ⟨rfl, rfl⟩
theorem tyR.ok {ci j : Nat} (h : tyR ci j) (v : Nat) : ∀ ty, ctys[ci]? = some ty → narrow (ty j) (rv v) = rv v ∧ fits (ty j) (rv v) = true := by
  obtain ⟨ty, h1, h2⟩ := h
  intro t ht
  cases h1.symm.trans ht
  generalize ty j = w at h2 ⊢
  cases w <;> first | (cases v <;> exact ⟨rfl, rfl⟩) | cases h2
theorem r_putI {ci j index : Nat} {c : Nat} {r : vw_C} {v : Int32} (hC : Cx E X l0 own code maxL rm) (hd : decode code pc = .ok (.putfield index, 3)) (hF : FL own index ci j r) (hT : FT ci r) (hfin : (r.2.1 j).2.2.2 = false) (hrf : rfk ci j = false) (hty : tyI ci j) (hci : ci < 19) (hk : hK h c = ci + 1)
    (kk : WW E X (sI h c j v) k n (pc + 3) lo st) : WW E X h k n pc lo (.int v :: rv c :: st) :=
  r_put0 (h1 := sI h c j v) hC hd hF hT hfin hci hk (hty.ok v) (fun _ => rfl) (fun _ => rfl) (fun d hd i => by rw [hI_sI, if_neg (fun q => hd q.1)]) (fun _ _ _ => rfl) (sv_sI c j v ci hrf) kk
theorem r_putZ {ci j index : Nat} {c : Nat} {r : vw_C} {v : Int32} (hC : Cx E X l0 own code maxL rm) (hd : decode code pc = .ok (.putfield index, 3)) (hF : FL own index ci j r) (hT : FT ci r) (hfin : (r.2.1 j).2.2.2 = false) (hrf : rfk ci j = false) (hty : tyZ ci j) (hci : ci < 19) (hk : hK h c = ci + 1) (hv : v = 0 ∨ v = 1)
    (kk : WW E X (sI h c j v) k n (pc + 3) lo st) : WW E X h k n pc lo (.int v :: rv c :: st) :=
  r_put0 (h1 := sI h c j v) hC hd hF hT hfin hci hk (hty.ok v hv) (fun _ => rfl) (fun _ => rfl) (fun d hd i => by rw [hI_sI, if_neg (fun q => hd q.1)]) (fun _ _ _ => rfl) (sv_sI c j v ci hrf) kk
theorem r_putR {ci j index : Nat} {c v : Nat} {r : vw_C} (hC : Cx E X l0 own code maxL rm) (hd : decode code pc = .ok (.putfield index, 3)) (hF : FL own index ci j r) (hT : FT ci r) (hfin : (r.2.1 j).2.2.2 = false) (hrf : rfk ci j = true) (hty : tyR ci j) (hci : ci < 19) (hk : hK h c = ci + 1)
    (kk : WW E X (sR h c j v) k n (pc + 3) lo st) : WW E X h k n pc lo (rv v :: rv c :: st) :=
  r_put0 (h1 := sR h c j v) hC hd hF hT hfin hci hk (hty.ok v) (fun _ => rfl) (fun _ => rfl) (fun _ _ _ => rfl) (fun d hd i => by rw [hR_sR, if_neg (fun q => hd q.1)]) (sv_sR c j v ci hrf) kk
theorem r_putFI {ci j index : Nat} {c : Nat} {r : vw_C} {v : Int32} {ret : Option FieldType} {KK : Option Value → Hp → Prop} (hC : Cx E X l0 own code maxL rm) (hQ : CQ E X "<init>" ret rm KK) (hd : decode code pc = .ok (.putfield index, 3)) (hF : FL own index ci j r) (hT : FT ci r) (hfin : (r.2.1 j).2.2.2 = true) (hdecl : (r.2.1 j).1 = own) (hrf : rfk ci j = false) (hty : tyI ci j) (hci : ci < 19) (hk : hK h c = ci + 1)
    (kk : WW E X (sI h c j v) k n (pc + 3) lo st) : WW E X h k n pc lo (.int v :: rv c :: st) :=
  r_putF0 (h1 := sI h c j v) hC hQ hd hF hT hfin hdecl hci hk (hty.ok v) (fun _ => rfl) (fun _ => rfl) (fun d hd i => by rw [hI_sI, if_neg (fun q => hd q.1)]) (fun _ _ _ => rfl) (sv_sI c j v ci hrf) kk
theorem r_putFR {ci j index : Nat} {c v : Nat} {r : vw_C} {ret : Option FieldType} {KK : Option Value → Hp → Prop} (hC : Cx E X l0 own code maxL rm) (hQ : CQ E X "<init>" ret rm KK) (hd : decode code pc = .ok (.putfield index, 3)) (hF : FL own index ci j r) (hT : FT ci r) (hfin : (r.2.1 j).2.2.2 = true) (hdecl : (r.2.1 j).1 = own) (hrf : rfk ci j = true) (hty : tyR ci j) (hci : ci < 19) (hk : hK h c = ci + 1)
    (kk : WW E X (sR h c j v) k n (pc + 3) lo st) : WW E X h k n pc lo (rv v :: rv c :: st) :=
  r_putF0 (h1 := sR h c j v) hC hQ hd hF hT hfin hdecl hci hk (hty.ok v) (fun _ => rfl) (fun _ => rfl) (fun _ _ _ => rfl) (fun d hd i => by rw [hR_sR, if_neg (fun q => hd q.1)]) (sv_sR c j v ci hrf) kk
end HEAPROWS
end
section
/-- the words of a stack -/
def cs (st : List Value) (w : Nat) : Prop := (st.map fun v => v.category).sum = w
theorem cs0 : cs [] 0 := rfl
theorem csI {st : List Value} {w : Nat} {x : Int32} (h : cs st w) : cs (.int x :: st) (1 + w) := by unfold cs at h ⊢; rw [List.map_cons, List.sum_cons, h]; rfl
theorem csR {st : List Value} {w c : Nat} (h : cs st w) : cs (rv c :: st) (1 + w) := by unfold cs at h ⊢; rw [List.map_cons, List.sum_cons, h, rv_cat]
section ARRROWS
variable {E : Ev} {X : Xt} {l0 : Launch} {own : String} {code : ByteArray} {maxL : Nat} {rm : Room} {h : Hp} {k n pc : Nat} {lo : List (Option Value)} {st : List Value}
theorem Rep.ar {h : Hp} {H : Heap} (x : Rep E h H) {c kd d : Nat} (hk : hK h c = kd) (h20 : 20 ≤ kd) (hd : acd kd = d) : ∃ a, c = a + 1 ∧ E.2.2.1 ≤ a ∧ H[a]? = some (arrV (E.2.1 d) (hL h c) (fun i => sv h c i (decide (2 ≤ d)))) := by
  have h0 : hK h c ≠ 0 := by omega
  obtain ⟨a, rfl⟩ := x.code h0
  obtain ⟨g1, g2⟩ := x.2.2.2 _ h0
  unfold cellOk at g2
  rw [hk, if_neg (by omega), hd] at g2
  exact ⟨a, rfl, g1, g2⟩
theorem arrPut {h1 : Hp} {H H1 : Heap} {a kd d j : Nat} {v : Value} (x : Rep E h H) (hk : hK h (a + 1) = kd) (h20 : 20 ≤ kd) (hd : acd kd = d)
    (e1 : H1[a]? = some ((arrV (E.2.1 d) (hL h (a + 1)) (fun i => sv h (a + 1) i (decide (2 ≤ d)))).setSlot j v)) (e2 : H1.size = H.size) (e3 : ∀ q : Nat, q ≠ a → H1[q]? = H[q]?)
    (k1 : ∀ c, hK h1 c = hK h c) (n1 : ∀ c, hL h1 c = hL h c) (i1 : ∀ c, c ≠ a + 1 → ∀ i, hI h1 c i = hI h c i) (r1 : ∀ c, c ≠ a + 1 → ∀ i, hR h1 c i = hR h c i) (s1 : ∀ i, sv h1 (a + 1) i (decide (2 ≤ d)) = if i = j then v else sv h (a + 1) i (decide (2 ≤ d))) : Rep E h1 H1 := by
  refine x.put (c := a + 1) (by omega) k1 n1 i1 r1 e2 (fun q hq => e3 q hq) ?_
  unfold cellOk
  rw [k1, hk, if_neg (by omega), hd, n1]
  show H1[a]? = _
  rw [e1, arrV_store]
  congr 2
  funext i
  rw [s1]
  rfl
theorem sv_ii (c j : Nat) (v : Int32) (i : Nat) : sv (sI h c j v) c i false = if i = j then .int v else sv h c i false := by
  unfold sv
  rw [hI_sI, hR_sI]
  by_cases e : i = j <;> simp [e]
theorem sv_rr (c j : Nat) (v : Nat) (i : Nat) : sv (sR h c j v) c i true = if i = j then rv v else sv h c i true := by
  unfold sv
  rw [hI_sR, hR_sR]
  by_cases e : i = j <;> simp [e]
theorem r_iald {c kd : Nat} {i : Int32} (hC : Cx E X l0 own code maxL rm) (hd : decode code pc = .ok (.iaload, 1)) (h20 : 20 ≤ kd) (ha : acd kd = 0) (hk : hK h c = kd) (hin : vp_in i (hL h c)) (kk : WW E X h k n (pc + 1) lo (.int (hI h c (ix i)) :: st)) : WW E X h k n pc lo (.int i :: rv c :: st) := by
  obtain ⟨p, l, e, R, s, m, args, below, meth, cd, Q⟩ := X
  obtain ⟨hx, hb, hml, hown, hts, hKw, hlk, hR, hl0⟩ := hC
  intro H locs ls h1 h2 h3
  obtain ⟨a, rfl, -, q⟩ := h1.ar hk h20 ha
  have hlt : i.toNatClampNeg < hL h (a + 1) := Nat.not_le.mp fun q => hin (Or.inr q)
  exact W.iald (v := .int (hI h (a + 1) (ix i))) hx hb q ((hKw.arr (d := 0) (by omega)).1 _ _) (fun q => by cases q) (by rw [arrV_size]; exact hin) (by rw [arrV_read _ _ hlt]; rfl) rfl rfl hd (kk H locs ls h1 h2 h3)
theorem r_cald {c kd : Nat} {i : Int32} (hC : Cx E X l0 own code maxL rm) (hd : decode code pc = .ok (.caload, 1)) (h20 : 20 ≤ kd) (ha : acd kd = 1) (hk : hK h c = kd) (hin : vp_in i (hL h c)) (kk : WW E X h k n (pc + 1) lo (.int (hI h c (ix i)) :: st)) : WW E X h k n pc lo (.int i :: rv c :: st) := by
  obtain ⟨p, l, e, R, s, m, args, below, meth, cd, Q⟩ := X
  obtain ⟨hx, hb, hml, hown, hts, hKw, hlk, hR, hl0⟩ := hC
  intro H locs ls h1 h2 h3
  obtain ⟨a, rfl, -, q⟩ := h1.ar hk h20 ha
  have hlt : i.toNatClampNeg < hL h (a + 1) := Nat.not_le.mp fun q => hin (Or.inr q)
  exact W.cald (v := .int (hI h (a + 1) (ix i))) hx hb q ((hKw.arr (d := 1) (by omega)).1 _ _) (fun q => by cases q) (by rw [arrV_size]; exact hin) (by rw [arrV_read _ _ hlt]; rfl) rfl rfl hd (kk H locs ls h1 h2 h3)
theorem r_aald {c kd d : Nat} {i : Int32} (hC : Cx E X l0 own code maxL rm) (hd : decode code pc = .ok (.aaload, 1)) (h20 : 20 ≤ kd) (ha : acd kd = d) (hd2 : 2 ≤ d) (hk : hK h c = kd) (hin : vp_in i (hL h c)) (kk : WW E X h k n (pc + 1) lo (rv (hR h c (ix i)) :: st)) : WW E X h k n pc lo (.int i :: rv c :: st) := by
  obtain ⟨p, l, e, R, s, m, args, below, meth, cd, Q⟩ := X
  obtain ⟨hx, hb, hml, hown, hts, hKw, hlk, hR0, hl0⟩ := hC
  intro H locs ls h1 h2 h3
  obtain ⟨a, rfl, -, q⟩ := h1.ar hk h20 ha
  have hd4 : d < 4 := by rw [← ha]; exact acd_lt _
  have hlt : i.toNatClampNeg < hL h (a + 1) := Nat.not_le.mp fun q => hin (Or.inr q)
  have hty : (aty d).isReference = true := by
    rcases (show d = 2 ∨ d = 3 by omega) with rfl | rfl <;> rfl
  refine W.aald (v := rv (hR h (a + 1) (ix i))) (ty := aty d) hx hb q ((hKw.arr hd4).1 _ _) hty (fun q => by cases q) (by rw [arrV_size]; exact hin) ?_ rfl rfl hd (kk H locs ls h1 h2 h3)
  rw [arrV_read _ _ hlt]
  unfold sv
  rw [if_pos (by simpa using hd2)]
  rfl
theorem r_alen {c kd : Nat} (hC : Cx E X l0 own code maxL rm) (hd : decode code pc = .ok (.arraylength, 1)) (h20 : 20 ≤ kd) (hk : hK h c = kd) (kk : WW E X h k n (pc + 1) lo (.int (nI (hL h c)) :: st)) : WW E X h k n pc lo (rv c :: st) := by
  obtain ⟨p, l, e, R, s, m, args, below, meth, cd, Q⟩ := X
  obtain ⟨hx, hb, hml, hown, hts, hKw, hlk, hR0, hl0⟩ := hC
  intro H locs ls h1 h2 h3
  obtain ⟨a, rfl, -, q⟩ := h1.ar hk h20 rfl
  exact W.alen (n := nI (hL h (a + 1))) hx hb q ((hKw.arr (acd_lt kd)).1 _ _) (by rw [arrV_size]; rfl) rfl rfl hd (kk H locs ls h1 h2 h3)
theorem r_iast {c kd : Nat} {i v : Int32} (hC : Cx E X l0 own code maxL rm) (hd : decode code pc = .ok (.iastore, 1)) (h20 : 20 ≤ kd) (ha : acd kd = 0) (hk : hK h c = kd) (hin : vp_in i (hL h c)) (kk : WW E X (sI h c (ix i) v) k n (pc + 1) lo st) : WW E X h k n pc lo (.int v :: .int i :: rv c :: st) := by
  obtain ⟨p, l, e, R, s, m, args, below, meth, cd, Q⟩ := X
  obtain ⟨hx, hb, hml, hown, hts, hKw, hlk, hR0, hl0⟩ := hC
  intro H locs ls h1 h2 h3
  obtain ⟨a, rfl, hba, q⟩ := h1.ar hk h20 ha
  refine W.iast hx hb q ((hKw.arr (d := 0) (by omega)).1 _ _) (fun q => by cases q) (by rw [arrV_size]; exact hin) rfl rfl hd fun H' e1 e2 e3 => ?_
  refine kk H' _ ls (arrPut h1 hk h20 ha e1 e2 e3 (fun _ => rfl) (fun _ => rfl) (fun d hd i => by rw [hI_sI, if_neg (fun q => hd q.1)]) (fun _ _ _ => rfl) (fun i => sv_ii _ _ _ _)) (fun q hq => ?_) h3
  rcases List.mem_append.mp hq with w | w
  · exact h2 q w
  · rw [List.mem_singleton.mp w]; exact hba
theorem r_cast {c kd : Nat} {i v : Int32} (hC : Cx E X l0 own code maxL rm) (hd : decode code pc = .ok (.castore, 1)) (h20 : 20 ≤ kd) (ha : acd kd = 1) (hk : hK h c = kd) (hin : vp_in i (hL h c)) (kk : WW E X (sI h c (ix i) (cn v)) k n (pc + 1) lo st) : WW E X h k n pc lo (.int v :: .int i :: rv c :: st) := by
  obtain ⟨p, l, e, R, s, m, args, below, meth, cd, Q⟩ := X
  obtain ⟨hx, hb, hml, hown, hts, hKw, hlk, hR0, hl0⟩ := hC
  intro H locs ls h1 h2 h3
  obtain ⟨a, rfl, hba, q⟩ := h1.ar hk h20 ha
  refine W.cast hx hb q ((hKw.arr (d := 1) (by omega)).1 _ _) (fun q => by cases q) (by rw [arrV_size]; exact hin) rfl rfl hd fun H' e1 e2 e3 => ?_
  refine kk H' _ ls (arrPut (v := .int (cn v)) h1 hk h20 ha e1 e2 e3 (fun _ => rfl) (fun _ => rfl) (fun d hd i => by rw [hI_sI, if_neg (fun q => hd q.1)]) (fun _ _ _ => rfl) (fun i => sv_ii _ _ _ _)) (fun q hq => ?_) h3
  rcases List.mem_append.mp hq with w | w
  · exact h2 q w
  · rw [List.mem_singleton.mp w]; exact hba
/-- an object's class, from its kind -/
theorem Rep.cell {h : Hp} {H : Heap} {s : State} (x : Rep E h H) (hKw : Kw E s) {c ci : Nat} (hk : hK h c = ci + 1) (hci : ci < 19) {r : vw_C} (hr : cls[ci]? = some r) : ∃ a cell, c = a + 1 ∧ H[a]? = some cell ∧ cell.vm = .none ∧ cell.cls = E.1.1 ci ∧ ClassAt s r.1 (E.1.1 ci) := by
  obtain ⟨a, rfl, -, cell, q1, q2, q3, q4⟩ := x.obj hk hci hr
  exact ⟨a, cell, rfl, q1, q3, q2, (hKw.1.1 ci _ hr).2⟩
theorem r_aast {c kd d v ci : Nat} {i : Int32} {r : vw_C} (hC : Cx E X l0 own code maxL rm) (hd : decode code pc = .ok (.aastore, 1)) (h20 : 20 ≤ kd) (ha : acd kd = d) (hd2 : 2 ≤ d) (hci : ci < 19) (hr : cls[ci]? = some r) (hty : aty d = .object r.1) (hk : hK h c = kd) (hin : vp_in i (hL h c)) (hv : v = 0 ∨ hK h v = ci + 1) (kk : WW E X (sR h c (ix i) v) k n (pc + 1) lo st) : WW E X h k n pc lo (rv v :: .int i :: rv c :: st) := by
  obtain ⟨p, l, e, R, s, m, args, below, meth, cd, Q⟩ := X
  obtain ⟨hx, hb, hml, hown, hts, hKw, hlk, hR0, hl0⟩ := hC
  intro H locs ls h1 h2 h3
  obtain ⟨a, rfl, hba, q⟩ := h1.ar hk h20 ha
  have hd4 : d < 4 := by rw [← ha]; exact acd_lt _
  have hlt : i.toNatClampNeg < hL h (a + 1) := Nat.not_le.mp fun q => hin (Or.inr q)
  have h0 : ¬ i < 0 := fun q => hin (Or.inl q)
  have hdd : decide (2 ≤ d) = true := by simpa using hd2
  have fin : ∀ H' : Heap, H'[a]? = some ((arrV (E.2.1 d) (hL h (a + 1)) (fun i => sv h (a + 1) i (decide (2 ≤ d)))).setSlot i.toNatClampNeg (rv v)) → H'.size = H.size → (∀ q : Nat, q ≠ a → H'[q]? = H[q]?) → W p l e R s m args below meth cd H' (locs ++ [⟨a, i.toNatClampNeg⟩]) k n Q (F0 m (pc + 1) ls st) := by
    intro H' e1 e2 e3
    refine kk H' _ ls (arrPut h1 hk h20 ha e1 e2 e3 (fun _ => rfl) (fun _ => rfl) (fun _ _ _ => rfl) (fun d hd i => by rw [hR_sR, if_neg (fun q => hd q.1)]) (fun i => by rw [hdd]; exact sv_rr _ _ _ _)) (fun q hq => ?_) h3
    rcases List.mem_append.mp hq with w | w
    · exact h2 q w
    · rw [List.mem_singleton.mp w]; exact hba
  have hArr := hKw.arr hd4
  rw [hty] at hArr
  rcases hv with rfl | hv
  · exact va_WaastN (C := r.1) hx hb q (hArr.1 _ _) (fun h => by cases h) (by rw [arrV_size]; exact hin) rfl rfl hd fin
  · obtain ⟨b, cellV, rfl, g1, g3, g2, hcls⟩ := h1.cell hKw hv hci hr
    obtain ⟨kA, comp, k1, k2, k3, -⟩ := hArr.2
    have hcomp : comp = E.1.1 ci := Option.some.inj (k3.symm.trans hcls.1)
    subst hcomp
    obtain ⟨kC, hkC, -⟩ := hcls.2
    exact W.aast hx hb q (fun q h => by cases h) (fun h => by cases h) k1 k2 rfl hkC ⟨h0, by rw [arrV_size]; exact hlt⟩ g1 (fun q h => by rw [g3] at h; cases h) (by rw [g2]; exact hkC) (by rw [g2]; exact va_assign hcls) rfl rfl hd fin
/-- the classes' fields at their birth -/
def DF (ci N : Nat) : Prop := ∃ ty, ctys[ci]? = some ty ∧ ∀ j, j < N → defaultValue (ty j) = if isrf (ty j) = true then .null else .int 0
theorem r_new {ci N index : Nat} {C : String} {T : u_T} (hC : Cx E X l0 own code maxL rm) (hd : decode code pc = .ok (.new index, 3)) (hcl : Cond.classLink own index C ∈ lwG) (hins : Cond.instantiable C N ∈ lwG) (hini : Cond.initialized C ∈ lwG) (hr : cls[ci]? = some (C, T, N)) (hw : ∀ w ∈ u_ws C T N, w ∈ lwG) (hT : FT ci (C, T, N)) (hDF : DF ci N) (hci : ci < 19)
    (hrm : k + 1 ≤ rm.cells ∧ n + N ≤ rm.slots) (kk : ∀ q, q ≠ 0 → hK h q = 0 → WW E X (nN h q (ci + 1) 0) (k + 1) (n + N) (pc + 3) lo (rv q :: st)) : WW E X h k n pc lo st := by
  obtain ⟨p, l, e, R, s, m, args, below, meth, cd, Q⟩ := X
  obtain ⟨hx, hb, hml, hown, hts, hKw, hlk, hR0, hl0⟩ := hC
  intro H locs ls h1 h2 h3
  subst hR0
  have hKn := hKw.1.1 ci _ hr
  obtain ⟨ty, t1, t2, t3⟩ := hT
  obtain ⟨ty', t1', hdf⟩ := hDF
  cases t1.symm.trans t1'
  refine W.newcK hx hb hown (hts _ hcl) (hts _ hins) (hts _ hini) rfl hd hrm.1 hrm.2 hKn.2.1 rfl fun H1 kC hkC e1 z1 o1 => ?_
  have hB := u_born ty hts hw hKn hkC e1 t2
  have y : cellOk E (nN h (H.size + 1) (ci + 1) 0) H1 (H.size + 1) := by
    unfold cellOk
    rw [hK_nN, if_pos rfl, if_pos (by omega)]
    refine ⟨_, hr, hB.to (fun j hj => ?_)⟩
    rw [hdf j hj]
    unfold sv rfk
    rw [hI_nN, hR_nN, if_pos rfl, if_pos rfl, show ci + 1 - 1 = ci by omega, t1]
    rfl
  obtain ⟨g1, g2⟩ := h1.new (by omega) z1 o1 y
  exact kk (H.size + 1) (by omega) g1 H1 locs ls g2 h2 h3
theorem r_newarr {kd d N : Nat} {atype : ArrayType} {v : Int32} (hC : Cx E X l0 own code maxL rm) (hd : decode code pc = .ok (.newarray atype, 2)) (h20 : 20 ≤ kd) (ha : acd kd = d) (hd2 : d < 2) (hty : newarray.typeOf atype = aty d) (hw : Cond.arrayClass (aty d) ∈ lwG) (hv : ¬ v < 0) (hN : v.toNatClampNeg = N) (hN2 : N ≤ 100000)
    (hrm : k + 1 ≤ rm.cells ∧ n + N ≤ rm.slots) (kk : ∀ q, q ≠ 0 → hK h q = 0 → WW E X (nN h q kd N) (k + 1) (n + N) (pc + 2) lo (rv q :: st)) : WW E X h k n pc lo (.int v :: st) := by
  obtain ⟨p, l, e, R, s, m, args, below, meth, cd, Q⟩ := X
  obtain ⟨hx, hb, hml, hown, hts, hKw, hlk, hR0, hl0⟩ := hC
  intro H locs ls h1 h2 h3
  subst hR0
  have hb2 : N * componentBytes (newarray.typeOf atype) ≤ 536870912 := by
    rw [hty]
    rcases (show d = 0 ∨ d = 1 by omega) with rfl | rfl
    · show N * 4 ≤ _; omega
    · show N * 2 ≤ _; omega
  refine va_newaK hx hb (by rw [hty]; exact hts _ hw) rfl hd rfl hv hN hb2 hrm.1 hrm.2 rfl fun H1 cA e1 z1 o1 hAr hNm => ?_
  have hcA : cA = E.2.1 d := by
    have g := (hKw.arr (d := d) (by omega)).2
    rw [hty] at hNm
    rcases (show d = 0 ∨ d = 1 by omega) with rfl | rfl
    · exact Option.some.inj (hNm.symm.trans g)
    · exact Option.some.inj (hNm.symm.trans g)
  subst hcA
  have hdv : defaultValue (newarray.typeOf atype) = .int 0 := by
    rw [hty]
    rcases (show d = 0 ∨ d = 1 by omega) with rfl | rfl <;> rfl
  have y : cellOk E (nN h (H.size + 1) kd N) H1 (H.size + 1) := by
    unfold cellOk
    rw [hK_nN, if_pos rfl, if_neg (by omega), ha, hL_nN, if_pos rfl]
    show H1[H.size]? = _
    rw [e1, hdv]
    congr 2
    funext i
    unfold sv
    rw [if_neg (by simp; omega), hI_nN, if_pos rfl]
  obtain ⟨g1, g2⟩ := h1.new (by omega) z1 o1 y
  exact kk (H.size + 1) (by omega) g1 H1 locs ls g2 h2 h3
theorem r_anew {kd d N index : Nat} {C : String} {v : Int32} (hC : Cx E X l0 own code maxL rm) (hd : decode code pc = .ok (.anewarray index, 3)) (h20 : 20 ≤ kd) (ha : acd kd = d) (hd2 : d = 2 ∨ d = 3) (hty : aty d = .object C) (hw : Cond.classLink own index C ∈ lwG) (hv : ¬ v < 0) (hN : v.toNatClampNeg = N) (hN2 : N ≤ 100000)
    (hrm : k + 1 ≤ rm.cells ∧ n + N ≤ rm.slots) (kk : ∀ q, q ≠ 0 → hK h q = 0 → WW E X (nN h q kd N) (k + 1) (n + N) (pc + 3) lo (rv q :: st)) : WW E X h k n pc lo (.int v :: st) := by
  obtain ⟨p, l, e, R, s, m, args, below, meth, cd, Q⟩ := X
  obtain ⟨hx, hb, hml, hown, hts, hKw, hlk, hR0, hl0⟩ := hC
  intro H locs ls h1 h2 h3
  subst hR0; subst hN
  have hAO : va_AO C s := by
    rcases hd2 with rfl | rfl
    · cases hty; exact hKw.2.2.1
    · cases hty; exact hKw.2.2.2
  have hd4 : d < 4 := by omega
  refine W.anew hx hb hown (hts _ hw) (va_AO.use hAO) rfl hd rfl hv (by omega) hrm.1 hrm.2 fun cA kA comp f1 f2 f3 f4 => ?_
  have hcA : cA = E.2.1 d := by
    have g := (hKw.arr hd4).2
    rw [hty] at g
    obtain ⟨_, _, _, _, _, g4⟩ := g
    exact Option.some.inj (f1.symm.trans g4)
  subst hcA
  generalize hH1 : H.push ({ cls := E.2.1 d, slots := Array.replicate v.toNatClampNeg .null, vm := .none } : Cell) = H1
  have z1 : H1.size = H.size + 1 := by rw [← hH1, Array.size_push]
  have e1 : H1[H.size]? = some (arrV (E.2.1 d) v.toNatClampNeg (fun _ => .null)) := by rw [← hH1, Array.getElem?_push_size, ← arrV_new]
  have o1 : ∀ q : Nat, q < H.size → H1[q]? = H[q]? := fun q hq => by rw [← hH1, Array.getElem?_push, if_neg (Nat.ne_of_lt hq)]
  have y : cellOk E (nN h (H.size + 1) kd v.toNatClampNeg) H1 (H.size + 1) := by
    unfold cellOk
    rw [hK_nN, if_pos rfl, if_neg (by omega), ha, hL_nN, if_pos rfl]
    show H1[H.size]? = _
    rw [e1]
    congr 2
    funext i
    unfold sv
    rw [if_pos (by simp; omega), hR_nN, if_pos rfl]
    rfl
  obtain ⟨g1, g2⟩ := h1.new (by omega) z1 o1 y
  exact kk (H.size + 1) (by omega) g1 H1 locs ls g2 h2 h3
theorem r_min {index : Nat} {x y : Int32} (hC : Cx E X l0 own code maxL rm) (hd : decode code pc = .ok (.invokestatic index, 3)) (hlen : lo.length = maxL) (hl : Cond.methodLink own index Lib.Math.min.name ∈ lwG) (hs : Cond.static Lib.Math.min.name ∈ lwG) (hi : Cond.initialized "java/lang/Math" ∈ lwG) (hc : Cond.code Lib.Math.min.name Lib.Math.min.code 2 (some .int) ∈ lwG)
    {w : Nat} (hcs : cs st w) (hrm : 1 ≤ rm.frames ∧ w + 13 ≤ rm.locals ∧ k ≤ rm.cells ∧ n ≤ rm.slots) (kk : WW E X h k n (pc + 3) lo (.int (if y < x then y else x) :: st)) : WW E X h k n pc lo (.int y :: .int x :: st) := by
  obtain ⟨p, l, e, R, s, m, args, below, meth, cd, Q⟩ := X
  obtain ⟨hx, hb, hml, hown, hts, hKw, hlk, hR0, hl0⟩ := hC
  intro H locs ls h1 h2 h3
  subst hR0
  exact va_mmin hx hb (by rw [hml, h3.1, hlen]) hown (hts _ hl) (hts _ hs) (hts _ hi) (hts _ hc) hrm.1 (by rw [hcs]; exact hrm.2.1) hrm.2.2.1 hrm.2.2.2 hd (kk H locs ls h1 h2 h3)
theorem r_max {index : Nat} {x y : Int32} (hC : Cx E X l0 own code maxL rm) (hd : decode code pc = .ok (.invokestatic index, 3)) (hlen : lo.length = maxL) (hl : Cond.methodLink own index Lib.Math.max.name ∈ lwG) (hs : Cond.static Lib.Math.max.name ∈ lwG) (hi : Cond.initialized "java/lang/Math" ∈ lwG) (hc : Cond.code Lib.Math.max.name Lib.Math.max.code 2 (some .int) ∈ lwG)
    {w : Nat} (hcs : cs st w) (hrm : 1 ≤ rm.frames ∧ w + 13 ≤ rm.locals ∧ k ≤ rm.cells ∧ n ≤ rm.slots) (kk : WW E X h k n (pc + 3) lo (.int (if x < y then y else x) :: st)) : WW E X h k n pc lo (.int y :: .int x :: st) := by
  obtain ⟨p, l, e, R, s, m, args, below, meth, cd, Q⟩ := X
  obtain ⟨hx, hb, hml, hown, hts, hKw, hlk, hR0, hl0⟩ := hC
  intro H locs ls h1 h2 h3
  subst hR0
  exact va_mmax hx hb (by rw [hml, h3.1, hlen]) hown (hts _ hl) (hts _ hs) (hts _ hi) (hts _ hc) hrm.1 (by rw [hcs]; exact hrm.2.1) hrm.2.2.1 hrm.2.2.2 hd (kk H locs ls h1 h2 h3)
theorem clamp_int {z : Int32} (hz : ¬ z < 0) : z.toInt = (z.toNatClampNeg : Int) := by
  have hz0 : (0 : Int) ≤ z.toInt := by
    have := Int32.not_lt.mp hz
    simpa using Int32.le_iff_toInt_le.mp this
  show z.toInt = ((z.toInt.toNat : Nat) : Int)
  omega
theorem r_copy {index a b kd : Nat} {sp dp z : Int32} (hC : Cx E X l0 own code maxL rm) (hd : decode code pc = .ok (.invokestatic index, 3)) (hlen : lo.length = maxL) (hl : Cond.methodLink own index arraycopyName ∈ lwG) (hn : Cond.native arraycopyName ∈ lwG) (hs : Cond.static arraycopyName ∈ lwG) (hi : Cond.initialized "java/lang/System" ∈ lwG)
    {w : Nat} (hcs : cs st w) (hrm : 1 ≤ rm.frames ∧ w + 18 ≤ rm.locals) (h20 : 20 ≤ kd) (ha : acd kd = 0) (ka : hK h a = kd) (kb : hK h b = kd) (g1 : ¬ sp < 0) (g2 : ¬ dp < 0) (g3 : ¬ z < 0) (g4 : ix sp + ix z ≤ hL h a) (g5 : ix dp + ix z ≤ hL h b)
    (kk : WW E X (cpI h a (ix sp) b (ix dp) (ix z)) k n (pc + 3) lo st) : WW E X h k n pc lo (.int z :: .int dp :: rv b :: .int sp :: rv a :: st) := by
  obtain ⟨p, l, e, R, s, m, args, below, meth, cd, Q⟩ := X
  obtain ⟨hx, hb, hml, hown, hts, hKw, hlk, hR0, hl0⟩ := hC
  intro H locs ls h1 h2 h3
  subst hR0
  obtain ⟨a0, rfl, hba, qa⟩ := h1.ar ka h20 ha
  obtain ⟨b0, rfl, hbb, qb⟩ := h1.ar kb h20 ha
  have hda : decide (2 ≤ 0) = false := rfl
  rw [hda] at qa qb
  have ea : (fun i => sv h (a0 + 1) i false) = fun i => Value.int (hI h (a0 + 1) i) := by funext i; rfl
  have eb : (fun i => sv h (b0 + 1) i false) = fun i => Value.int (hI h (b0 + 1) i) := by funext i; rfl
  rw [ea] at qa
  rw [eb] at qb
  have hnf : nativeFrameWords "java/lang/System" "arraycopy" 5 = 7 := by decide +kernel
  intro T hT X
  obtain ⟨hob, k0, hk0, cm0, hkk0⟩ := (hKw.arr (d := 0) (by omega)).1 (hL h (a0 + 1)) (fun i => .int (hI h (a0 + 1) i))
  obtain ⟨hob1, k1, hk1, cm1, hkk1⟩ := (hKw.arr (d := 0) (by omega)).1 (hL h (b0 + 1)) (fun i => .int (hI h (b0 + 1) i))
  obtain ⟨vm', X', step⟩ := X.arraycopy hx hown (hts _ hl) (hts _ hn) (hts _ hs) (hts _ hi) (src := a0) (dst := b0) (srcPos := sp) (destPos := dp) (n := z) (by rw [hT]; exact qa) (by rw [hT]; exact qb)
    (fun _ h => by cases h) (fun _ h => by cases h) (fun h => by cases h) (fun h => by cases h) hk0 hk1 hkk0 hkk1 (by simp [refKind, aty]) g1 g2 g3
    (by rw [clamp_int g1, clamp_int g3, arrV_size]; have := g4; unfold ix at this; omega)
    (by rw [clamp_int g2, clamp_int g3, arrV_size]; have := g5; unfold ix at this; omega)
    (fun vm₁ _ i hi => by
      have e : (arrV (E.2.1 0) (hL h (a0 + 1)) (fun i => Value.int (hI h (a0 + 1) i))).slots.getD (sp.toNatClampNeg + i) .null = .int (hI h (a0 + 1) (sp.toNatClampNeg + i)) := by
        rw [Array.getD_eq_getD_getElem?, arrV_read _ _ (by have := g4; unfold ix at this; omega)]
        rfl
      refine ⟨?_, ?_⟩
      · rw [e]
        rfl
      · rw [e]
        exact trivial)
    (g := F0 m pc ls (.int z :: .int dp :: .ref b0 :: .int sp :: .ref a0 :: st)) rfl (by rw [hml, ← hlen]; exact h3.1) (rest := st) rfl (by rw [hb]; exact hd) hrm.1 (by rw [hnf]; have := hrm.2; show 2 * 0 + (st.map fun v => v.category).sum + _ ≤ _; rw [hcs]; omega)
  have e1 : copied (arrV (E.2.1 0) (hL h (a0 + 1)) (fun i => Value.int (hI h (a0 + 1) i))) (arrV (E.2.1 0) (hL h (b0 + 1)) (fun i => Value.int (hI h (b0 + 1) i))) sp dp z = arrV (E.2.1 0) (hL h (b0 + 1)) (fun i => .int (va_cpy (hI h (a0 + 1)) (hI h (b0 + 1)) sp.toNatClampNeg dp.toNatClampNeg z.toNatClampNeg i)) := va_copied (fun z => .int z) (E.2.1 0) (E.2.1 0) (hI h (a0 + 1)) (hI h (b0 + 1)) g4
  rw [e1] at X' step
  have hl : b0 < H.size := (Array.getElem?_eq_some_iff.mp qb).1
  generalize hnc : arrV (E.2.1 0) (hL h (b0 + 1)) (fun i => Value.int (va_cpy (hI h (a0 + 1)) (hI h (b0 + 1)) sp.toNatClampNeg dp.toNatClampNeg z.toNatClampNeg i)) = nc at X' step
  have hheap : ((T.setVm vm').setCell b0 nc).heap = H.setIfInBounds b0 nc := by rw [← hT]; rfl
  have oq : ∀ q : Nat, q ≠ b0 → (H.setIfInBounds b0 nc)[q]? = H[q]? := fun q hq => by simp [Array.getElem?_setIfInBounds, Ne.symm hq]
  have y : Rep E (cpI h (a0 + 1) (ix sp) (b0 + 1) (ix dp) (ix z)) (H.setIfInBounds b0 nc) := by
    refine h1.put (c := b0 + 1) (by omega) (fun _ => rfl) (fun _ => rfl) (fun d hd i => by rw [hI_cp, if_neg (fun q => hd q.1)]) (fun _ _ _ => rfl) (by simp) (fun q hq => oq q hq) ?_
    unfold cellOk
    rw [hK_cp, kb, if_neg (by omega), ha]
    show (H.setIfInBounds b0 nc)[b0]? = _
    rw [← hnc]
    simp only [Array.getElem?_setIfInBounds, hl, if_true]
    congr 2
    funext i
    unfold sv
    rw [if_neg (by decide), hI_cp]
    unfold va_cpy ix
    simp only [true_and]
  obtain ⟨t, a1, b1⟩ := kk _ _ ls y (fun q hq => by
      rcases List.mem_append.mp hq with w | w
      · exact h2 q w
      · obtain ⟨z, -, hz⟩ := List.mem_map.mp w
        rw [← hz]
        exact hbb) h3 _ hheap X'
  exact ⟨t, step t a1, b1⟩
end ARRROWS
end
section
section CALLROWS
variable {E : Ev} {X : Xt} {l0 : Launch} {own : String} {code : ByteArray} {maxL : Nat} {rm : Room} {h : Hp} {k n pc : Nat} {lo : List (Option Value)} {st : List Value}
/-- what the tables say of a method, for its callers -/
def CF (y : MethodName) (bytes : ByteArray) (mL : Nat) (ret : Option FieldType) (nA : Nat) : Prop := Cond.code y bytes mL ret ∈ lwG ∧ Cond.initialized y.cls ∈ lwG ∧ y.cls ≠ "java/lang/invoke/MethodHandle" ∧ y.cls ≠ "java/lang/invoke/VarHandle" ∧ (parseMethodDescriptor y.desc).map (fun d => d.parameters.length) = some nA
theorem lw_goodIn {y z : MethodName} {bytes bz : ByteArray} {mL mz : Nat} {ret rz : Option FieldType} (hc : Cond.code y bytes mL ret ∈ lwG) : GoodIn lwG (.code y bytes mL ret :: lwG) := by
  intro w hw
  rcases List.mem_cons.mp hw with rfl | hw
  · exact ⟨hc, good_of_word (lwG_good _ hc)⟩
  · exact ⟨hw, good_of_word (lwG_good _ hw)⟩
theorem RU.blind (As : List Value) (h : Hp) : FrameBlind (va_Pc As (RU E h)) := fun a U g mk q => ⟨q.1, q.2.1, va_K.moved (u := U) (U := U.calling g mk a) (Vm.Alike.refl U.vm) q.2.2.1, fun z hz => va_Nw.same rfl rfl (q.2.2.2.1 z hz), q.2.2.2.2.1, q.2.2.2.2.2⟩
/-- behind a call -/
theorem behind {p : Program} {l : Launch} {e : Env} {R : Room} {s : State} {m : MethodId} {args : Array Value} {below : List Frame} {meth : Method} {c : Code} {H : Heap} {locs : List Loc} {cells slots mc ms : Nat} {Q : State → Prop} {ls : Array Slot} {st0 rest : List Value} {KK : Option Value → Hp → Prop}
    (hr : va_Run p l e R s m args below meth c H locs cells slots mc ms (F0 m pc ls st0) rest (fun _ o t => ∃ v h1, o = .returned v ∧ Rep E h1 t.heap ∧ KK v h1) (fun q => E.2.2.1 ≤ q)) (h2 : ∀ q ∈ locs, E.2.2.1 ≤ q.base) (h3 : LR ls lo)
    (kk : ∀ v h1, KK v h1 → WW E (p, l, e, R, s, m, args, below, meth, c, Q) h1 (cells + mc) (slots + ms) (pc + 3) lo (v.toList ++ rest)) : W p l e R s m args below meth c H locs cells slots Q (F0 m pc ls st0) := by
  intro T hT X
  obtain ⟨v, st₀, t, T', L, h0, X', hL, e1, e2, ⟨v', h1, hv, hR, hK⟩, st⟩ := hr T hT X
  cases hv
  obtain ⟨t2, a1, b1⟩ := kk v h1 hK T'.heap (locs ++ L) ls (by rw [e1]; exact hR) (fun q hq => by
    rcases List.mem_append.mp hq with w | w
    · exact h2 q w
    · exact hL q w) h3 T' rfl X'
  exact ⟨t2, st t2 a1, b1⟩
/-- the room that a call asks of its caller -/
def RM (rm rmc : Room) (k n mL : Nat) : Prop := rmc.frames + 1 ≤ rm.frames ∧ 8 + (mL + 11) + rmc.locals ≤ rm.locals ∧ k + rmc.cells ≤ rm.cells ∧ n + rmc.slots ≤ rm.slots
/-- what a method's answer is for its caller -/
def KI (K : Int32 → Hp → Prop) : Option Value → Hp → Prop := fun v h1 => ∃ r, v = some (.int r) ∧ K r h1
def KR (K : Nat → Hp → Prop) : Option Value → Hp → Prop := fun v h1 => ∃ r, v = some (rv r) ∧ K r h1
def KV (K : Hp → Prop) : Option Value → Hp → Prop := fun v h1 => v = none ∧ K h1
theorem kI {K : Int32 → Hp → Prop} (kk : ∀ r h1, K r h1 → WW E X h1 k n pc lo (.int r :: st)) : ∀ v h1, KI K v h1 → WW E X h1 k n pc lo (v.toList ++ st) := by
  rintro v h1 ⟨r, rfl, hK⟩
  exact kk r h1 hK
theorem kR {K : Nat → Hp → Prop} (kk : ∀ r h1, K r h1 → WW E X h1 k n pc lo (rv r :: st)) : ∀ v h1, KR K v h1 → WW E X h1 k n pc lo (v.toList ++ st) := by
  rintro v h1 ⟨r, rfl, hK⟩
  exact kk r h1 hK
theorem kV {K : Hp → Prop} (kk : ∀ h1, K h1 → WW E X h1 k n pc lo st) : ∀ v h1, KV K v h1 → WW E X h1 k n pc lo (v.toList ++ st) := by
  rintro v h1 ⟨rfl, hK⟩
  exact kk h1 hK
theorem nmH {h0 : Hp} (kk : ∀ h1, h1 = h0 → WW E X h1 k n pc lo st) : WW E X h0 k n pc lo st := kk _ rfl
theorem r_callV {index ci : Nat} {c : Nat} {y : MethodName} {bytes : ByteArray} {mL nA : Nat} {ret : Option FieldType} {rmc : Room} {As : List Value} {r : vw_C} {KK : Option Value → Hp → Prop}
    {stk : List Value} {w : Nat} (hC : Cx E X l0 own code maxL rm) (hd : decode code pc = .ok (.invokevirtual index, 3)) (hlen : lo.length = maxL) (hF : CF y bytes mL ret nA) (hl : Cond.methodLink own index y ∈ lwG) (hi : Cond.instanceMethod y ∈ lwG) (hs : Cond.selects y.cls y y ∈ lwG)
    (hci : ci < 19) (hr : cls[ci]? = some r) (hry : r.1 = y.cls) (hk : hK h c = ci + 1) (hA : As.length = nA) (hrm : RM rm rmc k n mL) (hcs : cs st w) (hw : w ≤ 8) (hcon : Con E l0 y bytes mL ret rmc (rv c :: As) h KK)
    (hst : As.reverse ++ rv c :: st = stk) (kk : ∀ v h1, KK v h1 → WW E X h1 (k + rmc.cells) (n + rmc.slots) (pc + 3) lo (v.toList ++ st)) : WW E X h k n pc lo stk := by
  subst hst
  obtain ⟨p, l, e, R, s, m, args, below, meth, cd, Q⟩ := X
  obtain ⟨hx, hb, hml, hown, hts, hKw, hlk, hR0, hl0⟩ := hC
  intro H locs ls h1 h2 h3
  subst hR0; subst hl0
  obtain ⟨g1, g2, g3, g4, g5⟩ := hF
  obtain ⟨b, cell, rfl, q1, q2, q3, q4⟩ := h1.cell hKw hk hci hr
  refine behind (va_runV (As := As) (rest := st) ⟨hx, hb, hml, hown, hts⟩ hcon ⟨callB_of nA hts (lw_goodIn (y := y) (z := y) (bz := bytes) (mz := 0) (rz := none) g1) rfl rfl rfl (hts _ g2) (hts _ hl) ⟨g3, g4, g5⟩ ⟨hrm.1, hrm.2.1⟩, hts _ hi, hts _ hs⟩ ⟨RU.blind _ _, ⟨cell, q1, by rw [q2]; rfl, by rw [q3, ← hry]; exact q4.1⟩, fun U hU hW => ⟨rfl, by rw [hU]; exact h1, hKw.warm hW⟩⟩ rfl hA (by rw [h3.1, hlen]) rfl (lv_room (by rw [hcs]; exact hw)) hd ⟨hrm.2.2.1, hrm.2.2.2⟩) h2 h3 kk
theorem r_callS {index : Nat} {y : MethodName} {bytes : ByteArray} {mL nA : Nat} {ret : Option FieldType} {rmc : Room} {As : List Value} {KK : Option Value → Hp → Prop}
    {stk : List Value} {w : Nat} (hC : Cx E X l0 own code maxL rm) (hd : decode code pc = .ok (.invokestatic index, 3)) (hlen : lo.length = maxL) (hF : CF y bytes mL ret nA) (hl : Cond.methodLink own index y ∈ lwG) (hi : Cond.static y ∈ lwG)
    (hA : As.length = nA) (hrm : RM rm rmc k n mL) (hcs : cs st w) (hw : w ≤ 8) (hcon : Con E l0 y bytes mL ret rmc As h KK)
    (hst : As.reverse ++ st = stk) (kk : ∀ v h1, KK v h1 → WW E X h1 (k + rmc.cells) (n + rmc.slots) (pc + 3) lo (v.toList ++ st)) : WW E X h k n pc lo stk := by
  subst hst
  obtain ⟨p, l, e, R, s, m, args, below, meth, cd, Q⟩ := X
  obtain ⟨hx, hb, hml, hown, hts, hKw, hlk, hR0, hl0⟩ := hC
  intro H locs ls h1 h2 h3
  subst hR0; subst hl0
  obtain ⟨g1, g2, g3, g4, g5⟩ := hF
  refine behind (va_runS (As := As) (rest := st) ⟨hx, hb, hml, hown, hts⟩ hcon ⟨callB_of nA hts (lw_goodIn (y := y) (z := y) (bz := bytes) (mz := 0) (rz := none) g1) rfl rfl rfl (hts _ g2) (hts _ hl) ⟨g3, g4, g5⟩ ⟨hrm.1, hrm.2.1⟩, hts _ hi⟩ ⟨RU.blind _ _, fun U hU hW => ⟨rfl, by rw [hU]; exact h1, hKw.warm hW⟩⟩ rfl hA (by rw [h3.1, hlen]) rfl (lv_room (by rw [hcs]; exact hw)) hd ⟨hrm.2.2.1, hrm.2.2.2⟩) h2 h3 kk
theorem r_callI {index : Nat} {c : Nat} {y : MethodName} {bytes : ByteArray} {mL nA : Nat} {rmc : Room} {As : List Value} {KK : Option Value → Hp → Prop}
    {stk : List Value} {w : Nat} (hC : Cx E X l0 own code maxL rm) (hd : decode code pc = .ok (.invokespecial index, 3)) (hlen : lo.length = maxL) (hF : CF y bytes mL none nA) (hl : Cond.methodLink own index y ∈ lwG) (hy : y.name = "<init>") (hi : Cond.instanceMethod y ∈ lwG)
    (hc0 : c ≠ 0) (hA : As.length = nA) (hrm : RM rm rmc k n mL) (hcs : cs st w) (hw : w ≤ 8) (hcon : Con E l0 y bytes mL none rmc (rv c :: As) h KK)
    (hst : As.reverse ++ rv c :: st = stk) (kk : ∀ v h1, KK v h1 → WW E X h1 (k + rmc.cells) (n + rmc.slots) (pc + 3) lo (v.toList ++ st)) : WW E X h k n pc lo stk := by
  subst hst
  obtain ⟨p, l, e, R, s, m, args, below, meth, cd, Q⟩ := X
  obtain ⟨hx, hb, hml, hown, hts, hKw, hlk, hR0, hl0⟩ := hC
  intro H locs ls h1 h2 h3
  subst hR0; subst hl0
  obtain ⟨g1, g2, g3, g4, g5⟩ := hF
  obtain ⟨b, rfl⟩ : ∃ b, c = b + 1 := ⟨c - 1, by omega⟩
  refine behind (va_runI (As := As) (rest := st) (b := b) ⟨hx, hb, hml, hown, hts⟩ hcon ⟨callB_of nA hts (lw_goodIn (y := y) (z := y) (bz := bytes) (mz := 0) (rz := none) g1) rfl rfl rfl (hts _ g2) (hts _ hl) ⟨g3, g4, g5⟩ ⟨hrm.1, hrm.2.1⟩, hy, hts _ hi⟩ ⟨RU.blind _ _, fun U hU hW => ⟨rfl, by rw [hU]; exact h1, hKw.warm hW⟩⟩ rfl hA (by rw [h3.1, hlen]) rfl (lv_room (by rw [hcs]; exact hw)) hd ⟨hrm.2.2.1, hrm.2.2.2⟩) h2 h3 kk
theorem nest_CN {p : Program} {R : Room} {s : State} {args : Array Value} {index : Nat} {y : MethodName} {host : String} {bytes : ByteArray} {mL nA : Nat} {ret : Option FieldType} {rmc : Room} (hts : ∀ w ∈ lwG, w.before args s = true) (hKw : Kw E s) (hF : CF y bytes mL ret nA) (hl : (own, index, y, host) ∈ nestT) (hR : rmc.frames + 1 ≤ R.frames ∧ 8 + (mL + 11) + rmc.locals ≤ R.locals) :
    va_CN R s args own index y host bytes mL ret (.code y bytes mL ret :: lwG) rmc rmc.cells rmc.slots nA := by
  obtain ⟨g1, g2, g3, g4, g5⟩ := hF
  exact va_cnB nA hts (lw_goodIn (y := y) (z := y) (bz := bytes) (mz := 0) (rz := none) g1) rfl rfl rfl (hKw.2.1 _ hl) (hts _ g2) ⟨g3, g4, g5⟩ hR
theorem r_callSN {index : Nat} {y : MethodName} {host : String} {bytes : ByteArray} {mL nA : Nat} {ret : Option FieldType} {rmc : Room} {As : List Value} {KK : Option Value → Hp → Prop}
    {stk : List Value} {w : Nat} (hC : Cx E X l0 own code maxL rm) (hd : decode code pc = .ok (.invokestatic index, 3)) (hlen : lo.length = maxL) (hF : CF y bytes mL ret nA) (hl : (own, index, y, host) ∈ nestT) (hi : Cond.static y ∈ lwG)
    (hA : As.length = nA) (hrm : RM rm rmc k n mL) (hcs : cs st w) (hw : w ≤ 8) (hcon : Con E l0 y bytes mL ret rmc As h KK)
    (hst : As.reverse ++ st = stk) (kk : ∀ v h1, KK v h1 → WW E X h1 (k + rmc.cells) (n + rmc.slots) (pc + 3) lo (v.toList ++ st)) : WW E X h k n pc lo stk := by
  subst hst
  obtain ⟨p, l, e, R, s, m, args, below, meth, cd, Q⟩ := X
  obtain ⟨hx, hb, hml, hown, hts, hKw, hlk, hR0, hl0⟩ := hC
  intro H locs ls h1 h2 h3
  subst hR0; subst hl0
  refine behind (va_runSN (As := As) (rest := st) ⟨hx, hb, hml, hown, hts⟩ hcon ⟨nest_CN (p := p) hts hKw hF hl ⟨hrm.1, hrm.2.1⟩, hts _ hi, trivial⟩ ⟨RU.blind _ _, fun U hU hW => ⟨rfl, by rw [hU]; exact h1, hKw.warm hW⟩⟩ rfl hA (by rw [h3.1, hlen]) rfl (lv_room (by rw [hcs]; exact hw)) hd ⟨hrm.2.2.1, hrm.2.2.2⟩) h2 h3 kk
theorem r_callIN {index : Nat} {c : Nat} {y : MethodName} {host : String} {bytes : ByteArray} {mL nA : Nat} {rmc : Room} {As : List Value} {KK : Option Value → Hp → Prop}
    {stk : List Value} {w : Nat} (hC : Cx E X l0 own code maxL rm) (hd : decode code pc = .ok (.invokespecial index, 3)) (hlen : lo.length = maxL) (hF : CF y bytes mL none nA) (hl : (own, index, y, host) ∈ nestT) (hy : y.name = "<init>") (hi : Cond.instanceMethod y ∈ lwG)
    (hc0 : c ≠ 0) (hA : As.length = nA) (hrm : RM rm rmc k n mL) (hcs : cs st w) (hw : w ≤ 8) (hcon : Con E l0 y bytes mL none rmc (rv c :: As) h KK)
    (hst : As.reverse ++ rv c :: st = stk) (kk : ∀ v h1, KK v h1 → WW E X h1 (k + rmc.cells) (n + rmc.slots) (pc + 3) lo (v.toList ++ st)) : WW E X h k n pc lo stk := by
  subst hst
  obtain ⟨p, l, e, R, s, m, args, below, meth, cd, Q⟩ := X
  obtain ⟨hx, hb, hml, hown, hts, hKw, hlk, hR0, hl0⟩ := hC
  intro H locs ls h1 h2 h3
  subst hR0; subst hl0
  obtain ⟨b, rfl⟩ : ∃ b, c = b + 1 := ⟨c - 1, by omega⟩
  refine behind (va_runIN (As := As) (rest := st) (b := b) ⟨hx, hb, hml, hown, hts⟩ hcon ⟨nest_CN (p := p) hts hKw hF hl ⟨hrm.1, hrm.2.1⟩, hy, hts _ hi⟩ ⟨RU.blind _ _, fun U hU hW => ⟨rfl, by rw [hU]; exact h1, hKw.warm hW⟩⟩ rfl hA (by rw [h3.1, hlen]) rfl (lv_room (by rw [hcs]; exact hw)) hd ⟨hrm.2.2.1, hrm.2.2.2⟩) h2 h3 kk
theorem r_obj {index : Nat} {c w : Nat} (hC : Cx E X l0 own code maxL rm) (hd : decode code pc = .ok (.invokespecial index, 3)) (hlen : lo.length = maxL) (hl : Cond.methodLink own index Lib.objectInit ∈ lwG) (hi : Cond.instanceMethod Lib.objectInit ∈ lwG) (hc : Cond.code Lib.objectInit ⟨#[0xb1]⟩ 1 none ∈ lwG) (hc0 : c ≠ 0)
    (hcs : cs st w) (hrm : 1 ≤ rm.frames ∧ w + 12 ≤ rm.locals) (kk : WW E X h k n (pc + 3) lo st) : WW E X h k n pc lo (rv c :: st) := by
  obtain ⟨p, l, e, R, s, m, args, below, meth, cd, Q⟩ := X
  obtain ⟨hx, hb, hml, hown, hts, hKw, hlk, hR0, hl0⟩ := hC
  intro H locs ls h1 h2 h3
  subst hR0
  obtain ⟨b, rfl⟩ : ∃ b, c = b + 1 := ⟨c - 1, by omega⟩
  exact W.objInit hx hb hown (hts _ hl) (hts _ hi) (hts _ hc) rfl (by show ls.size = _; rw [hml, h3.1, hlen]) rfl hd hrm.1 (by have := hrm.2; show 2 * 0 + (st.map fun v => v.category).sum + 12 ≤ _; rw [hcs]; omega) (kk H locs ls h1 h2 h3)
/-! returns -/
theorem r_iret {nm : String} {KK : Option Value → Hp → Prop} {v : Int32} (hC : Cx E X l0 own code maxL rm) (hQ : CQ E X nm (some .int) rm KK) (hd : decode code pc = .ok (.ireturn, 1)) (hk : k ≤ rm.cells) (hn : n ≤ rm.slots) (hv : KK (some (.int v)) h) : WW E X h k n pc lo [.int v] := by
  obtain ⟨p, l, e, R, s, m, args, below, meth, cd, Q⟩ := X
  obtain ⟨hx, hb, hml, hown, hts, hKw, hlk, hR0, hl0⟩ := hC
  obtain ⟨hr, -, hQ⟩ := hQ
  intro H locs ls h1 h2 h3
  subst hQ
  exact W.widen hk hn (W.iret hx hb hr (fun t ht hW => ⟨_, h, rfl, by rw [ht]; exact h1, hv⟩) h2 hd)
theorem r_zret {nm : String} {KK : Option Value → Hp → Prop} {v : Int32} (hC : Cx E X l0 own code maxL rm) (hQ : CQ E X nm (some .boolean) rm KK) (hd : decode code pc = .ok (.ireturn, 1)) (hk : k ≤ rm.cells) (hn : n ≤ rm.slots) (h01 : v = 0 ∨ v = 1) (hv : KK (some (.int v)) h) : WW E X h k n pc lo [.int v] := by
  obtain ⟨p, l, e, R, s, m, args, below, meth, cd, Q⟩ := X
  obtain ⟨hx, hb, hml, hown, hts, hKw, hlk, hR0, hl0⟩ := hC
  obtain ⟨hr, -, hQ⟩ := hQ
  intro H locs ls h1 h2 h3
  subst hQ
  exact W.widen hk hn (W.zret hx hb hr (by rcases h01 with rfl | rfl <;> rfl) (fun t ht hW => ⟨_, h, rfl, by rw [ht]; exact h1, hv⟩) h2 hd)
theorem r_cret {nm : String} {KK : Option Value → Hp → Prop} {v : Int32} (hC : Cx E X l0 own code maxL rm) (hQ : CQ E X nm (some .char) rm KK) (hd : decode code pc = .ok (.ireturn, 1)) (hk : k ≤ rm.cells) (hn : n ≤ rm.slots) (hcn : cn v = v) (hv : KK (some (.int v)) h) : WW E X h k n pc lo [.int v] := by
  obtain ⟨p, l, e, R, s, m, args, below, meth, cd, Q⟩ := X
  obtain ⟨hx, hb, hml, hown, hts, hKw, hlk, hR0, hl0⟩ := hC
  obtain ⟨hr, -, hQ⟩ := hQ
  intro H locs ls h1 h2 h3
  subst hQ
  exact W.widen hk hn (W.zret hx hb hr (by rw [← hcn]; exact pk_nc v) (fun t ht hW => ⟨_, h, rfl, by rw [ht]; exact h1, hv⟩) h2 hd)
theorem r_vret {nm : String} {KK : Option Value → Hp → Prop} (hC : Cx E X l0 own code maxL rm) (hQ : CQ E X nm none rm KK) (hd : decode code pc = .ok (.return_, 1)) (hk : k ≤ rm.cells) (hn : n ≤ rm.slots) (hv : KK none h) : WW E X h k n pc lo [] := by
  obtain ⟨p, l, e, R, s, m, args, below, meth, cd, Q⟩ := X
  obtain ⟨hx, hb, hml, hown, hts, hKw, hlk, hR0, hl0⟩ := hC
  obtain ⟨hr, -, hQ⟩ := hQ
  intro H locs ls h1 h2 h3
  subst hQ
  exact W.widen hk hn (W.vret hx hb hr (fun t ht hW => ⟨_, h, rfl, by rw [ht]; exact h1, hv⟩) h2 hd)
theorem r_aret {nm : String} {KK : Option Value → Hp → Prop} {v : Nat} {rt : FieldType} (hC : Cx E X l0 own code maxL rm) (hQ : CQ E X nm (some rt) rm KK) (hrt : (∃ n, rt = .object n) ∨ ∃ t, rt = .array t) (hd : decode code pc = .ok (.areturn, 1)) (hk : k ≤ rm.cells) (hn : n ≤ rm.slots) (hv : KK (some (rv v)) h) : WW E X h k n pc lo [rv v] := by
  obtain ⟨p, l, e, R, s, m, args, below, meth, cd, Q⟩ := X
  obtain ⟨hx, hb, hml, hown, hts, hKw, hlk, hR0, hl0⟩ := hC
  obtain ⟨hr, -, hQ⟩ := hQ
  intro H locs ls h1 h2 h3
  subst hQ
  exact W.widen hk hn (W.aret hx hb hr hrt (rv_or v) (fun t ht hW => ⟨_, h, rfl, by rw [ht]; exact h1, hv⟩) h2 hd)
/-- the locals at a method's entry -/
def ent (As : List Value) (maxL : Nat) : List (Option Value) := As.map some ++ List.replicate (maxL - As.length) none
theorem lv_args_mem : ∀ (As : List Value) (i j : Nat) (v : Value), (∀ v ∈ As, v.category = 1) → As[j]? = some v → (i + j, v) ∈ lv_args i As
  | [], _, j, v, _, h => by simp at h
  | a :: As, i, 0, v, _, h => by cases h; exact List.mem_cons_self
  | a :: As, i, j + 1, v, hc, h => by
    have ha : ¬ a.category = 2 := by rw [hc a List.mem_cons_self]; decide
    unfold lv_args
    rw [if_neg ha]
    rw [List.getElem?_cons_succ] at h
    have := lv_args_mem As (i + 1) j v (fun v hv => hc v (List.mem_cons_of_mem _ hv)) h
    rw [show i + 1 + j = i + (j + 1) by omega] at this
    exact List.mem_cons_of_mem _ this
theorem lg_len (As : List Value) (hc : ∀ v ∈ As, v.category = 1) : (lg_sl As).length = As.length := by
  induction As with
  | nil => rfl
  | cons a t ih =>
    have ha : ¬ a.category = 2 := by rw [hc a List.mem_cons_self]; decide
    have := ih (fun v hv => hc v (List.mem_cons_of_mem _ hv))
    unfold lg_sl at this ⊢
    rw [List.flatMap_cons, if_neg ha]
    simp only [List.length_append, List.length_cons, List.length_nil, this]
    omega
theorem ent_LR (As : List Value) (maxL : Nat) (hc : ∀ v ∈ As, v.category = 1) (hl : As.length ≤ maxL) : LR ((lg_sl As ++ List.replicate (maxL - (lg_sl As).length) Slot.unset).toArray) (ent As maxL) := by
  have h0 := lv_entry As (n := maxL) (by rw [lg_len As hc]; exact hl)
  refine ⟨?_, h0.2.1, fun i v hv => ?_⟩
  · rw [h0.1]; unfold ent; simp; omega
  · unfold ent at hv
    by_cases hi : i < As.length
    · rw [List.getElem?_append_left (by simpa using hi), List.getElem?_map] at hv
      cases hj : As[i]? with
      | none => rw [hj] at hv; cases hv
      | some w =>
        rw [hj] at hv
        cases hv
        have := lv_args_mem As 0 i v hc hj
        rw [Nat.zero_add] at this
        exact ⟨hc v (List.mem_of_getElem? hj), h0.2.2 _ this⟩
    · rw [List.getElem?_append_right (by simpa using Nat.le_of_not_lt hi), List.getElem?_replicate] at hv
      split at hv <;> cases hv
theorem Con.of {y : MethodName} {bytes : ByteArray} {ret : Option FieldType} {As : List Value} {KK : Option Value → Hp → Prop} (hy : plainName y.cls = true) (hc : ∀ v ∈ As, v.category = 1) (hl : As.length ≤ maxL)
    (body : ∀ X : Xt, Cx E X l0 y.cls bytes maxL rm → CQ E X y.name ret rm KK → WW E X h 0 0 0 (ent As maxL) []) : Con E l0 y bytes maxL ret rm As h KK := by
  refine Met.ofW (cc := bytes) (maxL := maxL) (ret := ret) hy rfl ?_
  intro p e s m args below meth c s₁ B hml hv
  obtain ⟨rfl, hR, hKw⟩ := hv
  have hts := atoms_spec (ws := .code y bytes maxL ret :: lwG) B.pre
  have := body (p, l0, e, (headSpec (.code y bytes maxL ret :: lwG) rm).room, s, m, As.toArray, below, meth, c, _) ⟨B.exec, B.bytes, hml, findClass_of_methodNamed B.named, fun w hw => hts w (List.mem_cons_of_mem _ hw), hKw, B.notSynchronized, rfl, rfl⟩ ⟨B.returns, (name_of_methodNamed B.named B.method).1, rfl⟩
  rw [lg_entry_eq]
  exact this s.heap [] _ hR (fun q hq => by cases hq) (ent_LR As maxL hc hl)
end CALLROWS
end
section
def V_X0_append_19 (K : Int32 → Hp → Prop) (h : Hp) : Prop := ((0 : Int32) = 0 ∨ (0 : Int32) = 1) ∧ K 0 h
def V_X0_append (a0 : Nat) (a1 : Int32) (h : Hp) (K : Int32 → Hp → Prop) : Prop := hK h a0 = 1 ∧ ((hI h a0 1) < 0 → V_X0_append_19 K  h) ∧ (¬ ((hI h a0 1) < 0) → hK h a0 = 1 ∧ hK h a0 = 1 ∧ hK h (hR h a0 0) = 21 ∧ ((hI h a0 1) < (nI (hL h (hR h a0 0))) → hK h a0 = 1 ∧ hK h a0 = 1 ∧ hK h (hR h a0 0) = 21 ∧ vp_in (hI h a0 1) (hL h (hR h a0 0)) ∧ ∀ h1, h1 = sI h (hR h a0 0) (ix (hI h a0 1)) (cn a1) → hK h1 a0 = 1 ∧ hK h1 a0 = 1 ∧ ∀ h2, h2 = sI h1 a0 1 ((hI h1 a0 1) + 1) → ((1 : Int32) = 0 ∨ (1 : Int32) = 1) ∧ K 1 h2) ∧ (¬ ((hI h a0 1) < (nI (hL h (hR h a0 0)))) → V_X0_append_19 K  h))
def V_X6_isLetter_17 (K : Int32 → Hp → Prop) (s0 : Int32) (h : Hp) : Prop := (s0 = 0 ∨ s0 = 1) ∧ K s0 h
def V_X6_isLetter_16 (K : Int32 → Hp → Prop) (h : Hp) : Prop := V_X6_isLetter_17 K 0 h
def V_X6_isLetter (a0 : Int32) (h : Hp) (K : Int32 → Hp → Prop) : Prop := (a0 < 97 → V_X6_isLetter_16 K  h) ∧ (¬ (a0 < 97) → (122 < a0 → V_X6_isLetter_16 K  h) ∧ (¬ (122 < a0) → V_X6_isLetter_17 K 1 h))
def V_X0_findFault_73 (K : Int32 → Hp → Prop) (a2 : Int32) (h : Hp) : Prop := K a2 h
def V_X0_findFault_84 (K : Int32 → Hp → Prop) (C4 : Nat → Int32 → Int32 → Hp → Prop) (a0 : Nat) (a2 : Int32) (s0 : Int32) (h : Hp) : Prop := C4 a0 s0 (a2 + 1) h
def V_X0_findFault_75 (K : Int32 → Hp → Prop) (C4 : Nat → Int32 → Int32 → Hp → Prop) (a0 : Nat) (a2 : Int32) (a3 : Int32) (h : Hp) : Prop := (¬ a3 = 0 → V_X0_findFault_84 K C4 a0 a2 0 h) ∧ (a3 = 0 → V_X0_findFault_84 K C4 a0 a2 1 h)
def V_X0_findFault_58 (K : Int32 → Hp → Prop) (C4 : Nat → Int32 → Int32 → Hp → Prop) (a0 : Nat) (a1 : Int32) (a2 : Int32) (a3 : Int32) (s0 : Int32) (h : Hp) : Prop := (¬ a3 = 0 → V_X0_findFault_75 K C4 a0 a2 a3 h) ∧ (a3 = 0 → (¬ a1 = 0 → V_X0_findFault_73 K a2 h) ∧ (a1 = 0 → (¬ s0 = 0 → V_X0_findFault_75 K C4 a0 a2 a3 h) ∧ (s0 = 0 → V_X0_findFault_73 K a2 h)))
def V_X0_findFault_53 (K : Int32 → Hp → Prop) (C4 : Nat → Int32 → Int32 → Hp → Prop) (a0 : Nat) (a1 : Int32) (a2 : Int32) (a3 : Int32) (h : Hp) : Prop := V_X0_findFault_58 K C4 a0 a1 a2 a3 1 h
def V_X0_findFault_103 (K : Int32 → Hp → Prop) (s0 : Int32) (h : Hp) : Prop := K s0 h
def V_X0_findFault_91 (K : Int32 → Hp → Prop) (a0 : Nat) (a1 : Int32) (h : Hp) : Prop := (a1 = 0 → V_X0_findFault_103 K (-1) h) ∧ (¬ a1 = 0 → hK h a0 = 1 ∧ V_X0_findFault_103 K (hI h a0 1) h)
def V_X0_findFault_4 (K : Int32 → Hp → Prop) : Nat → Nat → Int32 → Int32 → Hp → Prop
  | 0, _, _, _, _ => False
  | n + 1, a0, a1, a2, h => hK h a0 = 1 ∧ ((hI h a0 1) ≤ a2 → V_X0_findFault_91 K a0 a1 h) ∧ (¬ ((hI h a0 1) ≤ a2) → hK h a0 = 1 ∧ hK h (hR h a0 0) = 21 ∧ ((nI (hL h (hR h a0 0))) ≤ a2 → V_X0_findFault_91 K a0 a1 h) ∧ (¬ ((nI (hL h (hR h a0 0))) ≤ a2) → hK h a0 = 1 ∧ hK h (hR h a0 0) = 21 ∧ vp_in a2 (hL h (hR h a0 0)) ∧ V_X6_isLetter (hI h (hR h a0 0) (ix a2)) h (fun r1 h1 => hK h1 a0 = 1 ∧ hK h1 (hR h1 a0 0) = 21 ∧ vp_in a2 (hL h1 (hR h1 a0 0)) ∧ ((hI h1 (hR h1 a0 0) (ix a2)) = 32 → V_X0_findFault_53 K (V_X0_findFault_4 K n) a0 a1 a2 r1 h1) ∧ (¬ (hI h1 (hR h1 a0 0) (ix a2)) = 32 → hK h1 a0 = 1 ∧ hK h1 (hR h1 a0 0) = 21 ∧ vp_in a2 (hL h1 (hR h1 a0 0)) ∧ (¬ (hI h1 (hR h1 a0 0) (ix a2)) = 47 → V_X0_findFault_58 K (V_X0_findFault_4 K n) a0 a1 a2 r1 0 h1) ∧ ((hI h1 (hR h1 a0 0) (ix a2)) = 47 → V_X0_findFault_53 K (V_X0_findFault_4 K n) a0 a1 a2 r1 h1)))))
def V_X0_findFault (a0 : Nat) (h : Hp) (K : Int32 → Hp → Prop) : Prop := ∃ n9, V_X0_findFault_4 K n9 a0 1 0 h
def V_X0_init (a0 : Nat) (h : Hp) (K : Hp → Prop) : Prop := a0 ≠ 0 ∧ ∀ q1, q1 ≠ 0 → hK h q1 = 0 → ∀ h1, h1 = nN h q1 21 60 → hK h1 a0 = 1 ∧ ∀ h2, h2 = sR h1 a0 0 q1 → hK h2 a0 = 1 ∧ ∀ h3, h3 = sI h2 a0 1 0 → K h3
def V_X1_formePieces_4 (K : Int32 → Hp → Prop) : Nat → Nat → Int32 → Int32 → Hp → Prop
  | 0, _, _, _, _ => False
  | n + 1, a0, a1, a2, h => hK h a0 = 2 ∧ hK h (hR h a0 3) = 20 ∧ ((nI (hL h (hR h a0 3))) ≤ a2 → K a1 h) ∧ (¬ ((nI (hL h (hR h a0 3))) ≤ a2) → hK h a0 = 2 ∧ hK h (hR h a0 3) = 20 ∧ vp_in a2 (hL h (hR h a0 3)) ∧ V_X1_formePieces_4 K n a0 (a1 + (hI h (hR h a0 3) (ix a2))) (a2 + 1) h)
def V_X1_formePieces (a0 : Nat) (h : Hp) (K : Int32 → Hp → Prop) : Prop := ∃ n9, V_X1_formePieces_4 K n9 a0 0 0 h
def V_X6_slotOf (a0 : Int32) (a1 : Int32) (h : Hp) (K : Int32 → Hp → Prop) : Prop := K ((a0 * 29) + a1) h
def V_X1_takenFrom_29 (K : Int32 → Hp → Prop) (s0 : Int32) (h : Hp) : Prop := K s0 h
def V_X1_takenFrom_28 (K : Int32 → Hp → Prop) (h : Hp) : Prop := V_X1_takenFrom_29 K 0 h
def V_X1_takenFrom (a0 : Nat) (a1 : Int32) (a2 : Int32) (h : Hp) (K : Int32 → Hp → Prop) : Prop := V_X6_slotOf a1 a2 h (fun r1 h1 => (r1 < 0 → V_X1_takenFrom_28 K  h1) ∧ (¬ (r1 < 0) → hK h1 a0 = 2 ∧ hK h1 (hR h1 a0 3) = 20 ∧ ((nI (hL h1 (hR h1 a0 3))) ≤ r1 → V_X1_takenFrom_28 K  h1) ∧ (¬ ((nI (hL h1 (hR h1 a0 3))) ≤ r1) → hK h1 a0 = 2 ∧ hK h1 (hR h1 a0 3) = 20 ∧ vp_in r1 (hL h1 (hR h1 a0 3)) ∧ V_X1_takenFrom_29 K (hI h1 (hR h1 a0 3) (ix r1)) h1)))
def V_X1_borrowedPieces_7 (K : Int32 → Hp → Prop) : Nat → Nat → Int32 → Int32 → Hp → Prop
  | 0, _, _, _, _ => False
  | n + 1, a0, a1, a2, h => (29 ≤ a2 → K a1 h) ∧ (¬ (29 ≤ a2) → hK h a0 = 2 ∧ hK h (hR h a0 0) = 4 ∧ hK h a0 = 2 ∧ V_X1_takenFrom a0 (hI h (hR h a0 0) 0) a2 h (fun r1 h1 => V_X1_borrowedPieces_7 K n a0 (a1 - r1) (a2 + 1) h1))
def V_X1_borrowedPieces (a0 : Nat) (h : Hp) (K : Int32 → Hp → Prop) : Prop := hK h a0 = 2 ∧ V_X1_formePieces a0 h (fun r1 h1 => ∃ n9, V_X1_borrowedPieces_7 K n9 a0 r1 0 h1)
def V_X1_daysLate_30 (K : Int32 → Hp → Prop) (s0 : Int32) (h : Hp) : Prop := K s0 h
def V_X1_daysLate (a0 : Nat) (h : Hp) (K : Int32 → Hp → Prop) : Prop := hK h a0 = 2 ∧ (¬ (hI h a0 2) = (-5) → hK h a0 = 2 ∧ hK h a0 = 2 ∧ hK h (hR h a0 0) = 4 ∧ V_X1_daysLate_30 K (if 0 < (hI h a0 2) - (hI h (hR h a0 0) 2) then (hI h a0 2) - (hI h (hR h a0 0) 2) else 0) h) ∧ ((hI h a0 2) = (-5) → V_X1_daysLate_30 K (-5) h)
def V_X1_takenInAll_4 (K : Int32 → Hp → Prop) : Nat → Nat → Int32 → Int32 → Int32 → Hp → Prop
  | 0, _, _, _, _, _ => False
  | n + 1, a0, a1, a2, a3, h => (6 ≤ a3 → K a2 h) ∧ (¬ (6 ≤ a3) → hK h a0 = 2 ∧ V_X1_takenFrom a0 a3 a1 h (fun r1 h1 => V_X1_takenInAll_4 K n a0 a1 (a2 + r1) (a3 + 1) h1))
def V_X1_takenInAll (a0 : Nat) (a1 : Int32) (h : Hp) (K : Int32 → Hp → Prop) : Prop := ∃ n9, V_X1_takenInAll_4 K n9 a0 a1 0 0 h
def V_X6_widthOf (a0 : Int32) (h : Hp) (K : Int32 → Hp → Prop) : Prop := (a0.toInt = 26 → K 4 h) ∧ (a0.toInt = 27 → K 2 h) ∧ (a0.toInt = 28 → K 1 h) ∧ (a0.toInt < 26 ∨ 28 < a0.toInt → K (2 + (a0 - a0 / 5 * 5)) h)
def V_X1_formeMetal_4 (K : Int32 → Hp → Prop) : Nat → Nat → Int32 → Int32 → Hp → Prop
  | 0, _, _, _, _ => False
  | n + 1, a0, a1, a2, h => (29 ≤ a2 → K a1 h) ∧ (¬ (29 ≤ a2) → hK h a0 = 2 ∧ V_X1_takenInAll a0 a2 h (fun r1 h1 => V_X6_widthOf a2 h1 (fun r2 h2 => V_X1_formeMetal_4 K n a0 (a1 + (r1 * r2)) (a2 + 1) h2)))
def V_X1_formeMetal (a0 : Nat) (h : Hp) (K : Int32 → Hp → Prop) : Prop := ∃ n9, V_X1_formeMetal_4 K n9 a0 0 0 h
def V_X1_hasForme_21 (K : Int32 → Hp → Prop) (s0 : Int32) (h : Hp) : Prop := (s0 = 0 ∨ s0 = 1) ∧ K s0 h
def V_X1_hasForme_16 (K : Int32 → Hp → Prop) (h : Hp) : Prop := V_X1_hasForme_21 K 1 h
def V_X1_hasForme (a0 : Nat) (h : Hp) (K : Int32 → Hp → Prop) : Prop := hK h a0 = 2 ∧ ((hI h a0 1) = 1 → V_X1_hasForme_16 K  h) ∧ (¬ (hI h a0 1) = 1 → hK h a0 = 2 ∧ (¬ (hI h a0 1) = 2 → V_X1_hasForme_21 K 0 h) ∧ ((hI h a0 1) = 2 → V_X1_hasForme_16 K  h))
def V_X1_init (a0 : Nat) (a1 : Nat) (a2 : Int32) (a3 : Int32) (a4 : Nat) (h : Hp) (K : Hp → Prop) : Prop := a0 ≠ 0 ∧ hK h a0 = 2 ∧ ∀ h1, h1 = sR h a0 0 a1 → hK h1 a0 = 2 ∧ ∀ h2, h2 = sI h1 a0 1 a2 → hK h2 a0 = 2 ∧ ∀ h3, h3 = sI h2 a0 2 a3 → hK h3 a0 = 2 ∧ ∀ h4, h4 = sR h3 a0 3 a4 → K h4
def V_X1_isOpen_20 (K : Int32 → Hp → Prop) (s0 : Int32) (h : Hp) : Prop := (s0 = 0 ∨ s0 = 1) ∧ K s0 h
def V_X1_isOpen_15 (K : Int32 → Hp → Prop) (h : Hp) : Prop := V_X1_isOpen_20 K 1 h
def V_X1_isOpen (a0 : Nat) (h : Hp) (K : Int32 → Hp → Prop) : Prop := hK h a0 = 2 ∧ ((hI h a0 1) = 0 → V_X1_isOpen_15 K  h) ∧ (¬ (hI h a0 1) = 0 → hK h a0 = 2 ∧ (¬ (hI h a0 1) = 1 → V_X1_isOpen_20 K 0 h) ∧ ((hI h a0 1) = 1 → V_X1_isOpen_15 K  h))
def V_X2_addGaps_48 (K : Hp → Prop) (C8 : Nat → Int32 → Int32 → Int32 → Hp → Prop) (a0 : Nat) (a1 : Int32) (a2 : Int32) (a3 : Int32) (s0 : Nat) (s1 : Int32) (s2 : Int32) (s3 : Int32) (h : Hp) : Prop := hK h s0 = 20 ∧ vp_in s1 (hL h s0) ∧ ∀ h1, h1 = sI h s0 (ix s1) (s2 + s3) → hK h1 a0 = 3 ∧ hK h1 a0 = 3 ∧ ∀ h2, h2 = sI h1 a0 7 ((hI h1 a0 7) + 1) → C8 a0 a1 a2 (a3 + 1) h2
def V_X2_addGaps_66 (K : Hp → Prop) (h : Hp) : Prop := K h
def V_X2_addGaps_8 (K : Hp → Prop) : Nat → Nat → Int32 → Int32 → Int32 → Hp → Prop
  | 0, _, _, _, _, _ => False
  | n + 1, a0, a1, a2, a3, h => (a2 ≤ a3 → V_X2_addGaps_66 K  h) ∧ (¬ (a2 ≤ a3) → hK h a0 = 3 ∧ hK h a0 = 3 ∧ hK h (hR h a0 4) = 20 ∧ ((nI (hL h (hR h a0 4))) ≤ (hI h a0 7) → V_X2_addGaps_66 K  h) ∧ (¬ ((nI (hL h (hR h a0 4))) ≤ (hI h a0 7)) → hK h a0 = 3 ∧ hK h a0 = 3 ∧ ¬ a2 = 0 ∧ ¬ a2 = 0 ∧ ((a1 - a1 / a2 * a2) ≤ a3 → V_X2_addGaps_48 K (V_X2_addGaps_8 K n) a0 a1 a2 a3 (hR h a0 4) (hI h a0 7) (a1 / a2) 0 h) ∧ (¬ ((a1 - a1 / a2 * a2) ≤ a3) → V_X2_addGaps_48 K (V_X2_addGaps_8 K n) a0 a1 a2 a3 (hR h a0 4) (hI h a0 7) (a1 / a2) 1 h)))
def V_X2_addGaps (a0 : Nat) (a1 : Int32) (a2 : Int32) (h : Hp) (K : Hp → Prop) : Prop := (1 ≤ a2 → ∃ n9, V_X2_addGaps_8 K n9 a0 a1 a2 0 h) ∧ (¬ (1 ≤ a2) → K h)
def V_X2_addLine_91 (K : Hp → Prop) (C9 : Nat → Int32 → Int32 → Int32 → Int32 → Hp → Prop) (a0 : Nat) (a2 : Int32) (a4 : Int32) (a5 : Int32) (a6 : Int32) (h : Hp) : Prop := C9 a0 a2 a4 a5 (a6 + 1) h
def V_X2_addLine_167 (K : Hp → Prop) (h : Hp) : Prop := K h
def V_X2_addLine_109 (K : Hp → Prop) (a0 : Nat) (a2 : Int32) (a4 : Int32) (a5 : Int32) (h : Hp) : Prop := hK h a0 = 3 ∧ V_X2_addGaps a0 (if a4 < 0 then 0 else a4) (if a5 < 1 then 1 else a5) h (fun h1 => hK h1 a0 = 3 ∧ (30 ≤ (hI h1 a0 5) → V_X2_addLine_167 K  h1) ∧ (¬ (30 ≤ (hI h1 a0 5)) → hK h1 a0 = 3 ∧ hK h1 a0 = 3 ∧ hK h1 (hR h1 a0 2) = 20 ∧ vp_in (hI h1 a0 5) (hL h1 (hR h1 a0 2)) ∧ ∀ h2, h2 = sI h1 (hR h1 a0 2) (ix (hI h1 a0 5)) a2 → hK h2 a0 = 3 ∧ hK h2 a0 = 3 ∧ hK h2 a0 = 3 ∧ hK h2 (hR h2 a0 3) = 20 ∧ vp_in (hI h2 a0 5) (hL h2 (hR h2 a0 3)) ∧ ∀ h3, h3 = sI h2 (hR h2 a0 3) (ix (hI h2 a0 5)) (hI h2 a0 7) → hK h3 a0 = 3 ∧ hK h3 a0 = 3 ∧ ∀ h4, h4 = sI h3 a0 5 ((hI h3 a0 5) + 1) → V_X2_addLine_167 K  h4))
def V_X2_addLine_97 (K : Hp → Prop) (a0 : Nat) (a2 : Int32) (a4 : Int32) (a5 : Int32) (h : Hp) : Prop := (a5 ≤ a4 → V_X2_addLine_109 K a0 a2 a4 a5 h) ∧ (¬ (a5 ≤ a4) → hK h a0 = 3 ∧ ((1 : Int32) = 0 ∨ (1 : Int32) = 1) ∧ ∀ h1, h1 = sI h a0 8 1 → V_X2_addLine_109 K a0 a2 a4 a5 h1)
def V_X2_addLine_9 (K : Hp → Prop) : Nat → Nat → Int32 → Int32 → Int32 → Int32 → Hp → Prop
  | 0, _, _, _, _, _, _ => False
  | n + 1, a0, a2, a4, a5, a6, h => (a2 ≤ a6 → V_X2_addLine_97 K a0 a2 a4 a5 h) ∧ (¬ (a2 ≤ a6) → hK h a0 = 3 ∧ hK h (hR h a0 0) = 21 ∧ ((nI (hL h (hR h a0 0))) ≤ a6 → V_X2_addLine_97 K a0 a2 a4 a5 h) ∧ (¬ ((nI (hL h (hR h a0 0))) ≤ a6) → hK h a0 = 3 ∧ hK h (hR h a0 0) = 21 ∧ vp_in a6 (hL h (hR h a0 0)) ∧ V_X6_isLetter (hI h (hR h a0 0) (ix a6)) h (fun r1 h1 => (r1 = 0 → V_X2_addLine_91 K (V_X2_addLine_9 K n) a0 a2 a4 (a5 + 1) a6 h1) ∧ (¬ r1 = 0 → hK h1 a0 = 3 ∧ hK h1 (hR h1 a0 0) = 21 ∧ vp_in a6 (hL h1 (hR h1 a0 0)) ∧ V_X6_widthOf ((hI h1 (hR h1 a0 0) (ix a6)) - 97) h1 (fun r2 h2 => hK h2 a0 = 3 ∧ hK h2 a0 = 3 ∧ hK h2 (hR h2 a0 0) = 21 ∧ vp_in a6 (hL h2 (hR h2 a0 0)) ∧ hK h2 (hR h2 a0 1) = 20 ∧ vp_in ((hI h2 (hR h2 a0 0) (ix a6)) - 97) (hL h2 (hR h2 a0 1)) ∧ hK h2 (hR h2 a0 1) = 20 ∧ vp_in ((hI h2 (hR h2 a0 0) (ix a6)) - 97) (hL h2 (hR h2 a0 1)) ∧ ∀ h3, h3 = sI h2 (hR h2 a0 1) (ix ((hI h2 (hR h2 a0 0) (ix a6)) - 97)) ((hI h2 (hR h2 a0 1) (ix ((hI h2 (hR h2 a0 0) (ix a6)) - 97))) + 1) → hK h3 a0 = 3 ∧ hK h3 a0 = 3 ∧ ∀ h4, h4 = sI h3 a0 6 ((hI h3 a0 6) + 1) → V_X2_addLine_91 K (V_X2_addLine_9 K n) a0 a2 (a4 - r2) a5 a6 h4)))))
def V_X2_addLine (a0 : Nat) (a1 : Int32) (a2 : Int32) (a3 : Int32) (h : Hp) (K : Hp → Prop) : Prop := ∃ n9, V_X2_addLine_9 K n9 a0 a2 a3 0 a1 h
def V_X2_firstGap_25 (K : Int32 → Hp → Prop) (s0 : Int32) (h : Hp) : Prop := K s0 h
def V_X2_firstGap_24 (K : Int32 → Hp → Prop) (h : Hp) : Prop := V_X2_firstGap_25 K 0 h
def V_X2_firstGap (a0 : Nat) (a1 : Int32) (h : Hp) (K : Int32 → Hp → Prop) : Prop := (a1 ≤ 0 → V_X2_firstGap_24 K  h) ∧ (¬ (a1 ≤ 0) → hK h a0 = 3 ∧ hK h (hR h a0 3) = 20 ∧ ((nI (hL h (hR h a0 3))) ≤ a1 → V_X2_firstGap_24 K  h) ∧ (¬ ((nI (hL h (hR h a0 3))) ≤ a1) → hK h a0 = 3 ∧ hK h (hR h a0 3) = 20 ∧ vp_in (a1 - 1) (hL h (hR h a0 3)) ∧ V_X2_firstGap_25 K (hI h (hR h a0 3) (ix (a1 - 1))) h))
def V_X2_gapWidth_23 (K : Int32 → Hp → Prop) (s0 : Int32) (h : Hp) : Prop := K s0 h
def V_X2_gapWidth_22 (K : Int32 → Hp → Prop) (h : Hp) : Prop := V_X2_gapWidth_23 K 0 h
def V_X2_gapWidth (a0 : Nat) (a1 : Int32) (h : Hp) (K : Int32 → Hp → Prop) : Prop := (a1 < 0 → V_X2_gapWidth_22 K  h) ∧ (¬ (a1 < 0) → hK h a0 = 3 ∧ hK h (hR h a0 4) = 20 ∧ ((nI (hL h (hR h a0 4))) ≤ a1 → V_X2_gapWidth_22 K  h) ∧ (¬ ((nI (hL h (hR h a0 4))) ≤ a1) → hK h a0 = 3 ∧ hK h (hR h a0 4) = 20 ∧ vp_in a1 (hL h (hR h a0 4)) ∧ V_X2_gapWidth_23 K (hI h (hR h a0 4) (ix a1)) h))
def V_X2_hasLine_23 (K : Int32 → Hp → Prop) (s0 : Int32) (h : Hp) : Prop := (s0 = 0 ∨ s0 = 1) ∧ K s0 h
def V_X2_hasLine_22 (K : Int32 → Hp → Prop) (h : Hp) : Prop := V_X2_hasLine_23 K 0 h
def V_X2_hasLine (a0 : Nat) (a1 : Int32) (h : Hp) (K : Int32 → Hp → Prop) : Prop := (a1 < 0 → V_X2_hasLine_22 K  h) ∧ (¬ (a1 < 0) → hK h a0 = 3 ∧ ((hI h a0 5) ≤ a1 → V_X2_hasLine_22 K  h) ∧ (¬ ((hI h a0 5) ≤ a1) → (30 ≤ a1 → V_X2_hasLine_22 K  h) ∧ (¬ (30 ≤ a1) → V_X2_hasLine_23 K 1 h)))
def V_X2_init_126 (K : Hp → Prop) (C80 : Nat → Nat → Int32 → Int32 → Int32 → Int32 → Hp → Prop) (a0 : Nat) (a1 : Nat) (a2 : Int32) (a3 : Int32) (a4 : Int32) (a5 : Int32) (h : Hp) : Prop := C80 a0 a1 a2 a3 a4 (a5 + 1) h
def V_X2_init_80 (K : Hp → Prop) : Nat → Nat → Nat → Int32 → Int32 → Int32 → Int32 → Hp → Prop
  | 0, _, _, _, _, _, _, _ => False
  | n + 1, a0, a1, a2, a3, a4, a5, h => (a4 ≤ a5 → hK h a0 = 3 ∧ V_X2_addLine a0 a3 a4 a2 h (fun h1 => K h1)) ∧ (¬ (a4 ≤ a5) → hK h a0 = 3 ∧ hK h a1 = 1 ∧ hK h (hR h a1 0) = 21 ∧ vp_in a5 (hL h (hR h a1 0)) ∧ hK h (hR h a0 0) = 21 ∧ vp_in a5 (hL h (hR h a0 0)) ∧ ∀ h1, h1 = sI h (hR h a0 0) (ix a5) (cn (hI h (hR h a1 0) (ix a5))) → hK h1 a0 = 3 ∧ hK h1 (hR h1 a0 0) = 21 ∧ vp_in a5 (hL h1 (hR h1 a0 0)) ∧ (¬ (hI h1 (hR h1 a0 0) (ix a5)) = 47 → V_X2_init_126 K (V_X2_init_80 K n) a0 a1 a2 a3 a4 a5 h1) ∧ ((hI h1 (hR h1 a0 0) (ix a5)) = 47 → hK h1 a0 = 3 ∧ V_X2_addLine a0 a3 a5 a2 h1 (fun h2 => V_X2_init_126 K (V_X2_init_80 K n) a0 a1 a2 (a5 + 1) a4 a5 h2)))
def V_X2_init (a0 : Nat) (a1 : Nat) (a2 : Int32) (h : Hp) (K : Hp → Prop) : Prop := a0 ≠ 0 ∧ ∀ q1, q1 ≠ 0 → hK h q1 = 0 → ∀ h1, h1 = nN h q1 21 60 → hK h1 a0 = 3 ∧ ∀ h2, h2 = sR h1 a0 0 q1 → ∀ q2, q2 ≠ 0 → hK h2 q2 = 0 → ∀ h3, h3 = nN h2 q2 20 26 → hK h3 a0 = 3 ∧ ∀ h4, h4 = sR h3 a0 1 q2 → ∀ q3, q3 ≠ 0 → hK h4 q3 = 0 → ∀ h5, h5 = nN h4 q3 20 30 → hK h5 a0 = 3 ∧ ∀ h6, h6 = sR h5 a0 2 q3 → ∀ q4, q4 ≠ 0 → hK h6 q4 = 0 → ∀ h7, h7 = nN h6 q4 20 30 → hK h7 a0 = 3 ∧ ∀ h8, h8 = sR h7 a0 3 q4 → ∀ q5, q5 ≠ 0 → hK h8 q5 = 0 → ∀ h9, h9 = nN h8 q5 20 30 → hK h9 a0 = 3 ∧ ∀ h10, h10 = sR h9 a0 4 q5 → hK h10 a0 = 3 ∧ ∀ h11, h11 = sI h10 a0 5 0 → hK h11 a0 = 3 ∧ ∀ h12, h12 = sI h11 a0 6 0 → hK h12 a0 = 3 ∧ ∀ h13, h13 = sI h12 a0 7 0 → hK h13 a0 = 3 ∧ ((0 : Int32) = 0 ∨ (0 : Int32) = 1) ∧ ∀ h14, h14 = sI h13 a0 8 0 → hK h14 a1 = 1 ∧ ∃ n9, V_X2_init_80 K n9 a0 a1 a2 0 (if 60 < hI h14 a1 1 then 60 else hI h14 a1 1) 0 h14
def V_X2_lineStart_27 (K : Int32 → Hp → Prop) (s0 : Int32) (h : Hp) : Prop := K s0 h
def V_X2_lineStart_26 (K : Int32 → Hp → Prop) (h : Hp) : Prop := V_X2_lineStart_27 K 0 h
def V_X2_lineStart (a0 : Nat) (a1 : Int32) (h : Hp) (K : Int32 → Hp → Prop) : Prop := (a1 ≤ 0 → V_X2_lineStart_26 K  h) ∧ (¬ (a1 ≤ 0) → hK h a0 = 3 ∧ hK h (hR h a0 2) = 20 ∧ ((nI (hL h (hR h a0 2))) ≤ a1 → V_X2_lineStart_26 K  h) ∧ (¬ ((nI (hL h (hR h a0 2))) ≤ a1) → hK h a0 = 3 ∧ hK h (hR h a0 2) = 20 ∧ vp_in (a1 - 1) (hL h (hR h a0 2)) ∧ V_X2_lineStart_27 K ((hI h (hR h a0 2) (ix (a1 - 1))) + 1) h))
def V_X2_signAt_24 (K : Int32 → Hp → Prop) (s0 : Int32) (h : Hp) : Prop := cn s0 = s0 ∧ K s0 h
def V_X2_signAt_22 (K : Int32 → Hp → Prop) (h : Hp) : Prop := V_X2_signAt_24 K 32 h
def V_X2_signAt (a0 : Nat) (a1 : Int32) (h : Hp) (K : Int32 → Hp → Prop) : Prop := (a1 < 0 → V_X2_signAt_22 K  h) ∧ (¬ (a1 < 0) → hK h a0 = 3 ∧ hK h (hR h a0 0) = 21 ∧ ((nI (hL h (hR h a0 0))) ≤ a1 → V_X2_signAt_22 K  h) ∧ (¬ ((nI (hL h (hR h a0 0))) ≤ a1) → hK h a0 = 3 ∧ hK h (hR h a0 0) = 21 ∧ vp_in a1 (hL h (hR h a0 0)) ∧ V_X2_signAt_24 K (hI h (hR h a0 0) (ix a1)) h))
def V_X3_init (a0 : Nat) (a1 : Int32) (a2 : Int32) (a3 : Int32) (a4 : Nat) (h : Hp) (K : Hp → Prop) : Prop := a0 ≠ 0 ∧ hK h a0 = 4 ∧ ∀ h1, h1 = sI h a0 0 a1 → hK h1 a0 = 4 ∧ ∀ h2, h2 = sI h1 a0 1 a2 → hK h2 a0 = 4 ∧ ∀ h3, h3 = sI h2 a0 2 a3 → hK h3 a0 = 4 ∧ ∀ h4, h4 = sR h3 a0 3 a4 → K h4
def V_X4_begin (a0 : Nat) (a1 : Int32) (a2 : Int32) (h : Hp) (K : Hp → Prop) : Prop := hK h a0 = 5 ∧ ∀ h1, h1 = sI h a0 0 a1 → hK h1 a0 = 5 ∧ ∀ h2, h2 = sI h1 a0 1 a2 → hK h2 a0 = 5 ∧ ∀ h3, h3 = sI h2 a0 5 0 → hK h3 a0 = 5 ∧ ∀ h4, h4 = sI h3 a0 6 0 → hK h4 a0 = 5 ∧ ∀ h5, h5 = sI h4 a0 7 0 → K h5
def V_X4_digitAt_31 (K : Int32 → Hp → Prop) (s0 : Int32) (h : Hp) : Prop := cn s0 = s0 ∧ K s0 h
def V_X4_digitAt (a0 : Nat) (a1 : Int32) (h : Hp) (K : Int32 → Hp → Prop) : Prop := hK h a0 = 5 ∧ ((hI h a0 2) ≤ a1 → hK h a0 = 5 ∧ hK h a0 = 5 ∧ (((hI h a0 2) + (hI h a0 3)) ≤ a1 → V_X4_digitAt_31 K 49 h) ∧ (¬ (((hI h a0 2) + (hI h a0 3)) ≤ a1) → V_X4_digitAt_31 K 50 h)) ∧ (¬ ((hI h a0 2) ≤ a1) → cn 52 = 52 ∧ K 52 h)
def V_X4_fill (a0 : Nat) (a1 : Int32) (h : Hp) (K : Hp → Prop) : Prop := hK h a0 = 5 ∧ hK h a0 = 5 ∧ ∀ h1, h1 = sI h a0 2 (if hI h a0 0 < a1 / 4 then hI h a0 0 else a1 / 4) → hK h1 a0 = 5 ∧ hK h1 a0 = 5 ∧ hK h1 a0 = 5 ∧ ∀ h2, h2 = sI h1 a0 3 (if hI h1 a0 1 < (a1 - (4 * (hI h1 a0 2))) / 2 then hI h1 a0 1 else (a1 - (4 * (hI h1 a0 2))) / 2) → hK h2 a0 = 5 ∧ hK h2 a0 = 5 ∧ ∀ h3, h3 = sI h2 a0 4 ((a1 - (4 * (hI h1 a0 2))) - (2 * (hI h2 a0 3))) → hK h3 a0 = 5 ∧ hK h3 a0 = 5 ∧ hK h3 a0 = 5 ∧ ∀ h4, h4 = sI h3 a0 0 ((hI h3 a0 0) - (hI h3 a0 2)) → hK h4 a0 = 5 ∧ hK h4 a0 = 5 ∧ hK h4 a0 = 5 ∧ ∀ h5, h5 = sI h4 a0 1 ((hI h4 a0 1) - (hI h4 a0 3)) → hK h5 a0 = 5 ∧ hK h5 a0 = 5 ∧ hK h5 a0 = 5 ∧ ∀ h6, h6 = sI h5 a0 5 ((hI h5 a0 5) + (hI h5 a0 2)) → hK h6 a0 = 5 ∧ hK h6 a0 = 5 ∧ hK h6 a0 = 5 ∧ ∀ h7, h7 = sI h6 a0 6 ((hI h6 a0 6) + (hI h6 a0 3)) → hK h7 a0 = 5 ∧ hK h7 a0 = 5 ∧ hK h7 a0 = 5 ∧ ∀ h8, h8 = sI h7 a0 7 ((hI h7 a0 7) + (hI h7 a0 4)) → K h8
def V_X4_init (a0 : Nat) (h : Hp) (K : Hp → Prop) : Prop := a0 ≠ 0 ∧ hK h a0 = 5 ∧ ∀ h1, h1 = sI h a0 0 0 → hK h1 a0 = 5 ∧ ∀ h2, h2 = sI h1 a0 1 0 → hK h2 a0 = 5 ∧ ∀ h3, h3 = sI h2 a0 2 0 → hK h3 a0 = 5 ∧ ∀ h4, h4 = sI h3 a0 3 0 → hK h4 a0 = 5 ∧ ∀ h5, h5 = sI h4 a0 4 0 → hK h5 a0 = 5 ∧ ∀ h6, h6 = sI h5 a0 5 0 → hK h6 a0 = 5 ∧ ∀ h7, h7 = sI h6 a0 6 0 → hK h7 a0 = 5 ∧ ∀ h8, h8 = sI h7 a0 7 0 → K h8
def V_X4_pieceCount (a0 : Nat) (h : Hp) (K : Int32 → Hp → Prop) : Prop := hK h a0 = 5 ∧ hK h a0 = 5 ∧ hK h a0 = 5 ∧ K (((hI h a0 2) + (hI h a0 3)) + (hI h a0 4)) h
def V_X5_findJob_28 (K : Nat → Hp → Prop) (s0 : Nat) (h : Hp) : Prop := K s0 h
def V_X5_findJob_27 (K : Nat → Hp → Prop) (h : Hp) : Prop := V_X5_findJob_28 K 0 h
def V_X5_findJob (a0 : Nat) (a1 : Int32) (h : Hp) (K : Nat → Hp → Prop) : Prop := (a1 < 0 → V_X5_findJob_27 K  h) ∧ (¬ (a1 < 0) → hK h a0 = 6 ∧ ((hI h a0 4) ≤ a1 → V_X5_findJob_27 K  h) ∧ (¬ ((hI h a0 4) ≤ a1) → (12 ≤ a1 → V_X5_findJob_27 K  h) ∧ (¬ (12 ≤ a1) → hK h a0 = 6 ∧ hK h (hR h a0 2) = 22 ∧ vp_in a1 (hL h (hR h a0 2)) ∧ V_X5_findJob_28 K (hR h (hR h a0 2) (ix a1)) h)))
def V_X5_allDaysLate_36 (K : Int32 → Hp → Prop) (C4 : Nat → Int32 → Int32 → Hp → Prop) (a0 : Nat) (a1 : Int32) (a2 : Int32) (h : Hp) : Prop := C4 a0 a1 (a2 + 1) h
def V_X5_allDaysLate_4 (K : Int32 → Hp → Prop) : Nat → Nat → Int32 → Int32 → Hp → Prop
  | 0, _, _, _, _ => False
  | n + 1, a0, a1, a2, h => (12 ≤ a2 → K a1 h) ∧ (¬ (12 ≤ a2) → hK h a0 = 6 ∧ V_X5_findJob a0 a2 h (fun r1 h1 => (r1 = 0 → V_X5_allDaysLate_36 K (V_X5_allDaysLate_4 K n) a0 a1 a2 h1) ∧ (¬ r1 = 0 → hK h1 r1 = 2 ∧ ((hI h1 r1 2) = (-5) → V_X5_allDaysLate_36 K (V_X5_allDaysLate_4 K n) a0 a1 a2 h1) ∧ (¬ (hI h1 r1 2) = (-5) → hK h1 r1 = 2 ∧ V_X1_daysLate r1 h1 (fun r2 h2 => V_X5_allDaysLate_36 K (V_X5_allDaysLate_4 K n) a0 (a1 + r2) a2 h2)))))
def V_X5_allDaysLate (a0 : Nat) (h : Hp) (K : Int32 → Hp → Prop) : Prop := ∃ n9, V_X5_allDaysLate_4 K n9 a0 0 0 h
def V_X5_copyFrom_33 (K : Hp → Prop) : Nat → Nat → Nat → Int32 → Hp → Prop
  | 0, _, _, _, _ => False
  | n + 1, a0, a1, a2, h => (12 ≤ a2 → hK h a1 = 6 ∧ hK h a0 = 6 ∧ ∀ h1, h1 = sI h a0 3 (hI h a1 3) → hK h1 a1 = 6 ∧ hK h1 a0 = 6 ∧ ∀ h2, h2 = sI h1 a0 4 (hI h1 a1 4) → hK h2 a1 = 6 ∧ hK h2 a0 = 6 ∧ ∀ h3, h3 = sI h2 a0 5 (hI h2 a1 5) → hK h3 a1 = 6 ∧ hK h3 a0 = 6 ∧ ∀ h4, h4 = sI h3 a0 6 (hI h3 a1 6) → hK h4 a1 = 6 ∧ hK h4 a0 = 6 ∧ ∀ h5, h5 = sI h4 a0 7 (hI h4 a1 7) → hK h5 a1 = 6 ∧ hK h5 a0 = 6 ∧ ∀ h6, h6 = sI h5 a0 8 (hI h5 a1 8) → hK h6 a1 = 6 ∧ hK h6 a0 = 6 ∧ ∀ h7, h7 = sI h6 a0 9 (hI h6 a1 9) → hK h7 a1 = 6 ∧ hK h7 a0 = 6 ∧ ∀ h8, h8 = sI h7 a0 10 (hI h7 a1 10) → K h8) ∧ (¬ (12 ≤ a2) → hK h a0 = 6 ∧ hK h a1 = 6 ∧ hK h (hR h a1 2) = 22 ∧ vp_in a2 (hL h (hR h a1 2)) ∧ hK h (hR h a0 2) = 22 ∧ vp_in a2 (hL h (hR h a0 2)) ∧ ((hR h (hR h a1 2) (ix a2)) = 0 ∨ hK h (hR h (hR h a1 2) (ix a2)) = 2) ∧ ∀ h1, h1 = sR h (hR h a0 2) (ix a2) (hR h (hR h a1 2) (ix a2)) → V_X5_copyFrom_33 K n a0 a1 (a2 + 1) h1)
def V_X5_copyFrom (a0 : Nat) (a1 : Nat) (h : Hp) (K : Hp → Prop) : Prop := hK h a1 = 6 ∧ hK h a0 = 6 ∧ hK h (hR h a1 0) = 20 ∧ hK h (hR h a0 0) = 20 ∧ ¬ 0 < 0 ∧ ¬ 0 < 0 ∧ ¬ 174 < 0 ∧ ix 0 + ix 174 ≤ hL h (hR h a1 0) ∧ ix 0 + ix 174 ≤ hL h (hR h a0 0) ∧ ∀ h1, h1 = cpI h (hR h a1 0) (ix 0) (hR h a0 0) (ix 0) (ix 174) → hK h1 a1 = 6 ∧ hK h1 a0 = 6 ∧ hK h1 (hR h1 a1 1) = 20 ∧ hK h1 (hR h1 a0 1) = 20 ∧ ¬ 0 < 0 ∧ ¬ 0 < 0 ∧ ¬ 29 < 0 ∧ ix 0 + ix 29 ≤ hL h1 (hR h1 a1 1) ∧ ix 0 + ix 29 ≤ hL h1 (hR h1 a0 1) ∧ ∀ h2, h2 = cpI h1 (hR h1 a1 1) (ix 0) (hR h1 a0 1) (ix 0) (ix 29) → ∃ n9, V_X5_copyFrom_33 K n9 a0 a1 0 h2
def V_X5_emptyWornBox_2 (K : Hp → Prop) : Nat → Nat → Int32 → Hp → Prop
  | 0, _, _, _ => False
  | n + 1, a0, a1, h => (29 ≤ a1 → K h) ∧ (¬ (29 ≤ a1) → hK h a0 = 6 ∧ hK h (hR h a0 1) = 20 ∧ vp_in a1 (hL h (hR h a0 1)) ∧ ∀ h1, h1 = sI h (hR h a0 1) (ix a1) 0 → V_X5_emptyWornBox_2 K n a0 (a1 + 1) h1)
def V_X5_emptyWornBox (a0 : Nat) (h : Hp) (K : Hp → Prop) : Prop := ∃ n9, V_X5_emptyWornBox_2 K n9 a0 0 h
def V_X5_held_29 (K : Int32 → Hp → Prop) (s0 : Int32) (h : Hp) : Prop := K s0 h
def V_X5_held_28 (K : Int32 → Hp → Prop) (h : Hp) : Prop := V_X5_held_29 K 0 h
def V_X5_held (a0 : Nat) (a1 : Int32) (a2 : Int32) (h : Hp) (K : Int32 → Hp → Prop) : Prop := V_X6_slotOf a1 a2 h (fun r1 h1 => (r1 < 0 → V_X5_held_28 K  h1) ∧ (¬ (r1 < 0) → hK h1 a0 = 6 ∧ hK h1 (hR h1 a0 0) = 20 ∧ ((nI (hL h1 (hR h1 a0 0))) ≤ r1 → V_X5_held_28 K  h1) ∧ (¬ ((nI (hL h1 (hR h1 a0 0))) ≤ r1) → hK h1 a0 = 6 ∧ hK h1 (hR h1 a0 0) = 20 ∧ vp_in r1 (hL h1 (hR h1 a0 0)) ∧ V_X5_held_29 K (hI h1 (hR h1 a0 0) (ix r1)) h1)))
def V_X5_heldInAll_4 (K : Int32 → Hp → Prop) : Nat → Nat → Int32 → Int32 → Int32 → Hp → Prop
  | 0, _, _, _, _, _ => False
  | n + 1, a0, a1, a2, a3, h => (6 ≤ a3 → K a2 h) ∧ (¬ (6 ≤ a3) → hK h a0 = 6 ∧ V_X5_held a0 a3 a1 h (fun r1 h1 => V_X5_heldInAll_4 K n a0 a1 (a2 + r1) (a3 + 1) h1))
def V_X5_heldInAll (a0 : Nat) (a1 : Int32) (h : Hp) (K : Int32 → Hp → Prop) : Prop := ∃ n9, V_X5_heldInAll_4 K n9 a0 a1 0 0 h
def V_X5_init (a0 : Nat) (h : Hp) (K : Hp → Prop) : Prop := a0 ≠ 0 ∧ ∀ q1, q1 ≠ 0 → hK h q1 = 0 → ∀ h1, h1 = nN h q1 20 174 → hK h1 a0 = 6 ∧ ∀ h2, h2 = sR h1 a0 0 q1 → ∀ q2, q2 ≠ 0 → hK h2 q2 = 0 → ∀ h3, h3 = nN h2 q2 20 29 → hK h3 a0 = 6 ∧ ∀ h4, h4 = sR h3 a0 1 q2 → ∀ q3, q3 ≠ 0 → hK h4 q3 = 0 → ∀ h5, h5 = nN h4 q3 22 12 → hK h5 a0 = 6 ∧ ∀ h6, h6 = sR h5 a0 2 q3 → hK h6 a0 = 6 ∧ ∀ h7, h7 = sI h6 a0 3 0 → hK h7 a0 = 6 ∧ ∀ h8, h8 = sI h7 a0 4 0 → hK h8 a0 = 6 ∧ ∀ h9, h9 = sI h8 a0 5 0 → hK h9 a0 = 6 ∧ ∀ h10, h10 = sI h9 a0 6 0 → hK h10 a0 = 6 ∧ ∀ h11, h11 = sI h10 a0 7 0 → hK h11 a0 = 6 ∧ ∀ h12, h12 = sI h11 a0 8 0 → hK h12 a0 = 6 ∧ ∀ h13, h13 = sI h12 a0 9 0 → hK h13 a0 = 6 ∧ ∀ h14, h14 = sI h13 a0 10 0 → K h14
def V_X5_metalInCases_4 (K : Int32 → Hp → Prop) : Nat → Nat → Int32 → Int32 → Hp → Prop
  | 0, _, _, _, _ => False
  | n + 1, a0, a1, a2, h => (29 ≤ a2 → K a1 h) ∧ (¬ (29 ≤ a2) → hK h a0 = 6 ∧ V_X5_heldInAll a0 a2 h (fun r1 h1 => V_X6_widthOf a2 h1 (fun r2 h2 => V_X5_metalInCases_4 K n a0 (a1 + (r1 * r2)) (a2 + 1) h2)))
def V_X5_metalInCases (a0 : Nat) (h : Hp) (K : Int32 → Hp → Prop) : Prop := ∃ n9, V_X5_metalInCases_4 K n9 a0 0 0 h
def V_X5_metalInFormes_27 (K : Int32 → Hp → Prop) (C4 : Nat → Int32 → Int32 → Hp → Prop) (a0 : Nat) (a1 : Int32) (a2 : Int32) (h : Hp) : Prop := C4 a0 a1 (a2 + 1) h
def V_X5_metalInFormes_4 (K : Int32 → Hp → Prop) : Nat → Nat → Int32 → Int32 → Hp → Prop
  | 0, _, _, _, _ => False
  | n + 1, a0, a1, a2, h => (12 ≤ a2 → K a1 h) ∧ (¬ (12 ≤ a2) → hK h a0 = 6 ∧ V_X5_findJob a0 a2 h (fun r1 h1 => (r1 = 0 → V_X5_metalInFormes_27 K (V_X5_metalInFormes_4 K n) a0 a1 a2 h1) ∧ (¬ r1 = 0 → hK h1 r1 = 2 ∧ V_X1_formeMetal r1 h1 (fun r2 h2 => V_X5_metalInFormes_27 K (V_X5_metalInFormes_4 K n) a0 (a1 + r2) a2 h2))))
def V_X5_metalInFormes (a0 : Nat) (h : Hp) (K : Int32 → Hp → Prop) : Prop := ∃ n9, V_X5_metalInFormes_4 K n9 a0 0 0 h
def V_X5_overdueJobs_44 (K : Int32 → Hp → Prop) (C4 : Nat → Int32 → Int32 → Hp → Prop) (a0 : Nat) (a1 : Int32) (a2 : Int32) (h : Hp) : Prop := C4 a0 a1 (a2 + 1) h
def V_X5_overdueJobs_4 (K : Int32 → Hp → Prop) : Nat → Nat → Int32 → Int32 → Hp → Prop
  | 0, _, _, _, _ => False
  | n + 1, a0, a1, a2, h => (12 ≤ a2 → K a1 h) ∧ (¬ (12 ≤ a2) → hK h a0 = 6 ∧ V_X5_findJob a0 a2 h (fun r1 h1 => (r1 = 0 → V_X5_overdueJobs_44 K (V_X5_overdueJobs_4 K n) a0 a1 a2 h1) ∧ (¬ r1 = 0 → hK h1 r1 = 2 ∧ V_X1_isOpen r1 h1 (fun r2 h2 => (r2 = 0 → V_X5_overdueJobs_44 K (V_X5_overdueJobs_4 K n) a0 a1 a2 h2) ∧ (¬ r2 = 0 → hK h2 r1 = 2 ∧ hK h2 (hR h2 r1 0) = 4 ∧ hK h2 a0 = 6 ∧ ((hI h2 a0 6) ≤ (hI h2 (hR h2 r1 0) 2) → V_X5_overdueJobs_44 K (V_X5_overdueJobs_4 K n) a0 a1 a2 h2) ∧ (¬ ((hI h2 a0 6) ≤ (hI h2 (hR h2 r1 0) 2)) → V_X5_overdueJobs_44 K (V_X5_overdueJobs_4 K n) a0 (a1 + 1) a2 h2))))))
def V_X5_overdueJobs (a0 : Nat) (h : Hp) (K : Int32 → Hp → Prop) : Prop := ∃ n9, V_X5_overdueJobs_4 K n9 a0 0 0 h
def V_X5_put_33 (K : Hp → Prop) (h : Hp) : Prop := K h
def V_X5_put (a0 : Nat) (a1 : Int32) (a2 : Int32) (a3 : Int32) (h : Hp) (K : Hp → Prop) : Prop := V_X6_slotOf a1 a2 h (fun r1 h1 => (r1 < 0 → V_X5_put_33 K  h1) ∧ (¬ (r1 < 0) → hK h1 a0 = 6 ∧ hK h1 (hR h1 a0 0) = 20 ∧ ((nI (hL h1 (hR h1 a0 0))) ≤ r1 → V_X5_put_33 K  h1) ∧ (¬ ((nI (hL h1 (hR h1 a0 0))) ≤ r1) → hK h1 a0 = 6 ∧ hK h1 (hR h1 a0 0) = 20 ∧ vp_in r1 (hL h1 (hR h1 a0 0)) ∧ hK h1 (hR h1 a0 0) = 20 ∧ vp_in r1 (hL h1 (hR h1 a0 0)) ∧ ∀ h2, h2 = sI h1 (hR h1 a0 0) (ix r1) ((hI h1 (hR h1 a0 0) (ix r1)) + a3) → V_X5_put_33 K  h2)))
def V_X5_putJob_17 (K : Hp → Prop) (h : Hp) : Prop := K h
def V_X5_putJob (a0 : Nat) (a1 : Int32) (a2 : Nat) (h : Hp) (K : Hp → Prop) : Prop := (a1 < 0 → V_X5_putJob_17 K  h) ∧ (¬ (a1 < 0) → (12 ≤ a1 → V_X5_putJob_17 K  h) ∧ (¬ (12 ≤ a1) → hK h a0 = 6 ∧ hK h (hR h a0 2) = 22 ∧ vp_in a1 (hL h (hR h a0 2)) ∧ (a2 = 0 ∨ hK h a2 = 2) ∧ ∀ h1, h1 = sR h (hR h a0 2) (ix a1) a2 → V_X5_putJob_17 K  h1))
def V_X5_wornMetal_4 (K : Int32 → Hp → Prop) : Nat → Nat → Int32 → Int32 → Hp → Prop
  | 0, _, _, _, _ => False
  | n + 1, a0, a1, a2, h => (29 ≤ a2 → K a1 h) ∧ (¬ (29 ≤ a2) → hK h a0 = 6 ∧ hK h (hR h a0 1) = 20 ∧ vp_in a2 (hL h (hR h a0 1)) ∧ V_X6_widthOf a2 h (fun r1 h1 => V_X5_wornMetal_4 K n a0 (a1 + ((hI h (hR h a0 1) (ix a2)) * r1)) (a2 + 1) h1))
def V_X5_wornMetal (a0 : Nat) (h : Hp) (K : Int32 → Hp → Prop) : Prop := ∃ n9, V_X5_wornMetal_4 K n9 a0 0 0 h
def V_X5_wornPieces_4 (K : Int32 → Hp → Prop) : Nat → Nat → Int32 → Int32 → Hp → Prop
  | 0, _, _, _, _ => False
  | n + 1, a0, a1, a2, h => (29 ≤ a2 → K a1 h) ∧ (¬ (29 ≤ a2) → hK h a0 = 6 ∧ hK h (hR h a0 1) = 20 ∧ vp_in a2 (hL h (hR h a0 1)) ∧ V_X5_wornPieces_4 K n a0 (a1 + (hI h (hR h a0 1) (ix a2))) (a2 + 1) h)
def V_X5_wornPieces (a0 : Nat) (h : Hp) (K : Int32 → Hp → Prop) : Prop := ∃ n9, V_X5_wornPieces_4 K n9 a0 0 0 h
def V_X6_dropOldestState_9 (K : Hp → Prop) : Nat → Nat → Nat → Int32 → Hp → Prop
  | 0, _, _, _, _ => False
  | n + 1, a0, a1, a2, h => hK h a0 = 7 ∧ hK h (hR h a0 2) = 23 ∧ ((nI (hL h (hR h a0 2))) ≤ a2 → hK h a0 = 7 ∧ hK h a0 = 7 ∧ hK h (hR h a0 2) = 23 ∧ hK h (hR h a0 2) = 23 ∧ vp_in ((nI (hL h (hR h a0 2))) - 1) (hL h (hR h a0 2)) ∧ (a1 = 0 ∨ hK h a1 = 6) ∧ ∀ h1, h1 = sR h (hR h a0 2) (ix ((nI (hL h (hR h a0 2))) - 1)) a1 → hK h1 a0 = 7 ∧ hK h1 a0 = 7 ∧ ∀ h2, h2 = sI h1 a0 3 ((hI h1 a0 3) - 1) → K h2) ∧ (¬ ((nI (hL h (hR h a0 2))) ≤ a2) → hK h a0 = 7 ∧ hK h a0 = 7 ∧ hK h (hR h a0 2) = 23 ∧ vp_in a2 (hL h (hR h a0 2)) ∧ hK h (hR h a0 2) = 23 ∧ vp_in (a2 - 1) (hL h (hR h a0 2)) ∧ ((hR h (hR h a0 2) (ix a2)) = 0 ∨ hK h (hR h (hR h a0 2) (ix a2)) = 6) ∧ ∀ h1, h1 = sR h (hR h a0 2) (ix (a2 - 1)) (hR h (hR h a0 2) (ix a2)) → V_X6_dropOldestState_9 K n a0 a1 (a2 + 1) h1)
def V_X6_dropOldestState (a0 : Nat) (h : Hp) (K : Hp → Prop) : Prop := hK h a0 = 7 ∧ hK h (hR h a0 2) = 23 ∧ vp_in 0 (hL h (hR h a0 2)) ∧ ∃ n9, V_X6_dropOldestState_9 K n9 a0 (hR h (hR h a0 2) (ix 0)) 1 h
def V_X6_recordState_31 (K : Hp → Prop) (h : Hp) : Prop := K h
def V_X6_recordState_60 (K : Hp → Prop) (a0 : Nat) (h : Hp) : Prop := hK h a0 = 7 ∧ hK h a0 = 7 ∧ hK h (hR h a0 2) = 23 ∧ vp_in (hI h a0 3) (hL h (hR h a0 2)) ∧ hK h a0 = 7 ∧ hK h (hR h (hR h a0 2) (ix (hI h a0 3))) = 6 ∧ V_X5_copyFrom (hR h (hR h a0 2) (ix (hI h a0 3))) (hR h a0 1) h (fun h1 => hK h1 a0 = 7 ∧ hK h1 a0 = 7 ∧ ∀ h2, h2 = sI h1 a0 3 ((hI h1 a0 3) + 1) → K h2)
def V_X6_recordState_12 (K : Hp → Prop) (a0 : Nat) (h : Hp) : Prop := hK h a0 = 7 ∧ ((hI h a0 3) < 0 → V_X6_recordState_31 K  h) ∧ (¬ ((hI h a0 3) < 0) → hK h a0 = 7 ∧ hK h a0 = 7 ∧ hK h (hR h a0 2) = 23 ∧ ((hI h a0 3) < (nI (hL h (hR h a0 2))) → hK h a0 = 7 ∧ hK h a0 = 7 ∧ hK h (hR h a0 2) = 23 ∧ vp_in (hI h a0 3) (hL h (hR h a0 2)) ∧ (¬ (hR h (hR h a0 2) (ix (hI h a0 3))) = 0 → V_X6_recordState_60 K a0 h) ∧ ((hR h (hR h a0 2) (ix (hI h a0 3))) = 0 → hK h a0 = 7 ∧ hK h a0 = 7 ∧ ∀ q1, q1 ≠ 0 → hK h q1 = 0 → ∀ h1, h1 = nN h q1 6 0 → q1 ≠ 0 ∧ V_X5_init q1 h1 (fun h2 => hK h2 (hR h a0 2) = 23 ∧ vp_in (hI h a0 3) (hL h2 (hR h a0 2)) ∧ (q1 = 0 ∨ hK h2 q1 = 6) ∧ ∀ h3, h3 = sR h2 (hR h a0 2) (ix (hI h a0 3)) q1 → V_X6_recordState_60 K a0 h3))) ∧ (¬ ((hI h a0 3) < (nI (hL h (hR h a0 2)))) → V_X6_recordState_31 K  h))
def V_X6_recordState (a0 : Nat) (h : Hp) (K : Hp → Prop) : Prop := hK h a0 = 7 ∧ ((hI h a0 3) < 5 → V_X6_recordState_12 K a0 h) ∧ (¬ ((hI h a0 3) < 5) → hK h a0 = 7 ∧ V_X6_dropOldestState a0 h (fun h1 => V_X6_recordState_12 K a0 h1))
def V_X6_addCase (a0 : Nat) (h : Hp) (K : Int32 → Hp → Prop) : Prop := hK h a0 = 7 ∧ hK h (hR h a0 1) = 6 ∧ ((hI h (hR h a0 1) 3) < 6 → hK h a0 = 7 ∧ V_X6_recordState a0 h (fun h1 => hK h1 a0 = 7 ∧ hK h1 (hR h1 a0 1) = 6 ∧ hK h1 (hR h1 a0 1) = 6 ∧ ∀ h2, h2 = sI h1 (hR h1 a0 1) 3 ((hI h1 (hR h1 a0 1) 3) + 1) → hK h2 a0 = 7 ∧ hK h2 (hR h2 a0 1) = 6 ∧ K ((hI h2 (hR h2 a0 1) 3) - 1) h2)) ∧ (¬ ((hI h (hR h a0 1) 3) < 6) → K (-3) h)
def V_X6_buy_12 (K : Int32 → Hp → Prop) (h : Hp) : Prop := K (-2) h
def V_X6_buy (a0 : Nat) (a1 : Int32) (h : Hp) (K : Int32 → Hp → Prop) : Prop := (a1 < 1 → V_X6_buy_12 K  h) ∧ (¬ (a1 < 1) → (a1 ≤ 20000 → hK h a0 = 7 ∧ hK h (hR h a0 1) = 6 ∧ (((hI h (hR h a0 1) 5) + a1) ≤ 100000 → hK h a0 = 7 ∧ V_X6_recordState a0 h (fun h1 => hK h1 a0 = 7 ∧ hK h1 (hR h1 a0 1) = 6 ∧ hK h1 (hR h1 a0 1) = 6 ∧ ∀ h2, h2 = sI h1 (hR h1 a0 1) 5 ((hI h1 (hR h1 a0 1) 5) + a1) → hK h2 a0 = 7 ∧ hK h2 (hR h2 a0 1) = 6 ∧ hK h2 (hR h2 a0 1) = 6 ∧ ∀ h3, h3 = sI h2 (hR h2 a0 1) 7 ((hI h2 (hR h2 a0 1) 7) + a1) → hK h3 a0 = 7 ∧ hK h3 (hR h3 a0 1) = 6 ∧ K (hI h3 (hR h3 a0 1) 5) h3)) ∧ (¬ (((hI h (hR h a0 1) 5) + a1) ≤ 100000) → K (-3) h)) ∧ (¬ (a1 ≤ 20000) → V_X6_buy_12 K  h))
def V_X6_giveBack_45 (K : Int32 → Hp → Prop) (C5 : Nat → Nat → Int32 → Int32 → Int32 → Hp → Prop) (C15 : Nat → Nat → Int32 → Int32 → Int32 → Int32 → Hp → Prop) (a0 : Nat) (a1 : Nat) (a2 : Int32) (a3 : Int32) (a4 : Int32) (a5 : Int32) (a6 : Int32) (s0 : Int32) (h : Hp) : Prop := hK h a0 = 7 ∧ hK h (hR h a0 1) = 6 ∧ V_X5_held (hR h a0 1) a4 a5 h (fun r1 h1 => hK h1 a0 = 7 ∧ hK h1 (hR h1 a0 1) = 6 ∧ V_X5_put (hR h1 a0 1) a4 a5 (if 99 - r1 < a6 - s0 then 99 - r1 else a6 - s0) h1 (fun h2 => hK h2 a0 = 7 ∧ hK h2 (hR h2 a0 1) = 6 ∧ hK h2 (hR h2 (hR h2 a0 1) 1) = 20 ∧ vp_in a5 (hL h2 (hR h2 (hR h2 a0 1) 1)) ∧ hK h2 (hR h2 (hR h2 a0 1) 1) = 20 ∧ vp_in a5 (hL h2 (hR h2 (hR h2 a0 1) 1)) ∧ ∀ h3, h3 = sI h2 (hR h2 (hR h2 a0 1) 1) (ix a5) ((hI h2 (hR h2 (hR h2 a0 1) 1) (ix a5)) + (a6 - (if 99 - r1 < a6 - s0 then 99 - r1 else a6 - s0))) → C15 a0 a1 a2 (a3 + (a6 - (if 99 - r1 < a6 - s0 then 99 - r1 else a6 - s0))) a4 (a5 + 1) h3))
def V_X6_giveBack_15 (K : Int32 → Hp → Prop) (C5 : Nat → Nat → Int32 → Int32 → Int32 → Hp → Prop) : Nat → Nat → Nat → Int32 → Int32 → Int32 → Int32 → Hp → Prop
  | 0, _, _, _, _, _, _, _ => False
  | n + 1, a0, a1, a2, a3, a4, a5, h => (29 ≤ a5 → C5 a0 a1 a2 a3 (a4 + 1) h) ∧ (¬ (29 ≤ a5) → hK h a1 = 2 ∧ V_X1_takenFrom a1 a4 a5 h (fun r1 h1 => (a2 = 0 → V_X6_giveBack_45 K C5 (V_X6_giveBack_15 K C5 n) a0 a1 a2 a3 a4 a5 r1 0 h1) ∧ (¬ a2 = 0 → V_X6_giveBack_45 K C5 (V_X6_giveBack_15 K C5 n) a0 a1 a2 a3 a4 a5 r1 (r1 / 8) h1)))
def V_X6_giveBack_5 (K : Int32 → Hp → Prop) : Nat → Nat → Nat → Int32 → Int32 → Int32 → Hp → Prop
  | 0, _, _, _, _, _, _ => False
  | n + 1, a0, a1, a2, a3, a4, h => (6 ≤ a4 → K a3 h) ∧ (¬ (6 ≤ a4) → ∃ n9, V_X6_giveBack_15 K (V_X6_giveBack_5 K n) n9 a0 a1 a2 a3 a4 0 h)
def V_X6_giveBack (a0 : Nat) (a1 : Nat) (a2 : Int32) (h : Hp) (K : Int32 → Hp → Prop) : Prop := ∃ n9, V_X6_giveBack_5 K n9 a0 a1 a2 0 0 h
def V_X6_cancel (a0 : Nat) (a1 : Int32) (h : Hp) (K : Int32 → Hp → Prop) : Prop := hK h a0 = 7 ∧ hK h (hR h a0 1) = 6 ∧ V_X5_findJob (hR h a0 1) a1 h (fun r1 h1 => (¬ r1 = 0 → hK h1 r1 = 2 ∧ V_X1_isOpen r1 h1 (fun r2 h2 => (¬ r2 = 0 → hK h2 a0 = 7 ∧ V_X6_recordState a0 h2 (fun h3 => hK h3 a0 = 7 ∧ V_X6_giveBack a0 r1 0 h3 (fun r3 h4 => hK h4 a0 = 7 ∧ ∀ q1, q1 ≠ 0 → hK h4 q1 = 0 → ∀ h5, h5 = nN h4 q1 2 0 → hK h5 r1 = 2 ∧ ∀ q2, q2 ≠ 0 → hK h5 q2 = 0 → ∀ h6, h6 = nN h5 q2 20 0 → q1 ≠ 0 ∧ V_X1_init q1 (hR h5 r1 0) 4 (-5) q2 h6 (fun h7 => hK h7 (hR h4 a0 1) = 6 ∧ V_X5_putJob (hR h4 a0 1) a1 q1 h7 (fun h8 => hK h8 r1 = 2 ∧ V_X1_formePieces r1 h8 (fun r4 h9 => K (r4 - r3) h9)))))) ∧ (r2 = 0 → K (-4) h2))) ∧ (r1 = 0 → K (-1) h1))
def V_X6_isCase_26 (K : Int32 → Hp → Prop) (s0 : Int32) (h : Hp) : Prop := (s0 = 0 ∨ s0 = 1) ∧ K s0 h
def V_X6_isCase_25 (K : Int32 → Hp → Prop) (h : Hp) : Prop := V_X6_isCase_26 K 0 h
def V_X6_isCase (a0 : Nat) (a1 : Int32) (h : Hp) (K : Int32 → Hp → Prop) : Prop := (a1 < 0 → V_X6_isCase_25 K  h) ∧ (¬ (a1 < 0) → hK h a0 = 7 ∧ hK h (hR h a0 1) = 6 ∧ ((hI h (hR h a0 1) 3) ≤ a1 → V_X6_isCase_25 K  h) ∧ (¬ ((hI h (hR h a0 1) 3) ≤ a1) → (6 ≤ a1 → V_X6_isCase_25 K  h) ∧ (¬ (6 ≤ a1) → V_X6_isCase_26 K 1 h)))
def V_X6_isSort_15 (K : Int32 → Hp → Prop) (s0 : Int32) (h : Hp) : Prop := (s0 = 0 ∨ s0 = 1) ∧ K s0 h
def V_X6_isSort_14 (K : Int32 → Hp → Prop) (h : Hp) : Prop := V_X6_isSort_15 K 0 h
def V_X6_isSort (a0 : Int32) (h : Hp) (K : Int32 → Hp → Prop) : Prop := (a0 < 0 → V_X6_isSort_14 K  h) ∧ (¬ (a0 < 0) → (29 ≤ a0 → V_X6_isSort_14 K  h) ∧ (¬ (29 ≤ a0) → V_X6_isSort_15 K 1 h))
def V_X6_castWanted_93 (K : Int32 → Hp → Prop) : Nat → Nat → Int32 → Int32 → Int32 → Int32 → Hp → Prop
  | 0, _, _, _, _, _, _ => False
  | n + 1, a0, a1, a2, a3, a4, h => (29 ≤ a4 → hK h a0 = 7 ∧ hK h (hR h a0 1) = 6 ∧ hK h (hR h a0 1) = 6 ∧ ∀ h1, h1 = sI h (hR h a0 1) 5 ((hI h (hR h a0 1) 5) - a2) → hK h1 a0 = 7 ∧ hK h1 (hR h1 a0 1) = 6 ∧ hK h1 (hR h1 a0 1) = 6 ∧ ∀ h2, h2 = sI h1 (hR h1 a0 1) 9 ((hI h1 (hR h1 a0 1) 9) + a3) → K a3 h2) ∧ (¬ (29 ≤ a4) → hK h a0 = 7 ∧ hK h a0 = 7 ∧ hK h (hR h a0 8) = 20 ∧ vp_in a4 (hL h (hR h a0 8)) ∧ hK h (hR h a0 1) = 6 ∧ V_X5_put (hR h a0 1) a1 a4 (hI h (hR h a0 8) (ix a4)) h (fun h1 => V_X6_castWanted_93 K n a0 a1 a2 a3 (a4 + 1) h1))
def V_X6_castWanted_7 (K : Int32 → Hp → Prop) : Nat → Nat → Int32 → Int32 → Int32 → Int32 → Hp → Prop
  | 0, _, _, _, _, _, _ => False
  | n + 1, a0, a1, a2, a3, a4, h => (29 ≤ a4 → hK h a0 = 7 ∧ hK h (hR h a0 1) = 6 ∧ (a2 ≤ (hI h (hR h a0 1) 5) → hK h a0 = 7 ∧ V_X6_recordState a0 h (fun h1 => ∃ n9, V_X6_castWanted_93 K n9 a0 a1 a2 a3 0 h1)) ∧ (¬ (a2 ≤ (hI h (hR h a0 1) 5)) → K (-4) h)) ∧ (¬ (29 ≤ a4) → hK h a0 = 7 ∧ hK h (hR h a0 1) = 6 ∧ V_X5_held (hR h a0 1) a1 a4 h (fun r1 h1 => hK h1 a0 = 7 ∧ hK h1 (hR h1 a0 8) = 20 ∧ vp_in a4 (hL h1 (hR h1 a0 8)) ∧ ((r1 + (hI h1 (hR h1 a0 8) (ix a4))) ≤ 99 → hK h1 a0 = 7 ∧ hK h1 (hR h1 a0 8) = 20 ∧ vp_in a4 (hL h1 (hR h1 a0 8)) ∧ V_X6_widthOf a4 h1 (fun r2 h2 => hK h2 a0 = 7 ∧ hK h2 (hR h2 a0 8) = 20 ∧ vp_in a4 (hL h2 (hR h2 a0 8)) ∧ V_X6_castWanted_7 K n a0 a1 (a2 + ((hI h1 (hR h1 a0 8) (ix a4)) * r2)) (a3 + (hI h2 (hR h2 a0 8) (ix a4))) (a4 + 1) h2)) ∧ (¬ ((r1 + (hI h1 (hR h1 a0 8) (ix a4))) ≤ 99) → K (-3) h1)))
def V_X6_castWanted (a0 : Nat) (a1 : Int32) (h : Hp) (K : Int32 → Hp → Prop) : Prop := ∃ n9, V_X6_castWanted_7 K n9 a0 a1 0 0 0 h
def V_X6_cast_15 (K : Int32 → Hp → Prop) (h : Hp) : Prop := K (-1) h
def V_X6_cast_28 (K : Int32 → Hp → Prop) (h : Hp) : Prop := K (-2) h
def V_X6_cast_58 (K : Int32 → Hp → Prop) (C34 : Nat → Int32 → Int32 → Int32 → Int32 → Hp → Prop) (a0 : Nat) (a1 : Int32) (a2 : Int32) (a3 : Int32) (a4 : Int32) (s0 : Nat) (s1 : Int32) (s2 : Int32) (h : Hp) : Prop := hK h s0 = 20 ∧ vp_in s1 (hL h s0) ∧ ∀ h1, h1 = sI h s0 (ix s1) s2 → C34 a0 a1 a2 a3 (a4 + 1) h1
def V_X6_cast_91 (K : Int32 → Hp → Prop) (s0 : Int32) (h : Hp) : Prop := K s0 h
def V_X6_cast_34 (K : Int32 → Hp → Prop) : Nat → Nat → Int32 → Int32 → Int32 → Int32 → Hp → Prop
  | 0, _, _, _, _, _, _ => False
  | n + 1, a0, a1, a2, a3, a4, h => (29 ≤ a4 → hK h a0 = 7 ∧ V_X6_castWanted a0 a1 h (fun r1 h1 => (0 ≤ r1 → hK h1 a0 = 7 ∧ hK h1 (hR h1 a0 1) = 6 ∧ V_X5_held (hR h1 a0 1) a1 a2 h1 (fun r2 h2 => V_X6_cast_91 K r2 h2)) ∧ (¬ (0 ≤ r1) → V_X6_cast_91 K r1 h1))) ∧ (¬ (29 ≤ a4) → hK h a0 = 7 ∧ (¬ a4 = a2 → V_X6_cast_58 K (V_X6_cast_34 K n) a0 a1 a2 a3 a4 (hR h a0 8) a4 0 h) ∧ (a4 = a2 → V_X6_cast_58 K (V_X6_cast_34 K n) a0 a1 a2 a3 a4 (hR h a0 8) a4 a3 h))
def V_X6_cast (a0 : Nat) (a1 : Int32) (a2 : Int32) (a3 : Int32) (h : Hp) (K : Int32 → Hp → Prop) : Prop := hK h a0 = 7 ∧ V_X6_isCase a0 a1 h (fun r1 h1 => (r1 = 0 → V_X6_cast_15 K  h1) ∧ (¬ r1 = 0 → V_X6_isSort a2 h1 (fun r2 h2 => (¬ r2 = 0 → (a3 < 1 → V_X6_cast_28 K  h2) ∧ (¬ (a3 < 1) → (a3 ≤ 99 → ∃ n9, V_X6_cast_34 K n9 a0 a1 a2 a3 0 h2) ∧ (¬ (a3 ≤ 99) → V_X6_cast_28 K  h2))) ∧ (r2 = 0 → V_X6_cast_15 K  h2))))
def V_X6_castFount_21 (K : Int32 → Hp → Prop) (h : Hp) : Prop := K (-2) h
def V_X6_castFount_50 (K : Int32 → Hp → Prop) (C26 : Nat → Int32 → Int32 → Int32 → Hp → Prop) (a0 : Nat) (a1 : Int32) (a2 : Int32) (a3 : Int32) (s0 : Nat) (s1 : Int32) (s2 : Int32) (h : Hp) : Prop := hK h s0 = 20 ∧ vp_in s1 (hL h s0) ∧ ∀ h1, h1 = sI h s0 (ix s1) s2 → C26 a0 a1 a2 (a3 + 1) h1
def V_X6_castFount_26 (K : Int32 → Hp → Prop) : Nat → Nat → Int32 → Int32 → Int32 → Hp → Prop
  | 0, _, _, _, _, _ => False
  | n + 1, a0, a1, a2, a3, h => (29 ≤ a3 → hK h a0 = 7 ∧ V_X6_castWanted a0 a1 h (fun r1 h1 => K r1 h1)) ∧ (¬ (29 ≤ a3) → hK h a0 = 7 ∧ (26 ≤ a3 → V_X6_castFount_50 K (V_X6_castFount_26 K n) a0 a1 a2 a3 (hR h a0 8) a3 (2 * a2) h) ∧ (¬ (26 ≤ a3) → V_X6_castFount_50 K (V_X6_castFount_26 K n) a0 a1 a2 a3 (hR h a0 8) a3 a2 h))
def V_X6_castFount (a0 : Nat) (a1 : Int32) (a2 : Int32) (h : Hp) (K : Int32 → Hp → Prop) : Prop := hK h a0 = 7 ∧ V_X6_isCase a0 a1 h (fun r1 h1 => (¬ r1 = 0 → (a2 < 1 → V_X6_castFount_21 K  h1) ∧ (¬ (a2 < 1) → (a2 ≤ 9 → ∃ n9, V_X6_castFount_26 K n9 a0 a1 a2 0 h1) ∧ (¬ (a2 ≤ 9) → V_X6_castFount_21 K  h1))) ∧ (r1 = 0 → K (-1) h1))
def V_X6_reckon_91 (K : Hp → Prop) : Nat → Nat → Nat → Int32 → Hp → Prop
  | 0, _, _, _, _ => False
  | n + 1, a0, a2, a3, h => hK h a2 = 3 ∧ ((hI h a2 7) ≤ a3 → hK h a0 = 7 ∧ hK h a0 = 7 ∧ hK h (hR h a0 5) = 5 ∧ hK h (hR h a0 6) = 20 ∧ vp_in 26 (hL h (hR h a0 6)) ∧ ∀ h1, h1 = sI h (hR h a0 6) (ix 26) (hI h (hR h a0 5) 5) → hK h1 a0 = 7 ∧ hK h1 a0 = 7 ∧ hK h1 (hR h1 a0 5) = 5 ∧ hK h1 (hR h1 a0 6) = 20 ∧ vp_in 27 (hL h1 (hR h1 a0 6)) ∧ ∀ h2, h2 = sI h1 (hR h1 a0 6) (ix 27) (hI h1 (hR h1 a0 5) 6) → hK h2 a0 = 7 ∧ hK h2 a0 = 7 ∧ hK h2 (hR h2 a0 5) = 5 ∧ hK h2 (hR h2 a0 6) = 20 ∧ vp_in 28 (hL h2 (hR h2 a0 6)) ∧ ∀ h3, h3 = sI h2 (hR h2 a0 6) (ix 28) (hI h2 (hR h2 a0 5) 7) → K h3) ∧ (¬ ((hI h a2 7) ≤ a3) → hK h a0 = 7 ∧ hK h a2 = 3 ∧ V_X2_gapWidth a2 a3 h (fun r1 h1 => hK h1 (hR h a0 5) = 5 ∧ V_X4_fill (hR h a0 5) r1 h1 (fun h2 => V_X6_reckon_91 K n a0 a2 (a3 + 1) h2)))
def V_X6_reckon_44 (K : Hp → Prop) : Nat → Nat → Nat → Int32 → Hp → Prop
  | 0, _, _, _, _ => False
  | n + 1, a0, a2, a3, h => (26 ≤ a3 → hK h a0 = 7 ∧ hK h a0 = 7 ∧ hK h (hR h a0 7) = 20 ∧ vp_in 26 (hL h (hR h a0 7)) ∧ hK h a0 = 7 ∧ hK h (hR h a0 7) = 20 ∧ vp_in 27 (hL h (hR h a0 7)) ∧ hK h (hR h a0 5) = 5 ∧ V_X4_begin (hR h a0 5) (hI h (hR h a0 7) (ix 26)) (hI h (hR h a0 7) (ix 27)) h (fun h1 => ∃ n9, V_X6_reckon_91 K n9 a0 a2 0 h1)) ∧ (¬ (26 ≤ a3) → hK h a0 = 7 ∧ hK h a2 = 3 ∧ hK h (hR h a2 1) = 20 ∧ vp_in a3 (hL h (hR h a2 1)) ∧ hK h (hR h a0 6) = 20 ∧ vp_in a3 (hL h (hR h a0 6)) ∧ ∀ h1, h1 = sI h (hR h a0 6) (ix a3) (hI h (hR h a2 1) (ix a3)) → V_X6_reckon_44 K n a0 a2 (a3 + 1) h1)
def V_X6_reckon_10 (K : Hp → Prop) : Nat → Nat → Nat → Nat → Int32 → Hp → Prop
  | 0, _, _, _, _, _ => False
  | n + 1, a0, a1, a2, a3, h => (29 ≤ a3 → ∃ n9, V_X6_reckon_44 K n9 a0 a2 0 h) ∧ (¬ (29 ≤ a3) → hK h a0 = 7 ∧ hK h a0 = 7 ∧ hK h (hR h a0 1) = 6 ∧ V_X5_heldInAll (hR h a0 1) a3 h (fun r1 h1 => hK h1 a1 = 2 ∧ V_X1_takenInAll a1 a3 h1 (fun r2 h2 => hK h2 (hR h a0 7) = 20 ∧ vp_in a3 (hL h2 (hR h a0 7)) ∧ ∀ h3, h3 = sI h2 (hR h a0 7) (ix a3) (r1 + r2) → V_X6_reckon_10 K n a0 a1 a2 (a3 + 1) h3)))
def V_X6_reckon (a0 : Nat) (a1 : Nat) (h : Hp) (K : Hp → Prop) : Prop := hK h a1 = 2 ∧ hK h (hR h a1 0) = 4 ∧ ∃ n9, V_X6_reckon_10 K n9 a0 a1 (hR h (hR h a1 0) 3) 0 h
def V_X6_missingOf (a0 : Nat) (a1 : Int32) (h : Hp) (K : Int32 → Hp → Prop) : Prop := hK h a0 = 7 ∧ hK h (hR h a0 6) = 20 ∧ vp_in a1 (hL h (hR h a0 6)) ∧ hK h a0 = 7 ∧ hK h (hR h a0 7) = 20 ∧ vp_in a1 (hL h (hR h a0 7)) ∧ K (if 0 < (hI h (hR h a0 6) (ix a1)) - (hI h (hR h a0 7) (ix a1)) then (hI h (hR h a0 6) (ix a1)) - (hI h (hR h a0 7) (ix a1)) else 0) h
def V_X6_castMissing_91 (K : Int32 → Hp → Prop) (s0 : Int32) (h : Hp) : Prop := K s0 h
def V_X6_castMissing_35 (K : Int32 → Hp → Prop) : Nat → Nat → Nat → Int32 → Int32 → Hp → Prop
  | 0, _, _, _, _, _ => False
  | n + 1, a0, a2, a3, a4, h => (29 ≤ a4 → (¬ a3 = 0 → hK h a2 = 2 ∧ hK h (hR h a2 0) = 4 ∧ hK h a0 = 7 ∧ V_X6_castWanted a0 (hI h (hR h a2 0) 0) h (fun r1 h1 => V_X6_castMissing_91 K r1 h1)) ∧ (a3 = 0 → V_X6_castMissing_91 K (-5) h)) ∧ (¬ (29 ≤ a4) → hK h a0 = 7 ∧ hK h a0 = 7 ∧ V_X6_missingOf a0 a4 h (fun r1 h1 => hK h1 (hR h a0 8) = 20 ∧ vp_in a4 (hL h1 (hR h a0 8)) ∧ ∀ h2, h2 = sI h1 (hR h a0 8) (ix a4) r1 → hK h2 a0 = 7 ∧ hK h2 (hR h2 a0 8) = 20 ∧ vp_in a4 (hL h2 (hR h2 a0 8)) ∧ V_X6_castMissing_35 K n a0 a2 (a3 + (hI h2 (hR h2 a0 8) (ix a4))) (a4 + 1) h2))
def V_X6_castMissing (a0 : Nat) (a1 : Int32) (h : Hp) (K : Int32 → Hp → Prop) : Prop := hK h a0 = 7 ∧ hK h (hR h a0 1) = 6 ∧ V_X5_findJob (hR h a0 1) a1 h (fun r1 h1 => (¬ r1 = 0 → hK h1 r1 = 2 ∧ ((hI h1 r1 1) = 0 → hK h1 a0 = 7 ∧ V_X6_reckon a0 r1 h1 (fun h2 => ∃ n9, V_X6_castMissing_35 K n9 a0 r1 0 0 h2)) ∧ (¬ (hI h1 r1 1) = 0 → K (-4) h1)) ∧ (r1 = 0 → K (-1) h1))
def V_X6_clearText (a0 : Nat) (h : Hp) (K : Int32 → Hp → Prop) : Prop := hK h a0 = 7 ∧ hK h (hR h a0 0) = 1 ∧ hK h a0 = 7 ∧ hK h (hR h a0 0) = 1 ∧ ∀ h1, h1 = sI h (hR h a0 0) 1 0 → K (hI h (hR h a0 0) 1) h1
def V_X6_count (a0 : Nat) (a1 : Int32) (h : Hp) (K : Int32 → Hp → Prop) : Prop := (a1.toInt = 0 → hK h a0 = 7 ∧ hK h (hR h a0 1) = 6 ∧ K (hI h (hR h a0 1) 3) h) ∧ (a1.toInt = 1 → hK h a0 = 7 ∧ hK h (hR h a0 1) = 6 ∧ K (hI h (hR h a0 1) 4) h) ∧ (a1.toInt = 2 → hK h a0 = 7 ∧ hK h (hR h a0 1) = 6 ∧ K (hI h (hR h a0 1) 5) h) ∧ (a1.toInt = 3 → hK h a0 = 7 ∧ hK h (hR h a0 1) = 6 ∧ V_X5_metalInCases (hR h a0 1) h (fun r1 h1 => K r1 h1)) ∧ (a1.toInt = 4 → hK h a0 = 7 ∧ hK h (hR h a0 1) = 6 ∧ V_X5_metalInFormes (hR h a0 1) h (fun r1 h1 => K r1 h1)) ∧ (a1.toInt = 5 → hK h a0 = 7 ∧ hK h (hR h a0 1) = 6 ∧ V_X5_wornMetal (hR h a0 1) h (fun r1 h1 => K r1 h1)) ∧ (a1.toInt = 6 → hK h a0 = 7 ∧ hK h (hR h a0 1) = 6 ∧ K (hI h (hR h a0 1) 7) h) ∧ (a1.toInt = 7 → hK h a0 = 7 ∧ hK h (hR h a0 1) = 6 ∧ K (hI h (hR h a0 1) 8) h) ∧ (a1.toInt = 8 → hK h a0 = 7 ∧ hK h (hR h a0 1) = 6 ∧ K (hI h (hR h a0 1) 9) h) ∧ (a1.toInt = 9 → hK h a0 = 7 ∧ hK h (hR h a0 1) = 6 ∧ K (hI h (hR h a0 1) 10) h) ∧ (a1.toInt = 10 → hK h a0 = 7 ∧ hK h (hR h a0 1) = 6 ∧ V_X5_wornPieces (hR h a0 1) h (fun r1 h1 => K r1 h1)) ∧ (a1.toInt = 11 → hK h a0 = 7 ∧ hK h (hR h a0 1) = 6 ∧ K (hI h (hR h a0 1) 6) h) ∧ (a1.toInt = 12 → hK h a0 = 7 ∧ hK h (hR h a0 1) = 6 ∧ V_X5_allDaysLate (hR h a0 1) h (fun r1 h1 => K r1 h1)) ∧ (a1.toInt = 13 → hK h a0 = 7 ∧ hK h (hR h a0 1) = 6 ∧ V_X5_overdueJobs (hR h a0 1) h (fun r1 h1 => K r1 h1)) ∧ (a1.toInt = 14 → hK h a0 = 7 ∧ K (hI h a0 3) h) ∧ (a1.toInt = 15 → hK h a0 = 7 ∧ hK h (hR h a0 0) = 1 ∧ K (hI h (hR h a0 0) 1) h) ∧ (a1.toInt < 0 ∨ 15 < a1.toInt → K (-2) h)
def V_X6_distribute (a0 : Nat) (a1 : Int32) (h : Hp) (K : Int32 → Hp → Prop) : Prop := hK h a0 = 7 ∧ hK h (hR h a0 1) = 6 ∧ V_X5_findJob (hR h a0 1) a1 h (fun r1 h1 => (¬ r1 = 0 → hK h1 r1 = 2 ∧ ((hI h1 r1 1) = 2 → hK h1 a0 = 7 ∧ V_X6_recordState a0 h1 (fun h2 => hK h2 a0 = 7 ∧ V_X6_giveBack a0 r1 1 h2 (fun r2 h3 => hK h3 a0 = 7 ∧ ∀ q1, q1 ≠ 0 → hK h3 q1 = 0 → ∀ h4, h4 = nN h3 q1 2 0 → hK h4 r1 = 2 ∧ hK h4 r1 = 2 ∧ ∀ q2, q2 ≠ 0 → hK h4 q2 = 0 → ∀ h5, h5 = nN h4 q2 20 0 → q1 ≠ 0 ∧ V_X1_init q1 (hR h4 r1 0) 3 (hI h4 r1 2) q2 h5 (fun h6 => hK h6 (hR h3 a0 1) = 6 ∧ V_X5_putJob (hR h3 a0 1) a1 q1 h6 (fun h7 => K r2 h7))))) ∧ (¬ (hI h1 r1 1) = 2 → K (-4) h1)) ∧ (r1 = 0 → K (-1) h1))
def V_X6_findPiece_171 (K : Int32 → Hp → Prop) (C77 : Nat → Int32 → Nat → Int32 → Int32 → Int32 → Hp → Prop) (a0 : Nat) (a2 : Int32) (a4 : Nat) (a5 : Int32) (a6 : Int32) (a7 : Int32) (h : Hp) : Prop := C77 a0 a2 a4 a5 a6 (a7 + 1) h
def V_X6_findPiece_225 (K : Int32 → Hp → Prop) (h : Hp) : Prop := K (-5) h
def V_X6_findPiece_77 (K : Int32 → Hp → Prop) : Nat → Nat → Int32 → Nat → Int32 → Int32 → Int32 → Hp → Prop
  | 0, _, _, _, _, _, _, _ => False
  | n + 1, a0, a2, a4, a5, a6, a7, h => hK h a4 = 3 ∧ hK h (hR h a4 2) = 20 ∧ vp_in a2 (hL h (hR h a4 2)) ∧ ((hI h (hR h a4 2) (ix a2)) ≤ a7 → hK h a4 = 3 ∧ hK h (hR h a4 3) = 20 ∧ vp_in a2 (hL h (hR h a4 3)) ∧ ((hI h (hR h a4 3) (ix a2)) ≤ a5 → V_X6_findPiece_225 K  h) ∧ (¬ ((hI h (hR h a4 3) (ix a2)) ≤ a5) → hK h a0 = 7 ∧ hK h a4 = 3 ∧ V_X2_gapWidth a4 a5 h (fun r1 h1 => hK h1 (hR h a0 5) = 5 ∧ V_X4_fill (hR h a0 5) r1 h1 (fun h2 => hK h2 a0 = 7 ∧ hK h2 (hR h2 a0 5) = 5 ∧ V_X4_pieceCount (hR h2 a0 5) h2 (fun r2 h3 => (r2 ≤ a6 → V_X6_findPiece_225 K  h3) ∧ (¬ (r2 ≤ a6) → hK h3 a0 = 7 ∧ hK h3 (hR h3 a0 5) = 5 ∧ V_X4_digitAt (hR h3 a0 5) a6 h3 (fun r3 h4 => K r3 h4))))))) ∧ (¬ ((hI h (hR h a4 2) (ix a2)) ≤ a7) → hK h a4 = 3 ∧ V_X2_signAt a4 a7 h (fun r1 h1 => V_X6_isLetter r1 h1 (fun r2 h2 => (r2 = 0 → hK h2 a0 = 7 ∧ hK h2 a4 = 3 ∧ V_X2_gapWidth a4 a5 h2 (fun r3 h3 => hK h3 (hR h2 a0 5) = 5 ∧ V_X4_fill (hR h2 a0 5) r3 h3 (fun h4 => hK h4 a0 = 7 ∧ hK h4 (hR h4 a0 5) = 5 ∧ V_X4_pieceCount (hR h4 a0 5) h4 (fun r4 h5 => (r4 ≤ a6 → hK h5 a0 = 7 ∧ hK h5 (hR h5 a0 5) = 5 ∧ V_X4_pieceCount (hR h5 a0 5) h5 (fun r5 h6 => V_X6_findPiece_171 K (V_X6_findPiece_77 K n) a0 a2 a4 (a5 + 1) (a6 - r5) a7 h6)) ∧ (¬ (r4 ≤ a6) → hK h5 a0 = 7 ∧ hK h5 (hR h5 a0 5) = 5 ∧ V_X4_digitAt (hR h5 a0 5) a6 h5 (fun r5 h6 => K r5 h6)))))) ∧ (¬ r2 = 0 → (¬ a6 = 0 → V_X6_findPiece_171 K (V_X6_findPiece_77 K n) a0 a2 a4 a5 (a6 + (-1)) a7 h2) ∧ (a6 = 0 → K r1 h2)))))
def V_X6_findPiece_39 (K : Int32 → Hp → Prop) : Nat → Nat → Int32 → Int32 → Nat → Int32 → Int32 → Hp → Prop
  | 0, _, _, _, _, _, _, _ => False
  | n + 1, a0, a2, a3, a4, a5, a6, h => (a5 ≤ a6 → hK h a4 = 3 ∧ V_X2_lineStart a4 a2 h (fun r1 h1 => ∃ n9, V_X6_findPiece_77 K n9 a0 a2 a4 a5 a3 r1 h1)) ∧ (¬ (a5 ≤ a6) → hK h a0 = 7 ∧ hK h a4 = 3 ∧ V_X2_gapWidth a4 a6 h (fun r1 h1 => hK h1 (hR h a0 5) = 5 ∧ V_X4_fill (hR h a0 5) r1 h1 (fun h2 => V_X6_findPiece_39 K n a0 a2 a3 a4 a5 (a6 + 1) h2)))
def V_X6_findPiece (a0 : Nat) (a1 : Nat) (a2 : Int32) (a3 : Int32) (h : Hp) (K : Int32 → Hp → Prop) : Prop := hK h a1 = 2 ∧ hK h (hR h a1 0) = 4 ∧ hK h a0 = 7 ∧ hK h a1 = 2 ∧ V_X1_takenInAll a1 26 h (fun r1 h1 => hK h1 a1 = 2 ∧ V_X1_takenInAll a1 27 h1 (fun r2 h2 => hK h2 (hR h a0 5) = 5 ∧ V_X4_begin (hR h a0 5) r1 r2 h2 (fun h3 => hK h3 (hR h (hR h a1 0) 3) = 3 ∧ V_X2_firstGap (hR h (hR h a1 0) 3) a2 h3 (fun r3 h4 => ∃ n9, V_X6_findPiece_39 K n9 a0 a2 a3 (hR h (hR h a1 0) 3) r3 0 h4))))
def V_X6_gap_65 (K : Int32 → Hp → Prop) (h : Hp) : Prop := K (-5) h
def V_X6_gap (a0 : Nat) (a1 : Int32) (a2 : Int32) (a3 : Int32) (h : Hp) (K : Int32 → Hp → Prop) : Prop := hK h a0 = 7 ∧ hK h (hR h a0 1) = 6 ∧ V_X5_findJob (hR h a0 1) a1 h (fun r1 h1 => (¬ r1 = 0 → hK h1 r1 = 2 ∧ hK h1 (hR h1 r1 0) = 4 ∧ hK h1 (hR h1 (hR h1 r1 0) 3) = 3 ∧ V_X2_hasLine (hR h1 (hR h1 r1 0) 3) a2 h1 (fun r2 h2 => (¬ r2 = 0 → hK h2 (hR h1 (hR h1 r1 0) 3) = 3 ∧ V_X2_firstGap (hR h1 (hR h1 r1 0) 3) a2 h2 (fun r3 h3 => (a3 < 0 → V_X6_gap_65 K  h3) ∧ (¬ (a3 < 0) → hK h3 (hR h1 (hR h1 r1 0) 3) = 3 ∧ hK h3 (hR h3 (hR h1 (hR h1 r1 0) 3) 3) = 20 ∧ vp_in a2 (hL h3 (hR h3 (hR h1 (hR h1 r1 0) 3) 3)) ∧ (a3 < ((hI h3 (hR h3 (hR h1 (hR h1 r1 0) 3) 3) (ix a2)) - r3) → hK h3 (hR h1 (hR h1 r1 0) 3) = 3 ∧ V_X2_gapWidth (hR h1 (hR h1 r1 0) 3) (r3 + a3) h3 (fun r4 h4 => K r4 h4)) ∧ (¬ (a3 < ((hI h3 (hR h3 (hR h1 (hR h1 r1 0) 3) 3) (ix a2)) - r3)) → V_X6_gap_65 K  h3)))) ∧ (r2 = 0 → K (-5) h2))) ∧ (r1 = 0 → K (-1) h1))
def V_X6_init (a0 : Nat) (h : Hp) (K : Hp → Prop) : Prop := a0 ≠ 0 ∧ ∀ q1, q1 ≠ 0 → hK h q1 = 0 → ∀ h1, h1 = nN h q1 1 0 → q1 ≠ 0 ∧ V_X0_init q1 h1 (fun h2 => hK h2 a0 = 7 ∧ ∀ h3, h3 = sR h2 a0 0 q1 → ∀ q2, q2 ≠ 0 → hK h3 q2 = 0 → ∀ h4, h4 = nN h3 q2 6 0 → q2 ≠ 0 ∧ V_X5_init q2 h4 (fun h5 => hK h5 a0 = 7 ∧ ∀ h6, h6 = sR h5 a0 1 q2 → ∀ q3, q3 ≠ 0 → hK h6 q3 = 0 → ∀ h7, h7 = nN h6 q3 23 5 → hK h7 a0 = 7 ∧ ∀ h8, h8 = sR h7 a0 2 q3 → hK h8 a0 = 7 ∧ ∀ h9, h9 = sI h8 a0 3 0 → hK h9 a0 = 7 ∧ ∀ h10, h10 = sR h9 a0 4 0 → ∀ q4, q4 ≠ 0 → hK h10 q4 = 0 → ∀ h11, h11 = nN h10 q4 5 0 → q4 ≠ 0 ∧ V_X4_init q4 h11 (fun h12 => hK h12 a0 = 7 ∧ ∀ h13, h13 = sR h12 a0 5 q4 → ∀ q5, q5 ≠ 0 → hK h13 q5 = 0 → ∀ h14, h14 = nN h13 q5 20 29 → hK h14 a0 = 7 ∧ ∀ h15, h15 = sR h14 a0 6 q5 → ∀ q6, q6 ≠ 0 → hK h15 q6 = 0 → ∀ h16, h16 = nN h15 q6 20 29 → hK h16 a0 = 7 ∧ ∀ h17, h17 = sR h16 a0 7 q6 → ∀ q7, q7 ≠ 0 → hK h17 q7 = 0 → ∀ h18, h18 = nN h17 q7 20 29 → hK h18 a0 = 7 ∧ ∀ h19, h19 = sR h18 a0 8 q7 → K h19)))
def V_X6_job (a0 : Nat) (a1 : Int32) (a2 : Int32) (h : Hp) (K : Int32 → Hp → Prop) : Prop := hK h a0 = 7 ∧ hK h (hR h a0 1) = 6 ∧ V_X5_findJob (hR h a0 1) a1 h (fun r1 h1 => (¬ r1 = 0 → (a2.toInt = 0 → hK h1 r1 = 2 ∧ hK h1 (hR h1 r1 0) = 4 ∧ K (hI h1 (hR h1 r1 0) 0) h1) ∧ (a2.toInt = 1 → hK h1 r1 = 2 ∧ hK h1 (hR h1 r1 0) = 4 ∧ K (hI h1 (hR h1 r1 0) 1) h1) ∧ (a2.toInt = 2 → hK h1 r1 = 2 ∧ hK h1 (hR h1 r1 0) = 4 ∧ K (hI h1 (hR h1 r1 0) 2) h1) ∧ (a2.toInt = 3 → hK h1 r1 = 2 ∧ K (hI h1 r1 1) h1) ∧ (a2.toInt = 4 → hK h1 r1 = 2 ∧ hK h1 (hR h1 r1 0) = 4 ∧ hK h1 (hR h1 (hR h1 r1 0) 3) = 3 ∧ K (hI h1 (hR h1 (hR h1 r1 0) 3) 5) h1) ∧ (a2.toInt = 5 → hK h1 r1 = 2 ∧ hK h1 (hR h1 r1 0) = 4 ∧ hK h1 (hR h1 (hR h1 r1 0) 3) = 3 ∧ K (hI h1 (hR h1 (hR h1 r1 0) 3) 6) h1) ∧ (a2.toInt = 6 → hK h1 r1 = 2 ∧ hK h1 (hR h1 r1 0) = 4 ∧ hK h1 (hR h1 (hR h1 r1 0) 3) = 3 ∧ K (hI h1 (hR h1 (hR h1 r1 0) 3) 7) h1) ∧ (a2.toInt = 7 → hK h1 r1 = 2 ∧ V_X1_formePieces r1 h1 (fun r2 h2 => K r2 h2)) ∧ (a2.toInt = 8 → hK h1 r1 = 2 ∧ V_X1_borrowedPieces r1 h1 (fun r2 h2 => K r2 h2)) ∧ (a2.toInt = 9 → hK h1 r1 = 2 ∧ K (hI h1 r1 2) h1) ∧ (a2.toInt = 10 → hK h1 r1 = 2 ∧ V_X1_daysLate r1 h1 (fun r2 h2 => K r2 h2)) ∧ (a2.toInt < 0 ∨ 10 < a2.toInt → K (-2) h1)) ∧ (r1 = 0 → K (-1) h1))
def V_X6_keep_18 (K : Int32 → Hp → Prop) (a0 : Nat) (h : Hp) : Prop := hK h a0 = 7 ∧ hK h a0 = 7 ∧ hK h (hR h a0 4) = 6 ∧ V_X5_copyFrom (hR h a0 4) (hR h a0 1) h (fun h1 => hK h1 a0 = 7 ∧ hK h1 (hR h1 a0 1) = 6 ∧ K (hI h1 (hR h1 a0 1) 4) h1)
def V_X6_keep (a0 : Nat) (h : Hp) (K : Int32 → Hp → Prop) : Prop := hK h a0 = 7 ∧ (¬ (hR h a0 4) = 0 → V_X6_keep_18 K a0 h) ∧ ((hR h a0 4) = 0 → ∀ q1, q1 ≠ 0 → hK h q1 = 0 → ∀ h1, h1 = nN h q1 6 0 → q1 ≠ 0 ∧ V_X5_init q1 h1 (fun h2 => hK h2 a0 = 7 ∧ ∀ h3, h3 = sR h2 a0 4 q1 → V_X6_keep_18 K a0 h3))
def V_X6_melt_15 (K : Int32 → Hp → Prop) (h : Hp) : Prop := K (-1) h
def V_X6_melt_28 (K : Int32 → Hp → Prop) (h : Hp) : Prop := K (-2) h
def V_X6_melt (a0 : Nat) (a1 : Int32) (a2 : Int32) (a3 : Int32) (h : Hp) (K : Int32 → Hp → Prop) : Prop := hK h a0 = 7 ∧ V_X6_isCase a0 a1 h (fun r1 h1 => (r1 = 0 → V_X6_melt_15 K  h1) ∧ (¬ r1 = 0 → V_X6_isSort a2 h1 (fun r2 h2 => (¬ r2 = 0 → (a3 < 1 → V_X6_melt_28 K  h2) ∧ (¬ (a3 < 1) → (a3 ≤ 99 → hK h2 a0 = 7 ∧ hK h2 (hR h2 a0 1) = 6 ∧ V_X5_held (hR h2 a0 1) a1 a2 h2 (fun r3 h3 => (a3 ≤ r3 → hK h3 a0 = 7 ∧ V_X6_recordState a0 h3 (fun h4 => hK h4 a0 = 7 ∧ hK h4 (hR h4 a0 1) = 6 ∧ V_X5_put (hR h4 a0 1) a1 a2 (-a3) h4 (fun h5 => hK h5 a0 = 7 ∧ hK h5 (hR h5 a0 1) = 6 ∧ V_X6_widthOf a2 h5 (fun r4 h6 => hK h6 (hR h5 a0 1) = 6 ∧ ∀ h7, h7 = sI h6 (hR h5 a0 1) 5 ((hI h5 (hR h5 a0 1) 5) + (a3 * r4)) → hK h7 a0 = 7 ∧ hK h7 (hR h7 a0 1) = 6 ∧ hK h7 (hR h7 a0 1) = 6 ∧ ∀ h8, h8 = sI h7 (hR h7 a0 1) 10 ((hI h7 (hR h7 a0 1) 10) + a3) → hK h8 a0 = 7 ∧ hK h8 (hR h8 a0 1) = 6 ∧ K (hI h8 (hR h8 a0 1) 5) h8)))) ∧ (¬ (a3 ≤ r3) → K (-4) h3))) ∧ (¬ (a3 ≤ 99) → V_X6_melt_28 K  h2))) ∧ (r2 = 0 → V_X6_melt_15 K  h2))))
def V_X6_meltBox (a0 : Nat) (h : Hp) (K : Int32 → Hp → Prop) : Prop := hK h a0 = 7 ∧ hK h (hR h a0 1) = 6 ∧ V_X5_wornPieces (hR h a0 1) h (fun r1 h1 => (¬ r1 = 0 → hK h1 a0 = 7 ∧ V_X6_recordState a0 h1 (fun h2 => hK h2 a0 = 7 ∧ hK h2 (hR h2 a0 1) = 6 ∧ V_X5_wornMetal (hR h2 a0 1) h2 (fun r2 h3 => hK h3 a0 = 7 ∧ hK h3 (hR h3 a0 1) = 6 ∧ V_X5_emptyWornBox (hR h3 a0 1) h3 (fun h4 => hK h4 a0 = 7 ∧ hK h4 (hR h4 a0 1) = 6 ∧ hK h4 (hR h4 a0 1) = 6 ∧ ∀ h5, h5 = sI h4 (hR h4 a0 1) 5 ((hI h4 (hR h4 a0 1) 5) + (r2 - (r2 / 50))) → hK h5 a0 = 7 ∧ hK h5 (hR h5 a0 1) = 6 ∧ hK h5 (hR h5 a0 1) = 6 ∧ ∀ h6, h6 = sI h5 (hR h5 a0 1) 8 ((hI h5 (hR h5 a0 1) 8) + (r2 / 50)) → hK h6 a0 = 7 ∧ hK h6 (hR h6 a0 1) = 6 ∧ hK h6 (hR h6 a0 1) = 6 ∧ ∀ h7, h7 = sI h6 (hR h6 a0 1) 10 ((hI h6 (hR h6 a0 1) 10) + r1) → K (r2 - (r2 / 50)) h7)))) ∧ (r1 = 0 → K (-5) h1))
def V_X6_missing_20 (K : Int32 → Hp → Prop) (h : Hp) : Prop := K (-1) h
def V_X6_missing (a0 : Nat) (a1 : Int32) (a2 : Int32) (h : Hp) (K : Int32 → Hp → Prop) : Prop := hK h a0 = 7 ∧ hK h (hR h a0 1) = 6 ∧ V_X5_findJob (hR h a0 1) a1 h (fun r1 h1 => (r1 = 0 → V_X6_missing_20 K  h1) ∧ (¬ r1 = 0 → V_X6_isSort a2 h1 (fun r2 h2 => (¬ r2 = 0 → hK h2 a0 = 7 ∧ V_X6_reckon a0 r1 h2 (fun h3 => hK h3 a0 = 7 ∧ V_X6_missingOf a0 a2 h3 (fun r3 h4 => K r3 h4))) ∧ (r2 = 0 → V_X6_missing_20 K  h2))))
def V_X6_need_20 (K : Int32 → Hp → Prop) (h : Hp) : Prop := K (-1) h
def V_X6_need (a0 : Nat) (a1 : Int32) (a2 : Int32) (h : Hp) (K : Int32 → Hp → Prop) : Prop := hK h a0 = 7 ∧ hK h (hR h a0 1) = 6 ∧ V_X5_findJob (hR h a0 1) a1 h (fun r1 h1 => (r1 = 0 → V_X6_need_20 K  h1) ∧ (¬ r1 = 0 → V_X6_isSort a2 h1 (fun r2 h2 => (¬ r2 = 0 → hK h2 a0 = 7 ∧ V_X6_reckon a0 r1 h2 (fun h3 => hK h3 a0 = 7 ∧ hK h3 (hR h3 a0 6) = 20 ∧ vp_in a2 (hL h3 (hR h3 a0 6)) ∧ K (hI h3 (hR h3 a0 6) (ix a2)) h3)) ∧ (r2 = 0 → V_X6_need_20 K  h2))))
def V_X6_order_34 (K : Int32 → Hp → Prop) (h : Hp) : Prop := K (-2) h
def V_X6_order (a0 : Nat) (a1 : Int32) (a2 : Int32) (a3 : Int32) (h : Hp) (K : Int32 → Hp → Prop) : Prop := hK h a0 = 7 ∧ V_X6_isCase a0 a1 h (fun r1 h1 => (¬ r1 = 0 → (a2 < 10 → V_X6_order_34 K  h1) ∧ (¬ (a2 < 10) → (150 < a2 → V_X6_order_34 K  h1) ∧ (¬ (150 < a2) → (a3 < 0 → V_X6_order_34 K  h1) ∧ (¬ (a3 < 0) → (a3 ≤ 9999 → hK h1 a0 = 7 ∧ hK h1 (hR h1 a0 0) = 1 ∧ V_X0_findFault (hR h1 a0 0) h1 (fun r2 h2 => (r2 = (-1) → ∀ q1, q1 ≠ 0 → hK h2 q1 = 0 → ∀ h3, h3 = nN h2 q1 3 0 → hK h3 a0 = 7 ∧ q1 ≠ 0 ∧ V_X2_init q1 (hR h3 a0 0) a2 h3 (fun h4 => hK h4 q1 = 3 ∧ ((hI h4 q1 8) = 0 → hK h4 a0 = 7 ∧ hK h4 (hR h4 a0 1) = 6 ∧ ((hI h4 (hR h4 a0 1) 4) < 12 → hK h4 a0 = 7 ∧ V_X6_recordState a0 h4 (fun h5 => hK h5 a0 = 7 ∧ hK h5 (hR h5 a0 1) = 6 ∧ hK h5 a0 = 7 ∧ hK h5 (hR h5 a0 1) = 6 ∧ hK h5 (hR h5 a0 1) = 6 ∧ ∀ h6, h6 = sI h5 (hR h5 a0 1) 4 ((hI h5 (hR h5 a0 1) 4) + 1) → hK h6 a0 = 7 ∧ ∀ q2, q2 ≠ 0 → hK h6 q2 = 0 → ∀ h7, h7 = nN h6 q2 2 0 → ∀ q3, q3 ≠ 0 → hK h7 q3 = 0 → ∀ h8, h8 = nN h7 q3 4 0 → q3 ≠ 0 ∧ V_X3_init q3 a1 a2 a3 q1 h8 (fun h9 => ∀ q4, q4 ≠ 0 → hK h9 q4 = 0 → ∀ h10, h10 = nN h9 q4 20 0 → q2 ≠ 0 ∧ V_X1_init q2 q3 0 (-5) q4 h10 (fun h11 => hK h11 (hR h6 a0 1) = 6 ∧ V_X5_putJob (hR h6 a0 1) (hI h5 (hR h5 a0 1) 4) q2 h11 (fun h12 => K (hI h5 (hR h5 a0 1) 4) h12))))) ∧ (¬ ((hI h4 (hR h4 a0 1) 4) < 12) → K (-3) h4)) ∧ (¬ (hI h4 q1 8) = 0 → K (-4) h4))) ∧ (¬ r2 = (-1) → K ((-100) - r2) h2))) ∧ (¬ (a3 ≤ 9999) → V_X6_order_34 K  h1))))) ∧ (r1 = 0 → K (-1) h1))
def V_X6_pass_11 (K : Int32 → Hp → Prop) (h : Hp) : Prop := K (-2) h
def V_X6_pass (a0 : Nat) (a1 : Int32) (h : Hp) (K : Int32 → Hp → Prop) : Prop := (a1 < 1 → V_X6_pass_11 K  h) ∧ (¬ (a1 < 1) → (a1 ≤ 30 → hK h a0 = 7 ∧ V_X6_recordState a0 h (fun h1 => hK h1 a0 = 7 ∧ hK h1 (hR h1 a0 1) = 6 ∧ hK h1 (hR h1 a0 1) = 6 ∧ ∀ h2, h2 = sI h1 (hR h1 a0 1) 6 ((hI h1 (hR h1 a0 1) 6) + a1) → hK h2 a0 = 7 ∧ hK h2 (hR h2 a0 1) = 6 ∧ K (hI h2 (hR h2 a0 1) 6) h2)) ∧ (¬ (a1 ≤ 30) → V_X6_pass_11 K  h))
def V_X6_pieceAt_47 (K : Int32 → Hp → Prop) (h : Hp) : Prop := K (-5) h
def V_X6_pieceAt (a0 : Nat) (a1 : Int32) (a2 : Int32) (a3 : Int32) (h : Hp) (K : Int32 → Hp → Prop) : Prop := hK h a0 = 7 ∧ hK h (hR h a0 1) = 6 ∧ V_X5_findJob (hR h a0 1) a1 h (fun r1 h1 => (¬ r1 = 0 → hK h1 r1 = 2 ∧ V_X1_hasForme r1 h1 (fun r2 h2 => (¬ r2 = 0 → hK h2 r1 = 2 ∧ hK h2 (hR h2 r1 0) = 4 ∧ hK h2 (hR h2 (hR h2 r1 0) 3) = 3 ∧ V_X2_hasLine (hR h2 (hR h2 r1 0) 3) a2 h2 (fun r3 h3 => (r3 = 0 → V_X6_pieceAt_47 K  h3) ∧ (¬ r3 = 0 → (0 ≤ a3 → hK h3 a0 = 7 ∧ V_X6_findPiece a0 r1 a2 a3 h3 (fun r4 h4 => K r4 h4)) ∧ (¬ (0 ≤ a3) → V_X6_pieceAt_47 K  h3)))) ∧ (r2 = 0 → K (-4) h2))) ∧ (r1 = 0 → K (-1) h1))
def V_X6_pieces_45 (K : Int32 → Hp → Prop) (s0 : Int32) (h : Hp) : Prop := K s0 h
def V_X6_pieces (a0 : Nat) (a1 : Int32) (a2 : Int32) (h : Hp) (K : Int32 → Hp → Prop) : Prop := V_X6_isSort a2 h (fun r1 h1 => (¬ r1 = 0 → (¬ a1 = (-1) → hK h1 a0 = 7 ∧ V_X6_isCase a0 a1 h1 (fun r2 h2 => (r2 = 0 → V_X6_pieces_45 K (-1) h2) ∧ (¬ r2 = 0 → hK h2 a0 = 7 ∧ hK h2 (hR h2 a0 1) = 6 ∧ V_X5_held (hR h2 a0 1) a1 a2 h2 (fun r3 h3 => V_X6_pieces_45 K r3 h3)))) ∧ (a1 = (-1) → hK h1 a0 = 7 ∧ hK h1 (hR h1 a0 1) = 6 ∧ hK h1 (hR h1 (hR h1 a0 1) 1) = 20 ∧ vp_in a2 (hL h1 (hR h1 (hR h1 a0 1) 1)) ∧ K (hI h1 (hR h1 (hR h1 a0 1) 1) (ix a2)) h1)) ∧ (r1 = 0 → K (-1) h1))
def V_X6_print (a0 : Nat) (a1 : Int32) (h : Hp) (K : Int32 → Hp → Prop) : Prop := hK h a0 = 7 ∧ hK h (hR h a0 1) = 6 ∧ V_X5_findJob (hR h a0 1) a1 h (fun r1 h1 => (¬ r1 = 0 → hK h1 r1 = 2 ∧ ((hI h1 r1 1) = 1 → hK h1 a0 = 7 ∧ V_X6_recordState a0 h1 (fun h2 => ∀ q1, q1 ≠ 0 → hK h2 q1 = 0 → ∀ h3, h3 = nN h2 q1 2 0 → hK h3 r1 = 2 ∧ hK h3 a0 = 7 ∧ hK h3 (hR h3 a0 1) = 6 ∧ hK h3 r1 = 2 ∧ q1 ≠ 0 ∧ V_X1_init q1 (hR h3 r1 0) 2 (hI h3 (hR h3 a0 1) 6) (hR h3 r1 3) h3 (fun h4 => hK h4 a0 = 7 ∧ hK h4 (hR h4 a0 1) = 6 ∧ V_X5_putJob (hR h4 a0 1) a1 q1 h4 (fun h5 => hK h5 q1 = 2 ∧ V_X1_daysLate q1 h5 (fun r2 h6 => K r2 h6))))) ∧ (¬ (hI h1 r1 1) = 1 → K (-4) h1)) ∧ (r1 = 0 → K (-1) h1))
def V_X6_restore (a0 : Nat) (h : Hp) (K : Int32 → Hp → Prop) : Prop := hK h a0 = 7 ∧ (¬ (hR h a0 4) = 0 → hK h a0 = 7 ∧ V_X6_recordState a0 h (fun h1 => hK h1 a0 = 7 ∧ hK h1 a0 = 7 ∧ hK h1 (hR h1 a0 1) = 6 ∧ V_X5_copyFrom (hR h1 a0 1) (hR h1 a0 4) h1 (fun h2 => hK h2 a0 = 7 ∧ hK h2 (hR h2 a0 1) = 6 ∧ K (hI h2 (hR h2 a0 1) 4) h2))) ∧ ((hR h a0 4) = 0 → K (-5) h)
def V_X6_takePieces_35 (K : Int32 → Hp → Prop) (h : Hp) : Prop := K 0 h
def V_X6_takePieces (a0 : Nat) (a1 : Nat) (a2 : Int32) (a3 : Int32) (a4 : Int32) (h : Hp) (K : Int32 → Hp → Prop) : Prop := hK h a0 = 7 ∧ hK h (hR h a0 1) = 6 ∧ V_X5_held (hR h a0 1) a2 a3 h (fun r1 h1 => V_X6_slotOf a2 a3 h1 (fun r2 h2 => (r2 < 0 → V_X6_takePieces_35 K  h2) ∧ (¬ (r2 < 0) → hK h2 a1 = 20 ∧ (r2 < (nI (hL h2 a1)) → hK h2 a1 = 20 ∧ vp_in r2 (hL h2 a1) ∧ hK h2 a1 = 20 ∧ vp_in r2 (hL h2 a1) ∧ ∀ h3, h3 = sI h2 a1 (ix r2) ((hI h2 a1 (ix r2)) + (if a4 < r1 then a4 else r1)) → hK h3 a0 = 7 ∧ hK h3 (hR h3 a0 1) = 6 ∧ V_X5_put (hR h3 a0 1) a2 a3 (-(if a4 < r1 then a4 else r1)) h3 (fun h4 => K (if a4 < r1 then a4 else r1) h4)) ∧ (¬ (r2 < (nI (hL h2 a1))) → V_X6_takePieces_35 K  h2))))
def V_X6_takeNeeded_67 (K : Nat → Hp → Prop) (C8 : Nat → Int32 → Nat → Int32 → Hp → Prop) (C39 : Nat → Int32 → Nat → Int32 → Int32 → Int32 → Hp → Prop) (a0 : Nat) (a1 : Int32) (a2 : Nat) (a3 : Int32) (a4 : Int32) (a5 : Int32) (h : Hp) : Prop := C39 a0 a1 a2 a3 a4 (a5 + 1) h
def V_X6_takeNeeded_39 (K : Nat → Hp → Prop) (C8 : Nat → Int32 → Nat → Int32 → Hp → Prop) : Nat → Nat → Int32 → Nat → Int32 → Int32 → Int32 → Hp → Prop
  | 0, _, _, _, _, _, _, _ => False
  | n + 1, a0, a1, a2, a3, a4, a5, h => (6 ≤ a5 → C8 a0 a1 a2 (a3 + 1) h) ∧ (¬ (6 ≤ a5) → (a5 = a1 → V_X6_takeNeeded_67 K C8 (V_X6_takeNeeded_39 K C8 n) a0 a1 a2 a3 a4 a5 h) ∧ (¬ a5 = a1 → hK h a0 = 7 ∧ V_X6_takePieces a0 a2 a5 a3 a4 h (fun r1 h1 => V_X6_takeNeeded_67 K C8 (V_X6_takeNeeded_39 K C8 n) a0 a1 a2 a3 (a4 - r1) a5 h1)))
def V_X6_takeNeeded_8 (K : Nat → Hp → Prop) : Nat → Nat → Int32 → Nat → Int32 → Hp → Prop
  | 0, _, _, _, _, _ => False
  | n + 1, a0, a1, a2, a3, h => (29 ≤ a3 → K a2 h) ∧ (¬ (29 ≤ a3) → hK h a0 = 7 ∧ hK h (hR h a0 6) = 20 ∧ vp_in a3 (hL h (hR h a0 6)) ∧ hK h a0 = 7 ∧ hK h (hR h a0 6) = 20 ∧ vp_in a3 (hL h (hR h a0 6)) ∧ hK h a0 = 7 ∧ V_X6_takePieces a0 a2 a1 a3 (hI h (hR h a0 6) (ix a3)) h (fun r1 h1 => ∃ n9, V_X6_takeNeeded_39 K (V_X6_takeNeeded_8 K n) n9 a0 a1 a2 a3 ((hI h (hR h a0 6) (ix a3)) - r1) 0 h1))
def V_X6_takeNeeded (a0 : Nat) (a1 : Int32) (h : Hp) (K : Nat → Hp → Prop) : Prop := ∀ q1, q1 ≠ 0 → hK h q1 = 0 → ∀ h1, h1 = nN h q1 20 174 → ∃ n9, V_X6_takeNeeded_8 K n9 a0 a1 q1 0 h1
def V_X6_set_32 (K : Int32 → Hp → Prop) : Nat → Nat → Int32 → Nat → Int32 → Hp → Prop
  | 0, _, _, _, _, _ => False
  | n + 1, a0, a1, a2, a3, h => (29 ≤ a3 → hK h a0 = 7 ∧ V_X6_recordState a0 h (fun h1 => ∀ q1, q1 ≠ 0 → hK h1 q1 = 0 → ∀ h2, h2 = nN h1 q1 2 0 → hK h2 a2 = 2 ∧ hK h2 a2 = 2 ∧ hK h2 (hR h2 a2 0) = 4 ∧ hK h2 a0 = 7 ∧ V_X6_takeNeeded a0 (hI h2 (hR h2 a2 0) 0) h2 (fun r1 h3 => q1 ≠ 0 ∧ V_X1_init q1 (hR h2 a2 0) 1 (-5) r1 h3 (fun h4 => hK h4 a0 = 7 ∧ hK h4 (hR h4 a0 1) = 6 ∧ V_X5_putJob (hR h4 a0 1) a1 q1 h4 (fun h5 => hK h5 q1 = 2 ∧ V_X1_borrowedPieces q1 h5 (fun r2 h6 => K r2 h6)))))) ∧ (¬ (29 ≤ a3) → hK h a0 = 7 ∧ V_X6_missingOf a0 a3 h (fun r1 h1 => (r1 ≤ 0 → V_X6_set_32 K n a0 a1 a2 (a3 + 1) h1) ∧ (¬ (r1 ≤ 0) → K (-4) h1)))
def V_X6_set (a0 : Nat) (a1 : Int32) (h : Hp) (K : Int32 → Hp → Prop) : Prop := hK h a0 = 7 ∧ hK h (hR h a0 1) = 6 ∧ V_X5_findJob (hR h a0 1) a1 h (fun r1 h1 => (¬ r1 = 0 → hK h1 r1 = 2 ∧ ((hI h1 r1 1) = 0 → hK h1 a0 = 7 ∧ V_X6_reckon a0 r1 h1 (fun h2 => ∃ n9, V_X6_set_32 K n9 a0 a1 r1 0 h2)) ∧ (¬ (hI h1 r1 1) = 0 → K (-4) h1)) ∧ (r1 = 0 → K (-1) h1))
def V_X6_taken_30 (K : Int32 → Hp → Prop) (h : Hp) : Prop := K (-1) h
def V_X6_taken (a0 : Nat) (a1 : Int32) (a2 : Int32) (a3 : Int32) (h : Hp) (K : Int32 → Hp → Prop) : Prop := hK h a0 = 7 ∧ hK h (hR h a0 1) = 6 ∧ V_X5_findJob (hR h a0 1) a1 h (fun r1 h1 => (r1 = 0 → V_X6_taken_30 K  h1) ∧ (¬ r1 = 0 → hK h1 a0 = 7 ∧ V_X6_isCase a0 a2 h1 (fun r2 h2 => (r2 = 0 → V_X6_taken_30 K  h2) ∧ (¬ r2 = 0 → V_X6_isSort a3 h2 (fun r3 h3 => (¬ r3 = 0 → hK h3 r1 = 2 ∧ V_X1_takenFrom r1 a2 a3 h3 (fun r4 h4 => K r4 h4)) ∧ (r3 = 0 → V_X6_taken_30 K  h3))))))
def V_X6_type_23 (K : Int32 → Hp → Prop) (s0 : Int32) (h : Hp) : Prop := K s0 h
def V_X6_type (a0 : Nat) (a1 : Int32) (h : Hp) (K : Int32 → Hp → Prop) : Prop := hK h a0 = 7 ∧ hK h (hR h a0 0) = 1 ∧ V_X0_append (hR h a0 0) a1 h (fun r1 h1 => (r1 = 0 → V_X6_type_23 K (-3) h1) ∧ (¬ r1 = 0 → hK h1 a0 = 7 ∧ hK h1 (hR h1 a0 0) = 1 ∧ V_X6_type_23 K (hI h1 (hR h1 a0 0) 1) h1))
def V_X6_undo_29 (K : Int32 → Hp → Prop) (h : Hp) : Prop := K (-5) h
def V_X6_undo (a0 : Nat) (h : Hp) (K : Int32 → Hp → Prop) : Prop := hK h a0 = 7 ∧ (((hI h a0 3) - 1) < 0 → V_X6_undo_29 K  h) ∧ (¬ (((hI h a0 3) - 1) < 0) → hK h a0 = 7 ∧ hK h (hR h a0 2) = 23 ∧ ((nI (hL h (hR h a0 2))) ≤ ((hI h a0 3) - 1) → V_X6_undo_29 K  h) ∧ (¬ ((nI (hL h (hR h a0 2))) ≤ ((hI h a0 3) - 1)) → hK h a0 = 7 ∧ hK h (hR h a0 2) = 23 ∧ vp_in ((hI h a0 3) - 1) (hL h (hR h a0 2)) ∧ (¬ (hR h (hR h a0 2) (ix ((hI h a0 3) - 1))) = 0 → hK h a0 = 7 ∧ hK h a0 = 7 ∧ hK h (hR h a0 2) = 23 ∧ vp_in ((hI h a0 3) - 1) (hL h (hR h a0 2)) ∧ hK h (hR h a0 1) = 6 ∧ V_X5_copyFrom (hR h a0 1) (hR h (hR h a0 2) (ix ((hI h a0 3) - 1))) h (fun h1 => hK h1 a0 = 7 ∧ ∀ h2, h2 = sI h1 a0 3 ((hI h a0 3) - 1) → hK h2 a0 = 7 ∧ K (hI h2 a0 3) h2)) ∧ ((hR h (hR h a0 2) (ix ((hI h a0 3) - 1))) = 0 → V_X6_undo_29 K  h)))
def V_X6_urgent_65 (K : Int32 → Hp → Prop) (C7 : Nat → Int32 → Int32 → Int32 → Hp → Prop) (a0 : Nat) (a1 : Int32) (a2 : Int32) (a3 : Int32) (h : Hp) : Prop := C7 a0 a1 a2 (a3 + 1) h
def V_X6_urgent_54 (K : Int32 → Hp → Prop) (C7 : Nat → Int32 → Int32 → Int32 → Hp → Prop) (a0 : Nat) (a3 : Int32) (a4 : Nat) (h : Hp) : Prop := hK h a4 = 2 ∧ hK h (hR h a4 0) = 4 ∧ V_X6_urgent_65 K C7 a0 a3 (hI h (hR h a4 0) 2) a3 h
def V_X6_urgent_7 (K : Int32 → Hp → Prop) : Nat → Nat → Int32 → Int32 → Int32 → Hp → Prop
  | 0, _, _, _, _, _ => False
  | n + 1, a0, a1, a2, a3, h => (12 ≤ a3 → K a1 h) ∧ (¬ (12 ≤ a3) → hK h a0 = 7 ∧ hK h (hR h a0 1) = 6 ∧ V_X5_findJob (hR h a0 1) a3 h (fun r1 h1 => (r1 = 0 → V_X6_urgent_65 K (V_X6_urgent_7 K n) a0 a1 a2 a3 h1) ∧ (¬ r1 = 0 → hK h1 r1 = 2 ∧ V_X1_isOpen r1 h1 (fun r2 h2 => (r2 = 0 → V_X6_urgent_65 K (V_X6_urgent_7 K n) a0 a1 a2 a3 h2) ∧ (¬ r2 = 0 → (a1 = (-5) → V_X6_urgent_54 K (V_X6_urgent_7 K n) a0 a3 r1 h2) ∧ (¬ a1 = (-5) → hK h2 r1 = 2 ∧ hK h2 (hR h2 r1 0) = 4 ∧ (a2 ≤ (hI h2 (hR h2 r1 0) 2) → V_X6_urgent_65 K (V_X6_urgent_7 K n) a0 a1 a2 a3 h2) ∧ (¬ (a2 ≤ (hI h2 (hR h2 r1 0) 2)) → V_X6_urgent_54 K (V_X6_urgent_7 K n) a0 a3 r1 h2)))))))
def V_X6_urgent (a0 : Nat) (h : Hp) (K : Int32 → Hp → Prop) : Prop := ∃ n9, V_X6_urgent_7 K n9 a0 (-5) 0 0 h
def V_X7_record_51 (K : Hp → Prop) : Nat → Nat → Int32 → Hp → Prop
  | 0, _, _, _ => False
  | n + 1, a0, a1, h => (3475 ≤ a1 → hK h a0 = 8 ∧ hK h a0 = 8 ∧ ∀ h1, h1 = sI h a0 2 ((hI h a0 2) + 1) → K h1) ∧ (¬ (3475 ≤ a1) → hK h a0 = 8 ∧ hK h a0 = 8 ∧ hK h a0 = 8 ∧ hK h (hR h a0 0) = 30 ∧ vp_in a1 (hL h (hR h a0 0)) ∧ hK h (hR h a0 1) = 30 ∧ vp_in ((3475 * (hI h a0 2)) + a1) (hL h (hR h a0 1)) ∧ ∀ h1, h1 = sI h (hR h a0 1) (ix ((3475 * (hI h a0 2)) + a1)) (hI h (hR h a0 0) (ix a1)) → V_X7_record_51 K n a0 (a1 + 1) h1)
def V_X7_record_49 (K : Hp → Prop) (a0 : Nat) (h : Hp) : Prop := ∃ n9, V_X7_record_51 K n9 a0 0 h
def V_X7_record_10 (K : Hp → Prop) : Nat → Nat → Int32 → Hp → Prop
  | 0, _, _, _ => False
  | n + 1, a0, a1, h => (13900 ≤ a1 → hK h a0 = 8 ∧ hK h a0 = 8 ∧ ∀ h1, h1 = sI h a0 2 ((hI h a0 2) - 1) → V_X7_record_49 K a0 h1) ∧ (¬ (13900 ≤ a1) → hK h a0 = 8 ∧ hK h a0 = 8 ∧ hK h (hR h a0 1) = 30 ∧ vp_in (a1 + 3475) (hL h (hR h a0 1)) ∧ hK h (hR h a0 1) = 30 ∧ vp_in a1 (hL h (hR h a0 1)) ∧ ∀ h1, h1 = sI h (hR h a0 1) (ix a1) (hI h (hR h a0 1) (ix (a1 + 3475))) → V_X7_record_10 K n a0 (a1 + 1) h1)
def V_X7_record (a0 : Nat) (h : Hp) (K : Hp → Prop) : Prop := hK h a0 = 8 ∧ (¬ (hI h a0 2) = 5 → V_X7_record_49 K a0 h) ∧ ((hI h a0 2) = 5 → ∃ n9, V_X7_record_10 K n9 a0 0 h)
def V_X7_addCase (a0 : Nat) (h : Hp) (K : Int32 → Hp → Prop) : Prop := hK h a0 = 8 ∧ hK h (hR h a0 0) = 30 ∧ vp_in 0 (hL h (hR h a0 0)) ∧ (¬ (hI h (hR h a0 0) (ix 0)) = 6 → hK h a0 = 8 ∧ V_X7_record a0 h (fun h1 => hK h1 a0 = 8 ∧ hK h1 (hR h1 a0 0) = 30 ∧ vp_in 0 (hL h1 (hR h1 a0 0)) ∧ hK h1 (hR h1 a0 0) = 30 ∧ vp_in 0 (hL h1 (hR h1 a0 0)) ∧ ∀ h2, h2 = sI h1 (hR h1 a0 0) (ix 0) ((hI h1 (hR h1 a0 0) (ix 0)) + 1) → hK h2 a0 = 8 ∧ hK h2 (hR h2 a0 0) = 30 ∧ vp_in 0 (hL h2 (hR h2 a0 0)) ∧ K ((hI h2 (hR h2 a0 0) (ix 0)) - 1) h2)) ∧ ((hI h (hR h a0 0) (ix 0)) = 6 → K (-3) h)
def V_X7_lacks_32 (K : Int32 → Hp → Prop) (s0 : Int32) (h : Hp) : Prop := K s0 h
def V_X7_lacks (a0 : Nat) (a1 : Int32) (h : Hp) (K : Int32 → Hp → Prop) : Prop := hK h a0 = 8 ∧ hK h (hR h a0 17) = 30 ∧ vp_in a1 (hL h (hR h a0 17)) ∧ hK h a0 = 8 ∧ hK h (hR h a0 18) = 30 ∧ vp_in a1 (hL h (hR h a0 18)) ∧ ((hI h (hR h a0 17) (ix a1)) ≤ (hI h (hR h a0 18) (ix a1)) → V_X7_lacks_32 K 0 h) ∧ (¬ ((hI h (hR h a0 17) (ix a1)) ≤ (hI h (hR h a0 18) (ix a1))) → hK h a0 = 8 ∧ hK h (hR h a0 17) = 30 ∧ vp_in a1 (hL h (hR h a0 17)) ∧ hK h a0 = 8 ∧ hK h (hR h a0 18) = 30 ∧ vp_in a1 (hL h (hR h a0 18)) ∧ V_X7_lacks_32 K ((hI h (hR h a0 17) (ix a1)) - (hI h (hR h a0 18) (ix a1))) h)
def V_X7_allLacks_4 (K : Int32 → Hp → Prop) : Nat → Nat → Int32 → Int32 → Hp → Prop
  | 0, _, _, _, _ => False
  | n + 1, a0, a1, a2, h => (29 ≤ a2 → K a1 h) ∧ (¬ (29 ≤ a2) → hK h a0 = 8 ∧ V_X7_lacks a0 a2 h (fun r1 h1 => V_X7_allLacks_4 K n a0 (a1 + r1) (a2 + 1) h1))
def V_X7_allLacks (a0 : Nat) (h : Hp) (K : Int32 → Hp → Prop) : Prop := ∃ n9, V_X7_allLacks_4 K n9 a0 0 0 h
def V_X7_width_35 (K : Int32 → Hp → Prop) (s0 : Int32) (h : Hp) : Prop := K s0 h
def V_X7_width (a0 : Int32) (h : Hp) (K : Int32 → Hp → Prop) : Prop := (26 ≤ a0 → (¬ a0 = 26 → (¬ a0 = 27 → V_X7_width_35 K 1 h) ∧ (a0 = 27 → V_X7_width_35 K 2 h)) ∧ (a0 = 26 → V_X7_width_35 K 4 h)) ∧ (¬ (26 ≤ a0) → V_X7_width_35 K (2 + (a0 - a0 / 5 * 5)) h)
def V_X7_boxMetal_4 (K : Int32 → Hp → Prop) : Nat → Nat → Int32 → Int32 → Hp → Prop
  | 0, _, _, _, _ => False
  | n + 1, a0, a1, a2, h => (29 ≤ a2 → K a1 h) ∧ (¬ (29 ≤ a2) → hK h a0 = 8 ∧ hK h (hR h a0 0) = 30 ∧ vp_in (182 + a2) (hL h (hR h a0 0)) ∧ V_X7_width a2 h (fun r1 h1 => V_X7_boxMetal_4 K n a0 (a1 + ((hI h (hR h a0 0) (ix (182 + a2))) * r1)) (a2 + 1) h1))
def V_X7_boxMetal (a0 : Nat) (h : Hp) (K : Int32 → Hp → Prop) : Prop := ∃ n9, V_X7_boxMetal_4 K n9 a0 0 0 h
def V_X7_in_15 (K : Int32 → Hp → Prop) (s0 : Int32) (h : Hp) : Prop := (s0 = 0 ∨ s0 = 1) ∧ K s0 h
def V_X7_in_14 (K : Int32 → Hp → Prop) (h : Hp) : Prop := V_X7_in_15 K 0 h
def V_X7_in (a0 : Int32) (a1 : Int32) (a2 : Int32) (h : Hp) (K : Int32 → Hp → Prop) : Prop := (a0 < a1 → V_X7_in_14 K  h) ∧ (¬ (a0 < a1) → (a2 < a0 → V_X7_in_14 K  h) ∧ (¬ (a2 < a0) → V_X7_in_15 K 1 h))
def V_X7_buy (a0 : Nat) (a1 : Int32) (h : Hp) (K : Int32 → Hp → Prop) : Prop := V_X7_in a1 1 20000 h (fun r1 h1 => (¬ r1 = 0 → hK h1 a0 = 8 ∧ hK h1 (hR h1 a0 0) = 30 ∧ vp_in 2 (hL h1 (hR h1 a0 0)) ∧ (((hI h1 (hR h1 a0 0) (ix 2)) + a1) ≤ 100000 → hK h1 a0 = 8 ∧ V_X7_record a0 h1 (fun h2 => hK h2 a0 = 8 ∧ hK h2 (hR h2 a0 0) = 30 ∧ vp_in 2 (hL h2 (hR h2 a0 0)) ∧ hK h2 (hR h2 a0 0) = 30 ∧ vp_in 2 (hL h2 (hR h2 a0 0)) ∧ ∀ h3, h3 = sI h2 (hR h2 a0 0) (ix 2) ((hI h2 (hR h2 a0 0) (ix 2)) + a1) → hK h3 a0 = 8 ∧ hK h3 (hR h3 a0 0) = 30 ∧ vp_in 4 (hL h3 (hR h3 a0 0)) ∧ hK h3 (hR h3 a0 0) = 30 ∧ vp_in 4 (hL h3 (hR h3 a0 0)) ∧ ∀ h4, h4 = sI h3 (hR h3 a0 0) (ix 4) ((hI h3 (hR h3 a0 0) (ix 4)) + a1) → hK h4 a0 = 8 ∧ hK h4 (hR h4 a0 0) = 30 ∧ vp_in 2 (hL h4 (hR h4 a0 0)) ∧ K (hI h4 (hR h4 a0 0) (ix 2)) h4)) ∧ (¬ (((hI h1 (hR h1 a0 0) (ix 2)) + a1) ≤ 100000) → K (-3) h1)) ∧ (r1 = 0 → K (-2) h1))
def V_X7_noJob_21 (K : Int32 → Hp → Prop) (s0 : Int32) (h : Hp) : Prop := (s0 = 0 ∨ s0 = 1) ∧ K s0 h
def V_X7_noJob (a0 : Nat) (a1 : Int32) (h : Hp) (K : Int32 → Hp → Prop) : Prop := hK h a0 = 8 ∧ hK h (hR h a0 0) = 30 ∧ vp_in 1 (hL h (hR h a0 0)) ∧ V_X7_in a1 0 ((hI h (hR h a0 0) (ix 1)) - 1) h (fun r1 h1 => (¬ r1 = 0 → V_X7_noJob_21 K 0 h1) ∧ (r1 = 0 → V_X7_noJob_21 K 1 h1))
def V_X7_ofJob (a0 : Nat) (a1 : Int32) (a2 : Int32) (h : Hp) (K : Int32 → Hp → Prop) : Prop := hK h a0 = 8 ∧ hK h (hR h a0 0) = 30 ∧ vp_in ((211 + (272 * a1)) + a2) (hL h (hR h a0 0)) ∧ K (hI h (hR h a0 0) (ix ((211 + (272 * a1)) + a2))) h
def V_X7_inForme (a0 : Nat) (a1 : Int32) (a2 : Int32) (a3 : Int32) (h : Hp) (K : Int32 → Hp → Prop) : Prop := hK h a0 = 8 ∧ V_X7_ofJob a0 a1 ((67 + (29 * a2)) + a3) h (fun r1 h1 => K r1 h1)
def V_X7_inFormeOf_55 (K : Int32 → Hp → Prop) (C5 : Nat → Int32 → Int32 → Int32 → Int32 → Hp → Prop) (C19 : Nat → Int32 → Int32 → Int32 → Int32 → Int32 → Hp → Prop) (a0 : Nat) (a1 : Int32) (a2 : Int32) (a4 : Int32) (a5 : Int32) (s0 : Int32) (s1 : Int32) (h : Hp) : Prop := C19 a0 a1 a2 (s0 + s1) a4 (a5 + 1) h
def V_X7_inFormeOf_46 (K : Int32 → Hp → Prop) (C5 : Nat → Int32 → Int32 → Int32 → Int32 → Hp → Prop) (C19 : Nat → Int32 → Int32 → Int32 → Int32 → Int32 → Hp → Prop) (a0 : Nat) (a1 : Int32) (a2 : Int32) (a4 : Int32) (a5 : Int32) (s0 : Int32) (h : Hp) : Prop := hK h a0 = 8 ∧ V_X7_inForme a0 a1 a4 a5 h (fun r1 h1 => V_X7_inFormeOf_55 K C5 C19 a0 a1 a2 a4 a5 s0 r1 h1)
def V_X7_inFormeOf_19 (K : Int32 → Hp → Prop) (C5 : Nat → Int32 → Int32 → Int32 → Int32 → Hp → Prop) : Nat → Nat → Int32 → Int32 → Int32 → Int32 → Int32 → Hp → Prop
  | 0, _, _, _, _, _, _, _ => False
  | n + 1, a0, a1, a2, a3, a4, a5, h => (29 ≤ a5 → C5 a0 a1 a2 a3 (a4 + 1) h) ∧ (¬ (29 ≤ a5) → (a2 = 0 → V_X7_inFormeOf_46 K C5 (V_X7_inFormeOf_19 K C5 n) a0 a1 a2 a4 a5 a3 h) ∧ (¬ a2 = 0 → hK h a0 = 8 ∧ V_X7_ofJob a0 a1 0 h (fun r1 h1 => (¬ a4 = r1 → V_X7_inFormeOf_46 K C5 (V_X7_inFormeOf_19 K C5 n) a0 a1 a2 a4 a5 a3 h1) ∧ (a4 = r1 → V_X7_inFormeOf_55 K C5 (V_X7_inFormeOf_19 K C5 n) a0 a1 a2 a4 a5 a3 0 h1))))
def V_X7_inFormeOf_5 (K : Int32 → Hp → Prop) : Nat → Nat → Int32 → Int32 → Int32 → Int32 → Hp → Prop
  | 0, _, _, _, _, _, _ => False
  | n + 1, a0, a1, a2, a3, a4, h => hK h a0 = 8 ∧ hK h (hR h a0 0) = 30 ∧ vp_in 0 (hL h (hR h a0 0)) ∧ ((hI h (hR h a0 0) (ix 0)) ≤ a4 → K a3 h) ∧ (¬ ((hI h (hR h a0 0) (ix 0)) ≤ a4) → ∃ n9, V_X7_inFormeOf_19 K (V_X7_inFormeOf_5 K n) n9 a0 a1 a2 a3 a4 0 h)
def V_X7_inFormeOf (a0 : Nat) (a1 : Int32) (a2 : Int32) (h : Hp) (K : Int32 → Hp → Prop) : Prop := ∃ n9, V_X7_inFormeOf_5 K n9 a0 a1 a2 0 0 h
def V_X7_put (a0 : Nat) (a1 : Int32) (a2 : Int32) (a3 : Int32) (h : Hp) (K : Hp → Prop) : Prop := hK h a0 = 8 ∧ hK h (hR h a0 0) = 30 ∧ vp_in ((211 + (272 * a1)) + a2) (hL h (hR h a0 0)) ∧ ∀ h1, h1 = sI h (hR h a0 0) (ix ((211 + (272 * a1)) + a2)) a3 → K h1
def V_X7_has (a0 : Nat) (a1 : Int32) (a2 : Int32) (h : Hp) (K : Int32 → Hp → Prop) : Prop := hK h a0 = 8 ∧ hK h (hR h a0 0) = 30 ∧ vp_in ((8 + (29 * a1)) + a2) (hL h (hR h a0 0)) ∧ K (hI h (hR h a0 0) (ix ((8 + (29 * a1)) + a2))) h
def V_X7_least_10 (K : Int32 → Hp → Prop) (s0 : Int32) (h : Hp) : Prop := K s0 h
def V_X7_least (a0 : Int32) (a1 : Int32) (h : Hp) (K : Int32 → Hp → Prop) : Prop := (a1 ≤ a0 → V_X7_least_10 K a1 h) ∧ (¬ (a1 ≤ a0) → V_X7_least_10 K a0 h)
def V_X7_goBack_51 (K : Int32 → Hp → Prop) (C5 : Nat → Int32 → Int32 → Int32 → Int32 → Hp → Prop) (C15 : Nat → Int32 → Int32 → Int32 → Int32 → Int32 → Hp → Prop) (a0 : Nat) (a1 : Int32) (a2 : Int32) (a3 : Int32) (a4 : Int32) (a5 : Int32) (a6 : Int32) (s0 : Int32) (s1 : Int32) (h : Hp) : Prop := hK h a0 = 8 ∧ V_X7_has a0 a5 a4 h (fun r1 h1 => V_X7_least (s0 - s1) (99 - r1) h1 (fun r2 h2 => hK h2 a0 = 8 ∧ hK h2 (hR h2 a0 0) = 30 ∧ vp_in ((8 + (29 * a5)) + a4) (hL h2 (hR h2 a0 0)) ∧ hK h2 (hR h2 a0 0) = 30 ∧ vp_in ((8 + (29 * a5)) + a4) (hL h2 (hR h2 a0 0)) ∧ ∀ h3, h3 = sI h2 (hR h2 a0 0) (ix ((8 + (29 * a5)) + a4)) ((hI h2 (hR h2 a0 0) (ix ((8 + (29 * a5)) + a4))) + r2) → hK h3 a0 = 8 ∧ hK h3 (hR h3 a0 0) = 30 ∧ vp_in (182 + a4) (hL h3 (hR h3 a0 0)) ∧ hK h3 (hR h3 a0 0) = 30 ∧ vp_in (182 + a4) (hL h3 (hR h3 a0 0)) ∧ ∀ h4, h4 = sI h3 (hR h3 a0 0) (ix (182 + a4)) ((hI h3 (hR h3 a0 0) (ix (182 + a4))) + (a6 - r2)) → hK h4 a0 = 8 ∧ V_X7_put a0 a1 ((67 + (29 * a5)) + a4) 0 h4 (fun h5 => C15 a0 a1 a2 (a3 + (a6 - r2)) a4 (a5 + 1) h5)))
def V_X7_goBack_15 (K : Int32 → Hp → Prop) (C5 : Nat → Int32 → Int32 → Int32 → Int32 → Hp → Prop) : Nat → Nat → Int32 → Int32 → Int32 → Int32 → Int32 → Hp → Prop
  | 0, _, _, _, _, _, _, _ => False
  | n + 1, a0, a1, a2, a3, a4, a5, h => hK h a0 = 8 ∧ hK h (hR h a0 0) = 30 ∧ vp_in 0 (hL h (hR h a0 0)) ∧ ((hI h (hR h a0 0) (ix 0)) ≤ a5 → C5 a0 a1 a2 a3 (a4 + 1) h) ∧ (¬ ((hI h (hR h a0 0) (ix 0)) ≤ a5) → hK h a0 = 8 ∧ V_X7_inForme a0 a1 a5 a4 h (fun r1 h1 => (¬ a2 = 0 → ¬ a2 = 0 ∧ V_X7_goBack_51 K C5 (V_X7_goBack_15 K C5 n) a0 a1 a2 a3 a4 a5 r1 r1 (r1 / a2) h1) ∧ (a2 = 0 → V_X7_goBack_51 K C5 (V_X7_goBack_15 K C5 n) a0 a1 a2 a3 a4 a5 r1 r1 0 h1)))
def V_X7_goBack_5 (K : Int32 → Hp → Prop) : Nat → Nat → Int32 → Int32 → Int32 → Int32 → Hp → Prop
  | 0, _, _, _, _, _, _ => False
  | n + 1, a0, a1, a2, a3, a4, h => (29 ≤ a4 → K a3 h) ∧ (¬ (29 ≤ a4) → ∃ n9, V_X7_goBack_15 K (V_X7_goBack_5 K n) n9 a0 a1 a2 a3 a4 0 h)
def V_X7_goBack (a0 : Nat) (a1 : Int32) (a2 : Int32) (h : Hp) (K : Int32 → Hp → Prop) : Prop := ∃ n9, V_X7_goBack_5 K n9 a0 a1 a2 0 0 h
def V_X7_cancel (a0 : Nat) (a1 : Int32) (h : Hp) (K : Int32 → Hp → Prop) : Prop := hK h a0 = 8 ∧ V_X7_noJob a0 a1 h (fun r1 h1 => (r1 = 0 → hK h1 a0 = 8 ∧ V_X7_ofJob a0 a1 3 h1 (fun r2 h2 => V_X7_in r2 0 1 h2 (fun r3 h3 => (¬ r3 = 0 → hK h3 a0 = 8 ∧ V_X7_record a0 h3 (fun h4 => hK h4 a0 = 8 ∧ V_X7_inFormeOf a0 a1 0 h4 (fun r4 h5 => hK h5 a0 = 8 ∧ V_X7_put a0 a1 3 4 h5 (fun h6 => hK h6 a0 = 8 ∧ V_X7_goBack a0 a1 0 h6 (fun r5 h7 => K (r4 - r5) h7))))) ∧ (r3 = 0 → K (-4) h3)))) ∧ (¬ r1 = 0 → K (-1) h1))
def V_X7_caseMetal_16 (K : Int32 → Hp → Prop) (C4 : Nat → Int32 → Int32 → Hp → Prop) : Nat → Nat → Int32 → Int32 → Int32 → Hp → Prop
  | 0, _, _, _, _, _ => False
  | n + 1, a0, a1, a2, a3, h => (29 ≤ a3 → C4 a0 a1 (a2 + 1) h) ∧ (¬ (29 ≤ a3) → hK h a0 = 8 ∧ V_X7_has a0 a2 a3 h (fun r1 h1 => V_X7_width a3 h1 (fun r2 h2 => V_X7_caseMetal_16 K C4 n a0 (a1 + (r1 * r2)) a2 (a3 + 1) h2)))
def V_X7_caseMetal_4 (K : Int32 → Hp → Prop) : Nat → Nat → Int32 → Int32 → Hp → Prop
  | 0, _, _, _, _ => False
  | n + 1, a0, a1, a2, h => hK h a0 = 8 ∧ hK h (hR h a0 0) = 30 ∧ vp_in 0 (hL h (hR h a0 0)) ∧ ((hI h (hR h a0 0) (ix 0)) ≤ a2 → K a1 h) ∧ (¬ ((hI h (hR h a0 0) (ix 0)) ≤ a2) → ∃ n9, V_X7_caseMetal_16 K (V_X7_caseMetal_4 K n) n9 a0 a1 a2 0 h)
def V_X7_caseMetal (a0 : Nat) (h : Hp) (K : Int32 → Hp → Prop) : Prop := ∃ n9, V_X7_caseMetal_4 K n9 a0 0 0 h
def V_X7_noCase_21 (K : Int32 → Hp → Prop) (s0 : Int32) (h : Hp) : Prop := (s0 = 0 ∨ s0 = 1) ∧ K s0 h
def V_X7_noCase (a0 : Nat) (a1 : Int32) (h : Hp) (K : Int32 → Hp → Prop) : Prop := hK h a0 = 8 ∧ hK h (hR h a0 0) = 30 ∧ vp_in 0 (hL h (hR h a0 0)) ∧ V_X7_in a1 0 ((hI h (hR h a0 0) (ix 0)) - 1) h (fun r1 h1 => (¬ r1 = 0 → V_X7_noCase_21 K 0 h1) ∧ (r1 = 0 → V_X7_noCase_21 K 1 h1))
def V_X7_noSort_15 (K : Int32 → Hp → Prop) (s0 : Int32) (h : Hp) : Prop := (s0 = 0 ∨ s0 = 1) ∧ K s0 h
def V_X7_noSort (a0 : Int32) (h : Hp) (K : Int32 → Hp → Prop) : Prop := V_X7_in a0 0 28 h (fun r1 h1 => (¬ r1 = 0 → V_X7_noSort_15 K 0 h1) ∧ (r1 = 0 → V_X7_noSort_15 K 1 h1))
def V_X7_casts (a0 : Nat) (a1 : Int32) (a2 : Int32) (a3 : Int32) (h : Hp) (K : Hp → Prop) : Prop := hK h a0 = 8 ∧ hK h (hR h a0 0) = 30 ∧ vp_in ((8 + (29 * a1)) + a2) (hL h (hR h a0 0)) ∧ hK h (hR h a0 0) = 30 ∧ vp_in ((8 + (29 * a1)) + a2) (hL h (hR h a0 0)) ∧ ∀ h1, h1 = sI h (hR h a0 0) (ix ((8 + (29 * a1)) + a2)) ((hI h (hR h a0 0) (ix ((8 + (29 * a1)) + a2))) + a3) → hK h1 a0 = 8 ∧ hK h1 (hR h1 a0 0) = 30 ∧ vp_in 2 (hL h1 (hR h1 a0 0)) ∧ V_X7_width a2 h1 (fun r1 h2 => hK h2 (hR h1 a0 0) = 30 ∧ vp_in 2 (hL h2 (hR h1 a0 0)) ∧ ∀ h3, h3 = sI h2 (hR h1 a0 0) (ix 2) ((hI h1 (hR h1 a0 0) (ix 2)) - (a3 * r1)) → hK h3 a0 = 8 ∧ hK h3 (hR h3 a0 0) = 30 ∧ vp_in 6 (hL h3 (hR h3 a0 0)) ∧ hK h3 (hR h3 a0 0) = 30 ∧ vp_in 6 (hL h3 (hR h3 a0 0)) ∧ ∀ h4, h4 = sI h3 (hR h3 a0 0) (ix 6) ((hI h3 (hR h3 a0 0) (ix 6)) + a3) → K h4)
def V_X7_cast_15 (K : Int32 → Hp → Prop) (h : Hp) : Prop := K (-1) h
def V_X7_cast (a0 : Nat) (a1 : Int32) (a2 : Int32) (a3 : Int32) (h : Hp) (K : Int32 → Hp → Prop) : Prop := hK h a0 = 8 ∧ V_X7_noCase a0 a1 h (fun r1 h1 => (¬ r1 = 0 → V_X7_cast_15 K  h1) ∧ (r1 = 0 → V_X7_noSort a2 h1 (fun r2 h2 => (r2 = 0 → V_X7_in a3 1 99 h2 (fun r3 h3 => (¬ r3 = 0 → hK h3 a0 = 8 ∧ V_X7_has a0 a1 a2 h3 (fun r4 h4 => ((r4 + a3) ≤ 99 → V_X7_width a2 h4 (fun r5 h5 => hK h5 a0 = 8 ∧ hK h5 (hR h5 a0 0) = 30 ∧ vp_in 2 (hL h5 (hR h5 a0 0)) ∧ ((a3 * r5) ≤ (hI h5 (hR h5 a0 0) (ix 2)) → hK h5 a0 = 8 ∧ V_X7_record a0 h5 (fun h6 => hK h6 a0 = 8 ∧ V_X7_casts a0 a1 a2 a3 h6 (fun h7 => hK h7 a0 = 8 ∧ V_X7_has a0 a1 a2 h7 (fun r6 h8 => K r6 h8)))) ∧ (¬ ((a3 * r5) ≤ (hI h5 (hR h5 a0 0) (ix 2))) → K (-4) h5))) ∧ (¬ ((r4 + a3) ≤ 99) → K (-3) h4))) ∧ (r3 = 0 → K (-2) h3))) ∧ (¬ r2 = 0 → V_X7_cast_15 K  h2))))
def V_X7_castFount_79 (K : Int32 → Hp → Prop) (C31 : Nat → Int32 → Int32 → Int32 → Int32 → Int32 → Hp → Prop) (a0 : Nat) (a1 : Int32) (a2 : Int32) (a3 : Int32) (a5 : Int32) (a6 : Int32) (s0 : Int32) (h : Hp) : Prop := V_X7_width a5 h (fun r1 h1 => C31 a0 a1 a2 (a3 + (a6 * r1)) s0 (a5 + 1) h1)
def V_X7_castFount_74 (K : Int32 → Hp → Prop) (C31 : Nat → Int32 → Int32 → Int32 → Int32 → Int32 → Hp → Prop) (a0 : Nat) (a1 : Int32) (a2 : Int32) (a3 : Int32) (a5 : Int32) (a6 : Int32) (h : Hp) : Prop := V_X7_castFount_79 K C31 a0 a1 a2 a3 a5 a6 1 h
def V_X7_castFount_52 (K : Int32 → Hp → Prop) (C31 : Nat → Int32 → Int32 → Int32 → Int32 → Int32 → Hp → Prop) (a0 : Nat) (a1 : Int32) (a2 : Int32) (a3 : Int32) (a4 : Int32) (a5 : Int32) (s0 : Int32) (h : Hp) : Prop := (¬ a4 = 0 → V_X7_castFount_74 K C31 a0 a1 a2 a3 a5 s0 h) ∧ (a4 = 0 → hK h a0 = 8 ∧ V_X7_has a0 a1 a5 h (fun r1 h1 => ((r1 + s0) ≤ 99 → V_X7_castFount_79 K C31 a0 a1 a2 a3 a5 s0 0 h1) ∧ (¬ ((r1 + s0) ≤ 99) → V_X7_castFount_74 K C31 a0 a1 a2 a3 a5 s0 h1)))
def V_X7_castFount_151 (K : Int32 → Hp → Prop) (C126 : Nat → Int32 → Int32 → Int32 → Hp → Prop) (a0 : Nat) (a1 : Int32) (a2 : Int32) (a5 : Int32) (s0 : Nat) (s1 : Int32) (s2 : Int32) (s3 : Int32) (h : Hp) : Prop := hK h s0 = 8 ∧ V_X7_casts s0 s1 s2 s3 h (fun h1 => C126 a0 a1 a2 (a5 + 1) h1)
def V_X7_castFount_126 (K : Int32 → Hp → Prop) : Nat → Nat → Int32 → Int32 → Int32 → Hp → Prop
  | 0, _, _, _, _, _ => False
  | n + 1, a0, a1, a2, a5, h => (29 ≤ a5 → K (32 * a2) h) ∧ (¬ (29 ≤ a5) → (26 ≤ a5 → V_X7_castFount_151 K (V_X7_castFount_126 K n) a0 a1 a2 a5 a0 a1 a5 (2 * a2) h) ∧ (¬ (26 ≤ a5) → V_X7_castFount_151 K (V_X7_castFount_126 K n) a0 a1 a2 a5 a0 a1 a5 a2 h))
def V_X7_castFount_31 (K : Int32 → Hp → Prop) : Nat → Nat → Int32 → Int32 → Int32 → Int32 → Int32 → Hp → Prop
  | 0, _, _, _, _, _, _, _ => False
  | n + 1, a0, a1, a2, a3, a4, a5, h => (29 ≤ a5 → (a4 = 0 → hK h a0 = 8 ∧ hK h (hR h a0 0) = 30 ∧ vp_in 2 (hL h (hR h a0 0)) ∧ (a3 ≤ (hI h (hR h a0 0) (ix 2)) → hK h a0 = 8 ∧ V_X7_record a0 h (fun h1 => ∃ n9, V_X7_castFount_126 K n9 a0 a1 a2 0 h1)) ∧ (¬ (a3 ≤ (hI h (hR h a0 0) (ix 2))) → K (-4) h)) ∧ (¬ a4 = 0 → K (-3) h)) ∧ (¬ (29 ≤ a5) → (26 ≤ a5 → V_X7_castFount_52 K (V_X7_castFount_31 K n) a0 a1 a2 a3 a4 a5 (2 * a2) h) ∧ (¬ (26 ≤ a5) → V_X7_castFount_52 K (V_X7_castFount_31 K n) a0 a1 a2 a3 a4 a5 a2 h))
def V_X7_castFount (a0 : Nat) (a1 : Int32) (a2 : Int32) (h : Hp) (K : Int32 → Hp → Prop) : Prop := hK h a0 = 8 ∧ V_X7_noCase a0 a1 h (fun r1 h1 => (r1 = 0 → V_X7_in a2 1 9 h1 (fun r2 h2 => (¬ r2 = 0 → ∃ n9, V_X7_castFount_31 K n9 a0 a1 a2 0 0 0 h2) ∧ (r2 = 0 → K (-2) h2))) ∧ (¬ r1 = 0 → K (-1) h1))
def V_X7_isLetter (a0 : Int32) (h : Hp) (K : Int32 → Hp → Prop) : Prop := V_X7_in a0 97 122 h (fun r1 h1 => (r1 = 0 ∨ r1 = 1) ∧ K r1 h1)
def V_X7_layLine_62 (K : Hp → Prop) (C9 : Nat → Int32 → Int32 → Int32 → Int32 → Int32 → Hp → Prop) (a0 : Nat) (a1 : Int32) (a2 : Int32) (a4 : Int32) (a5 : Int32) (a6 : Int32) (h : Hp) : Prop := C9 a0 a1 a2 a4 a5 (a6 + 1) h
def V_X7_layLine_180 (K : Hp → Prop) (C145 : Nat → Int32 → Int32 → Int32 → Hp → Prop) (a0 : Nat) (a5 : Int32) (a6 : Int32) (a7 : Int32) (s0 : Nat) (s1 : Int32) (s2 : Int32) (s3 : Int32) (h : Hp) : Prop := hK h s0 = 30 ∧ vp_in s1 (hL h s0) ∧ ∀ h1, h1 = sI h s0 (ix s1) (s2 + s3) → hK h1 a0 = 8 ∧ hK h1 a0 = 8 ∧ ∀ h2, h2 = sI h1 a0 11 ((hI h1 a0 11) + 1) → C145 a0 a5 a6 (a7 + 1) h2
def V_X7_layLine_145 (K : Hp → Prop) : Nat → Nat → Int32 → Int32 → Int32 → Hp → Prop
  | 0, _, _, _, _, _ => False
  | n + 1, a0, a5, a6, a7, h => (a6 ≤ a7 → hK h a0 = 8 ∧ hK h a0 = 8 ∧ ∀ h1, h1 = sI h a0 9 ((hI h a0 9) + 1) → hK h1 a0 = 8 ∧ hK h1 a0 = 8 ∧ hK h1 a0 = 8 ∧ hK h1 (hR h1 a0 14) = 30 ∧ vp_in (hI h1 a0 9) (hL h1 (hR h1 a0 14)) ∧ ∀ h2, h2 = sI h1 (hR h1 a0 14) (ix (hI h1 a0 9)) (hI h1 a0 11) → K h2) ∧ (¬ (a6 ≤ a7) → hK h a0 = 8 ∧ hK h a0 = 8 ∧ ¬ a6 = 0 ∧ ¬ a6 = 0 ∧ ((a5 - a5 / a6 * a6) ≤ a7 → V_X7_layLine_180 K (V_X7_layLine_145 K n) a0 a5 a6 a7 (hR h a0 15) (hI h a0 11) (a5 / a6) 0 h) ∧ (¬ ((a5 - a5 / a6 * a6) ≤ a7) → V_X7_layLine_180 K (V_X7_layLine_145 K n) a0 a5 a6 a7 (hR h a0 15) (hI h a0 11) (a5 / a6) 1 h))
def V_X7_layLine_107 (K : Hp → Prop) (a0 : Nat) (a1 : Int32) (a2 : Int32) (a5 : Int32) (s0 : Int32) (h : Hp) : Prop := hK h a0 = 8 ∧ hK h a0 = 8 ∧ hK h (hR h a0 12) = 30 ∧ vp_in (hI h a0 9) (hL h (hR h a0 12)) ∧ ∀ h1, h1 = sI h (hR h a0 12) (ix (hI h a0 9)) a1 → hK h1 a0 = 8 ∧ hK h1 a0 = 8 ∧ hK h1 (hR h1 a0 13) = 30 ∧ vp_in (hI h1 a0 9) (hL h1 (hR h1 a0 13)) ∧ ∀ h2, h2 = sI h1 (hR h1 a0 13) (ix (hI h1 a0 9)) a2 → hK h2 a0 = 8 ∧ hK h2 a0 = 8 ∧ hK h2 a0 = 8 ∧ hK h2 (hR h2 a0 14) = 30 ∧ vp_in (hI h2 a0 9) (hL h2 (hR h2 a0 14)) ∧ ∀ h3, h3 = sI h2 (hR h2 a0 14) (ix (hI h2 a0 9)) (hI h2 a0 11) → ∃ n9, V_X7_layLine_145 K n9 a0 a5 s0 0 h3
def V_X7_layLine_90 (K : Hp → Prop) (a0 : Nat) (a1 : Int32) (a2 : Int32) (a4 : Int32) (a5 : Int32) (s0 : Nat) (s1 : Int32) (h : Hp) : Prop := hK h s0 = 8 ∧ (s1 = 0 ∨ s1 = 1) ∧ ∀ h1, h1 = sI h s0 16 s1 → (a4 ≤ 1 → V_X7_layLine_107 K a0 a1 a2 a5 1 h1) ∧ (¬ (a4 ≤ 1) → V_X7_layLine_107 K a0 a1 a2 a5 (a4 - 1) h1)
def V_X7_layLine_85 (K : Hp → Prop) (a0 : Nat) (a1 : Int32) (a2 : Int32) (a4 : Int32) (a5 : Int32) (s0 : Nat) (h : Hp) : Prop := V_X7_layLine_90 K a0 a1 a2 a4 a5 s0 1 h
def V_X7_layLine_9 (K : Hp → Prop) : Nat → Nat → Int32 → Int32 → Int32 → Int32 → Int32 → Hp → Prop
  | 0, _, _, _, _, _, _, _ => False
  | n + 1, a0, a1, a2, a4, a5, a6, h => (a2 ≤ a6 → hK h a0 = 8 ∧ (¬ (hI h a0 16) = 0 → V_X7_layLine_85 K a0 a1 a2 a4 a5 a0 h) ∧ ((hI h a0 16) = 0 → ((a4 - 1) ≤ a5 → V_X7_layLine_90 K a0 a1 a2 a4 a5 a0 0 h) ∧ (¬ ((a4 - 1) ≤ a5) → V_X7_layLine_85 K a0 a1 a2 a4 a5 a0 h))) ∧ (¬ (a2 ≤ a6) → hK h a0 = 8 ∧ hK h (hR h a0 8) = 30 ∧ vp_in a6 (hL h (hR h a0 8)) ∧ V_X7_isLetter (hI h (hR h a0 8) (ix a6)) h (fun r1 h1 => (r1 = 0 → V_X7_layLine_62 K (V_X7_layLine_9 K n) a0 a1 a2 (a4 + 1) a5 a6 h1) ∧ (¬ r1 = 0 → hK h1 a0 = 8 ∧ hK h1 (hR h1 a0 8) = 30 ∧ vp_in a6 (hL h1 (hR h1 a0 8)) ∧ V_X7_width ((hI h1 (hR h1 a0 8) (ix a6)) - 97) h1 (fun r2 h2 => hK h2 a0 = 8 ∧ hK h2 a0 = 8 ∧ ∀ h3, h3 = sI h2 a0 10 ((hI h2 a0 10) + 1) → V_X7_layLine_62 K (V_X7_layLine_9 K n) a0 a1 a2 a4 (a5 - r2) a6 h3))))
def V_X7_layLine (a0 : Nat) (a1 : Int32) (a2 : Int32) (a3 : Int32) (h : Hp) (K : Hp → Prop) : Prop := ∃ n9, V_X7_layLine_9 K n9 a0 a1 a2 1 a3 a1 h
def V_X7_layLines_62 (K : Hp → Prop) (C24 : Nat → Int32 → Int32 → Int32 → Hp → Prop) (a0 : Nat) (a1 : Int32) (a2 : Int32) (a3 : Int32) (h : Hp) : Prop := C24 a0 a1 a2 (a3 + 1) h
def V_X7_layLines_51 (K : Hp → Prop) (C24 : Nat → Int32 → Int32 → Int32 → Hp → Prop) (a0 : Nat) (a1 : Int32) (a2 : Int32) (a3 : Int32) (h : Hp) : Prop := hK h a0 = 8 ∧ V_X7_layLine a0 a2 a3 a1 h (fun h1 => V_X7_layLines_62 K C24 a0 a1 (a3 + 1) a3 h1)
def V_X7_layLines_24 (K : Hp → Prop) : Nat → Nat → Int32 → Int32 → Int32 → Hp → Prop
  | 0, _, _, _, _, _ => False
  | n + 1, a0, a1, a2, a3, h => hK h a0 = 8 ∧ ((hI h a0 7) < a3 → K h) ∧ (¬ ((hI h a0 7) < a3) → hK h a0 = 8 ∧ (a3 = (hI h a0 7) → V_X7_layLines_51 K (V_X7_layLines_24 K n) a0 a1 a2 a3 h) ∧ (¬ a3 = (hI h a0 7) → hK h a0 = 8 ∧ hK h (hR h a0 8) = 30 ∧ vp_in a3 (hL h (hR h a0 8)) ∧ (¬ (hI h (hR h a0 8) (ix a3)) = 47 → V_X7_layLines_62 K (V_X7_layLines_24 K n) a0 a1 a2 a3 h) ∧ ((hI h (hR h a0 8) (ix a3)) = 47 → V_X7_layLines_51 K (V_X7_layLines_24 K n) a0 a1 a2 a3 h)))
def V_X7_layLines (a0 : Nat) (a1 : Int32) (h : Hp) (K : Hp → Prop) : Prop := hK h a0 = 8 ∧ ∀ h1, h1 = sI h a0 9 0 → hK h1 a0 = 8 ∧ ∀ h2, h2 = sI h1 a0 10 0 → hK h2 a0 = 8 ∧ ∀ h3, h3 = sI h2 a0 11 0 → hK h3 a0 = 8 ∧ ((0 : Int32) = 0 ∨ (0 : Int32) = 1) ∧ ∀ h4, h4 = sI h3 a0 16 0 → ∃ n9, V_X7_layLines_24 K n9 a0 a1 0 0 h4
def V_X7_layJob_13 (K : Hp → Prop) : Nat → Nat → Int32 → Int32 → Hp → Prop
  | 0, _, _, _, _ => False
  | n + 1, a0, a1, a2, h => hK h a0 = 8 ∧ ((hI h a0 7) ≤ a2 → hK h a0 = 8 ∧ V_X7_ofJob a0 a1 1 h (fun r1 h1 => hK h1 a0 = 8 ∧ V_X7_layLines a0 r1 h1 (fun h2 => K h2))) ∧ (¬ ((hI h a0 7) ≤ a2) → hK h a0 = 8 ∧ hK h a0 = 8 ∧ V_X7_ofJob a0 a1 (7 + a2) h (fun r1 h1 => hK h1 (hR h a0 8) = 30 ∧ vp_in a2 (hL h1 (hR h a0 8)) ∧ ∀ h2, h2 = sI h1 (hR h a0 8) (ix a2) r1 → V_X7_layJob_13 K n a0 a1 (a2 + 1) h2))
def V_X7_layJob (a0 : Nat) (a1 : Int32) (h : Hp) (K : Hp → Prop) : Prop := hK h a0 = 8 ∧ V_X7_ofJob a0 a1 6 h (fun r1 h1 => hK h1 a0 = 8 ∧ ∀ h2, h2 = sI h1 a0 7 r1 → ∃ n9, V_X7_layJob_13 K n9 a0 a1 0 h2)
def V_X7_hasForme_25 (K : Int32 → Hp → Prop) (s0 : Int32) (h : Hp) : Prop := (s0 = 0 ∨ s0 = 1) ∧ K s0 h
def V_X7_hasForme_20 (K : Int32 → Hp → Prop) (h : Hp) : Prop := V_X7_hasForme_25 K 1 h
def V_X7_hasForme (a0 : Nat) (a1 : Int32) (h : Hp) (K : Int32 → Hp → Prop) : Prop := hK h a0 = 8 ∧ V_X7_ofJob a0 a1 3 h (fun r1 h1 => (r1 = 1 → V_X7_hasForme_20 K  h1) ∧ (¬ r1 = 1 → hK h1 a0 = 8 ∧ V_X7_ofJob a0 a1 3 h1 (fun r2 h2 => (¬ r2 = 2 → V_X7_hasForme_25 K 0 h2) ∧ (r2 = 2 → V_X7_hasForme_20 K  h2))))
def V_X7_layNeeds_71 (K : Hp → Prop) (C7 : Nat → Int32 → Int32 → Hp → Prop) (C29 : Nat → Int32 → Int32 → Int32 → Hp → Prop) (a0 : Nat) (a1 : Int32) (a2 : Int32) (a3 : Int32) (s0 : Nat) (s1 : Int32) (s2 : Int32) (s3 : Int32) (s4 : Int32) (h : Hp) : Prop := hK h s0 = 30 ∧ vp_in s1 (hL h s0) ∧ ∀ h1, h1 = sI h s0 (ix s1) (s2 + (s3 + s4)) → C29 a0 a1 a2 (a3 + 1) h1
def V_X7_layNeeds_29 (K : Hp → Prop) (C7 : Nat → Int32 → Int32 → Hp → Prop) : Nat → Nat → Int32 → Int32 → Int32 → Hp → Prop
  | 0, _, _, _, _, _ => False
  | n + 1, a0, a1, a2, a3, h => hK h a0 = 8 ∧ hK h (hR h a0 0) = 30 ∧ vp_in 0 (hL h (hR h a0 0)) ∧ ((hI h (hR h a0 0) (ix 0)) ≤ a3 → C7 a0 a1 (a2 + 1) h) ∧ (¬ ((hI h (hR h a0 0) (ix 0)) ≤ a3) → hK h a0 = 8 ∧ hK h (hR h a0 18) = 30 ∧ vp_in a2 (hL h (hR h a0 18)) ∧ hK h a0 = 8 ∧ V_X7_has a0 a3 a2 h (fun r1 h1 => hK h1 a0 = 8 ∧ V_X7_hasForme a0 a1 h1 (fun r2 h2 => (r2 = 0 → V_X7_layNeeds_71 K C7 (V_X7_layNeeds_29 K C7 n) a0 a1 a2 a3 (hR h a0 18) a2 (hI h (hR h a0 18) (ix a2)) r1 0 h2) ∧ (¬ r2 = 0 → hK h2 a0 = 8 ∧ V_X7_inForme a0 a1 a3 a2 h2 (fun r3 h3 => V_X7_layNeeds_71 K C7 (V_X7_layNeeds_29 K C7 n) a0 a1 a2 a3 (hR h a0 18) a2 (hI h (hR h a0 18) (ix a2)) r1 r3 h3)))))
def V_X7_layNeeds_126 (K : Hp → Prop) (C88 : Nat → Int32 → Hp → Prop) (a0 : Nat) (a2 : Int32) (h : Hp) : Prop := C88 a0 (a2 + 1) h
def V_X7_layNeeds_134 (K : Hp → Prop) : Nat → Nat → Int32 → Hp → Prop
  | 0, _, _, _ => False
  | n + 1, a0, a2, h => hK h a0 = 8 ∧ ((hI h a0 11) ≤ a2 → K h) ∧ (¬ ((hI h a0 11) ≤ a2) → hK h a0 = 8 ∧ hK h a0 = 8 ∧ hK h (hR h a0 15) = 30 ∧ vp_in a2 (hL h (hR h a0 15)) ∧ hK h a0 = 8 ∧ hK h (hR h a0 18) = 30 ∧ vp_in 26 (hL h (hR h a0 18)) ∧ hK h a0 = 8 ∧ hK h (hR h a0 17) = 30 ∧ vp_in 26 (hL h (hR h a0 17)) ∧ V_X7_least ((hI h (hR h a0 15) (ix a2)) / 4) ((hI h (hR h a0 18) (ix 26)) - (hI h (hR h a0 17) (ix 26))) h (fun r1 h1 => hK h1 (hR h a0 19) = 30 ∧ vp_in a2 (hL h1 (hR h a0 19)) ∧ ∀ h2, h2 = sI h1 (hR h a0 19) (ix a2) r1 → hK h2 a0 = 8 ∧ hK h2 (hR h2 a0 17) = 30 ∧ vp_in 26 (hL h2 (hR h2 a0 17)) ∧ hK h2 a0 = 8 ∧ hK h2 (hR h2 a0 19) = 30 ∧ vp_in a2 (hL h2 (hR h2 a0 19)) ∧ hK h2 (hR h2 a0 17) = 30 ∧ vp_in 26 (hL h2 (hR h2 a0 17)) ∧ ∀ h3, h3 = sI h2 (hR h2 a0 17) (ix 26) ((hI h2 (hR h2 a0 17) (ix 26)) + (hI h2 (hR h2 a0 19) (ix a2))) → hK h3 a0 = 8 ∧ hK h3 (hR h3 a0 15) = 30 ∧ vp_in a2 (hL h3 (hR h3 a0 15)) ∧ hK h3 a0 = 8 ∧ hK h3 (hR h3 a0 19) = 30 ∧ vp_in a2 (hL h3 (hR h3 a0 19)) ∧ hK h3 a0 = 8 ∧ hK h3 a0 = 8 ∧ hK h3 (hR h3 a0 18) = 30 ∧ vp_in 27 (hL h3 (hR h3 a0 18)) ∧ hK h3 a0 = 8 ∧ hK h3 (hR h3 a0 17) = 30 ∧ vp_in 27 (hL h3 (hR h3 a0 17)) ∧ V_X7_least (((hI h3 (hR h3 a0 15) (ix a2)) - (4 * (hI h3 (hR h3 a0 19) (ix a2)))) / 2) ((hI h3 (hR h3 a0 18) (ix 27)) - (hI h3 (hR h3 a0 17) (ix 27))) h3 (fun r2 h4 => hK h4 (hR h3 a0 20) = 30 ∧ vp_in a2 (hL h4 (hR h3 a0 20)) ∧ ∀ h5, h5 = sI h4 (hR h3 a0 20) (ix a2) r2 → hK h5 a0 = 8 ∧ hK h5 (hR h5 a0 17) = 30 ∧ vp_in 27 (hL h5 (hR h5 a0 17)) ∧ hK h5 a0 = 8 ∧ hK h5 (hR h5 a0 20) = 30 ∧ vp_in a2 (hL h5 (hR h5 a0 20)) ∧ hK h5 (hR h5 a0 17) = 30 ∧ vp_in 27 (hL h5 (hR h5 a0 17)) ∧ ∀ h6, h6 = sI h5 (hR h5 a0 17) (ix 27) ((hI h5 (hR h5 a0 17) (ix 27)) + (hI h5 (hR h5 a0 20) (ix a2))) → hK h6 a0 = 8 ∧ hK h6 a0 = 8 ∧ hK h6 (hR h6 a0 20) = 30 ∧ vp_in a2 (hL h6 (hR h6 a0 20)) ∧ hK h6 (hR h6 a0 21) = 30 ∧ vp_in a2 (hL h6 (hR h6 a0 21)) ∧ ∀ h7, h7 = sI h6 (hR h6 a0 21) (ix a2) (((hI h3 (hR h3 a0 15) (ix a2)) - (4 * (hI h3 (hR h3 a0 19) (ix a2)))) - (2 * (hI h6 (hR h6 a0 20) (ix a2)))) → hK h7 a0 = 8 ∧ hK h7 (hR h7 a0 17) = 30 ∧ vp_in 28 (hL h7 (hR h7 a0 17)) ∧ hK h7 a0 = 8 ∧ hK h7 (hR h7 a0 21) = 30 ∧ vp_in a2 (hL h7 (hR h7 a0 21)) ∧ hK h7 (hR h7 a0 17) = 30 ∧ vp_in 28 (hL h7 (hR h7 a0 17)) ∧ ∀ h8, h8 = sI h7 (hR h7 a0 17) (ix 28) ((hI h7 (hR h7 a0 17) (ix 28)) + (hI h7 (hR h7 a0 21) (ix a2))) → V_X7_layNeeds_134 K n a0 (a2 + 1) h8)))
def V_X7_layNeeds_88 (K : Hp → Prop) : Nat → Nat → Int32 → Hp → Prop
  | 0, _, _, _ => False
  | n + 1, a0, a2, h => hK h a0 = 8 ∧ ((hI h a0 7) ≤ a2 → ∃ n9, V_X7_layNeeds_134 K n9 a0 0 h) ∧ (¬ ((hI h a0 7) ≤ a2) → hK h a0 = 8 ∧ hK h (hR h a0 8) = 30 ∧ vp_in a2 (hL h (hR h a0 8)) ∧ V_X7_isLetter (hI h (hR h a0 8) (ix a2)) h (fun r1 h1 => (r1 = 0 → V_X7_layNeeds_126 K (V_X7_layNeeds_88 K n) a0 a2 h1) ∧ (¬ r1 = 0 → hK h1 a0 = 8 ∧ hK h1 a0 = 8 ∧ hK h1 (hR h1 a0 8) = 30 ∧ vp_in a2 (hL h1 (hR h1 a0 8)) ∧ hK h1 (hR h1 a0 17) = 30 ∧ vp_in ((hI h1 (hR h1 a0 8) (ix a2)) - 97) (hL h1 (hR h1 a0 17)) ∧ hK h1 (hR h1 a0 17) = 30 ∧ vp_in ((hI h1 (hR h1 a0 8) (ix a2)) - 97) (hL h1 (hR h1 a0 17)) ∧ ∀ h2, h2 = sI h1 (hR h1 a0 17) (ix ((hI h1 (hR h1 a0 8) (ix a2)) - 97)) ((hI h1 (hR h1 a0 17) (ix ((hI h1 (hR h1 a0 8) (ix a2)) - 97))) + 1) → V_X7_layNeeds_126 K (V_X7_layNeeds_88 K n) a0 a2 h2)))
def V_X7_layNeeds_7 (K : Hp → Prop) : Nat → Nat → Int32 → Int32 → Hp → Prop
  | 0, _, _, _, _ => False
  | n + 1, a0, a1, a2, h => (29 ≤ a2 → ∃ n9, V_X7_layNeeds_88 K n9 a0 0 h) ∧ (¬ (29 ≤ a2) → hK h a0 = 8 ∧ hK h (hR h a0 17) = 30 ∧ vp_in a2 (hL h (hR h a0 17)) ∧ ∀ h1, h1 = sI h (hR h a0 17) (ix a2) 0 → hK h1 a0 = 8 ∧ hK h1 (hR h1 a0 18) = 30 ∧ vp_in a2 (hL h1 (hR h1 a0 18)) ∧ ∀ h2, h2 = sI h1 (hR h1 a0 18) (ix a2) 0 → ∃ n9, V_X7_layNeeds_29 K (V_X7_layNeeds_7 K n) n9 a0 a1 a2 0 h2)
def V_X7_layNeeds (a0 : Nat) (a1 : Int32) (h : Hp) (K : Hp → Prop) : Prop := hK h a0 = 8 ∧ V_X7_layJob a0 a1 h (fun h1 => ∃ n9, V_X7_layNeeds_7 K n9 a0 a1 0 h1)
def V_X7_castMissing_100 (K : Int32 → Hp → Prop) (C55 : Nat → Int32 → Int32 → Int32 → Int32 → Int32 → Hp → Prop) (a0 : Nat) (a2 : Int32) (a3 : Int32) (a4 : Int32) (a6 : Int32) (s0 : Int32) (h : Hp) : Prop := hK h a0 = 8 ∧ V_X7_lacks a0 a6 h (fun r1 h1 => V_X7_width a6 h1 (fun r2 h2 => C55 a0 a2 a3 (a4 + (r1 * r2)) s0 (a6 + 1) h2))
def V_X7_castMissing_95 (K : Int32 → Hp → Prop) (C55 : Nat → Int32 → Int32 → Int32 → Int32 → Int32 → Hp → Prop) (a0 : Nat) (a2 : Int32) (a3 : Int32) (a4 : Int32) (a6 : Int32) (h : Hp) : Prop := V_X7_castMissing_100 K C55 a0 a2 a3 a4 a6 1 h
def V_X7_castMissing_99 (K : Int32 → Hp → Prop) (C55 : Nat → Int32 → Int32 → Int32 → Int32 → Int32 → Hp → Prop) (a0 : Nat) (a2 : Int32) (a3 : Int32) (a4 : Int32) (a6 : Int32) (h : Hp) : Prop := V_X7_castMissing_100 K C55 a0 a2 a3 a4 a6 0 h
def V_X7_castMissing_154 (K : Int32 → Hp → Prop) : Nat → Nat → Int32 → Int32 → Int32 → Hp → Prop
  | 0, _, _, _, _, _ => False
  | n + 1, a0, a2, a3, a6, h => (29 ≤ a6 → K a2 h) ∧ (¬ (29 ≤ a6) → hK h a0 = 8 ∧ V_X7_lacks a0 a6 h (fun r1 h1 => hK h1 a0 = 8 ∧ V_X7_casts a0 a3 a6 r1 h1 (fun h2 => V_X7_castMissing_154 K n a0 a2 a3 (a6 + 1) h2)))
def V_X7_castMissing_55 (K : Int32 → Hp → Prop) : Nat → Nat → Int32 → Int32 → Int32 → Int32 → Int32 → Hp → Prop
  | 0, _, _, _, _, _, _, _ => False
  | n + 1, a0, a2, a3, a4, a5, a6, h => (29 ≤ a6 → (a5 = 0 → hK h a0 = 8 ∧ hK h (hR h a0 0) = 30 ∧ vp_in 2 (hL h (hR h a0 0)) ∧ (a4 ≤ (hI h (hR h a0 0) (ix 2)) → hK h a0 = 8 ∧ V_X7_record a0 h (fun h1 => ∃ n9, V_X7_castMissing_154 K n9 a0 a2 a3 0 h1)) ∧ (¬ (a4 ≤ (hI h (hR h a0 0) (ix 2))) → K (-4) h)) ∧ (¬ a5 = 0 → K (-3) h)) ∧ (¬ (29 ≤ a6) → (¬ a5 = 0 → V_X7_castMissing_95 K (V_X7_castMissing_55 K n) a0 a2 a3 a4 a6 h) ∧ (a5 = 0 → hK h a0 = 8 ∧ V_X7_lacks a0 a6 h (fun r1 h1 => (r1 ≤ 0 → V_X7_castMissing_99 K (V_X7_castMissing_55 K n) a0 a2 a3 a4 a6 h1) ∧ (¬ (r1 ≤ 0) → hK h1 a0 = 8 ∧ V_X7_has a0 a3 a6 h1 (fun r2 h2 => hK h2 a0 = 8 ∧ V_X7_lacks a0 a6 h2 (fun r3 h3 => ((r2 + r3) ≤ 99 → V_X7_castMissing_99 K (V_X7_castMissing_55 K n) a0 a2 a3 a4 a6 h3) ∧ (¬ ((r2 + r3) ≤ 99) → V_X7_castMissing_95 K (V_X7_castMissing_55 K n) a0 a2 a3 a4 a6 h3)))))))
def V_X7_castMissing (a0 : Nat) (a1 : Int32) (h : Hp) (K : Int32 → Hp → Prop) : Prop := hK h a0 = 8 ∧ V_X7_noJob a0 a1 h (fun r1 h1 => (r1 = 0 → hK h1 a0 = 8 ∧ V_X7_ofJob a0 a1 3 h1 (fun r2 h2 => (r2 = 0 → hK h2 a0 = 8 ∧ V_X7_layNeeds a0 a1 h2 (fun h3 => hK h3 a0 = 8 ∧ V_X7_allLacks a0 h3 (fun r3 h4 => (¬ r3 = 0 → hK h4 a0 = 8 ∧ V_X7_ofJob a0 a1 0 h4 (fun r4 h5 => ∃ n9, V_X7_castMissing_55 K n9 a0 r3 r4 0 0 0 h5)) ∧ (r3 = 0 → K (-5) h4)))) ∧ (¬ r2 = 0 → K (-4) h2))) ∧ (¬ r1 = 0 → K (-1) h1))
def V_X7_clearText (a0 : Nat) (h : Hp) (K : Int32 → Hp → Prop) : Prop := hK h a0 = 8 ∧ hK h a0 = 8 ∧ ∀ h1, h1 = sI h a0 5 0 → K (hI h a0 5) h1
def V_X7_formeMetal_29 (K : Int32 → Hp → Prop) (C4 : Nat → Int32 → Int32 → Hp → Prop) (C16 : Nat → Int32 → Int32 → Int32 → Hp → Prop) : Nat → Nat → Int32 → Int32 → Int32 → Int32 → Hp → Prop
  | 0, _, _, _, _, _, _ => False
  | n + 1, a0, a1, a2, a3, a4, h => (29 ≤ a4 → C16 a0 a1 a2 (a3 + 1) h) ∧ (¬ (29 ≤ a4) → hK h a0 = 8 ∧ V_X7_inForme a0 a2 a3 a4 h (fun r1 h1 => V_X7_width a4 h1 (fun r2 h2 => V_X7_formeMetal_29 K C4 C16 n a0 (a1 + (r1 * r2)) a2 a3 (a4 + 1) h2)))
def V_X7_formeMetal_16 (K : Int32 → Hp → Prop) (C4 : Nat → Int32 → Int32 → Hp → Prop) : Nat → Nat → Int32 → Int32 → Int32 → Hp → Prop
  | 0, _, _, _, _, _ => False
  | n + 1, a0, a1, a2, a3, h => hK h a0 = 8 ∧ hK h (hR h a0 0) = 30 ∧ vp_in 0 (hL h (hR h a0 0)) ∧ ((hI h (hR h a0 0) (ix 0)) ≤ a3 → C4 a0 a1 (a2 + 1) h) ∧ (¬ ((hI h (hR h a0 0) (ix 0)) ≤ a3) → ∃ n9, V_X7_formeMetal_29 K C4 (V_X7_formeMetal_16 K C4 n) n9 a0 a1 a2 a3 0 h)
def V_X7_formeMetal_4 (K : Int32 → Hp → Prop) : Nat → Nat → Int32 → Int32 → Hp → Prop
  | 0, _, _, _, _ => False
  | n + 1, a0, a1, a2, h => hK h a0 = 8 ∧ hK h (hR h a0 0) = 30 ∧ vp_in 1 (hL h (hR h a0 0)) ∧ ((hI h (hR h a0 0) (ix 1)) ≤ a2 → K a1 h) ∧ (¬ ((hI h (hR h a0 0) (ix 1)) ≤ a2) → ∃ n9, V_X7_formeMetal_16 K (V_X7_formeMetal_4 K n) n9 a0 a1 a2 0 h)
def V_X7_formeMetal (a0 : Nat) (h : Hp) (K : Int32 → Hp → Prop) : Prop := ∃ n9, V_X7_formeMetal_4 K n9 a0 0 0 h
def V_X7_inBox_4 (K : Int32 → Hp → Prop) : Nat → Nat → Int32 → Int32 → Hp → Prop
  | 0, _, _, _, _ => False
  | n + 1, a0, a1, a2, h => (29 ≤ a2 → K a1 h) ∧ (¬ (29 ≤ a2) → hK h a0 = 8 ∧ hK h (hR h a0 0) = 30 ∧ vp_in (182 + a2) (hL h (hR h a0 0)) ∧ V_X7_inBox_4 K n a0 (a1 + (hI h (hR h a0 0) (ix (182 + a2)))) (a2 + 1) h)
def V_X7_inBox (a0 : Nat) (h : Hp) (K : Int32 → Hp → Prop) : Prop := ∃ n9, V_X7_inBox_4 K n9 a0 0 0 h
def V_X7_lateDays_34 (K : Int32 → Hp → Prop) (C4 : Nat → Int32 → Int32 → Hp → Prop) (a0 : Nat) (a2 : Int32) (s0 : Int32) (s1 : Int32) (h : Hp) : Prop := C4 a0 (s0 + s1) (a2 + 1) h
def V_X7_lateDays_4 (K : Int32 → Hp → Prop) : Nat → Nat → Int32 → Int32 → Hp → Prop
  | 0, _, _, _, _ => False
  | n + 1, a0, a1, a2, h => hK h a0 = 8 ∧ hK h (hR h a0 0) = 30 ∧ vp_in 1 (hL h (hR h a0 0)) ∧ ((hI h (hR h a0 0) (ix 1)) ≤ a2 → K a1 h) ∧ (¬ ((hI h (hR h a0 0) (ix 1)) ≤ a2) → hK h a0 = 8 ∧ V_X7_ofJob a0 a2 5 h (fun r1 h1 => (r1 ≤ 0 → V_X7_lateDays_34 K (V_X7_lateDays_4 K n) a0 a2 a1 0 h1) ∧ (¬ (r1 ≤ 0) → hK h1 a0 = 8 ∧ V_X7_ofJob a0 a2 5 h1 (fun r2 h2 => V_X7_lateDays_34 K (V_X7_lateDays_4 K n) a0 a2 a1 r2 h2))))
def V_X7_lateDays (a0 : Nat) (h : Hp) (K : Int32 → Hp → Prop) : Prop := ∃ n9, V_X7_lateDays_4 K n9 a0 0 0 h
def V_X7_isToDo (a0 : Nat) (a1 : Int32) (h : Hp) (K : Int32 → Hp → Prop) : Prop := hK h a0 = 8 ∧ V_X7_ofJob a0 a1 3 h (fun r1 h1 => V_X7_in r1 0 1 h1 (fun r2 h2 => (r2 = 0 ∨ r2 = 1) ∧ K r2 h2))
def V_X7_pastDue_43 (K : Int32 → Hp → Prop) (C4 : Nat → Int32 → Int32 → Hp → Prop) (a0 : Nat) (a2 : Int32) (s0 : Int32) (s1 : Int32) (h : Hp) : Prop := C4 a0 (s0 + s1) (a2 + 1) h
def V_X7_pastDue_42 (K : Int32 → Hp → Prop) (C4 : Nat → Int32 → Int32 → Hp → Prop) (a0 : Nat) (a2 : Int32) (s0 : Int32) (h : Hp) : Prop := V_X7_pastDue_43 K C4 a0 a2 s0 0 h
def V_X7_pastDue_4 (K : Int32 → Hp → Prop) : Nat → Nat → Int32 → Int32 → Hp → Prop
  | 0, _, _, _, _ => False
  | n + 1, a0, a1, a2, h => hK h a0 = 8 ∧ hK h (hR h a0 0) = 30 ∧ vp_in 1 (hL h (hR h a0 0)) ∧ ((hI h (hR h a0 0) (ix 1)) ≤ a2 → K a1 h) ∧ (¬ ((hI h (hR h a0 0) (ix 1)) ≤ a2) → hK h a0 = 8 ∧ V_X7_isToDo a0 a2 h (fun r1 h1 => (r1 = 0 → V_X7_pastDue_42 K (V_X7_pastDue_4 K n) a0 a2 a1 h1) ∧ (¬ r1 = 0 → hK h1 a0 = 8 ∧ V_X7_ofJob a0 a2 2 h1 (fun r2 h2 => hK h2 a0 = 8 ∧ hK h2 (hR h2 a0 0) = 30 ∧ vp_in 3 (hL h2 (hR h2 a0 0)) ∧ ((hI h2 (hR h2 a0 0) (ix 3)) ≤ r2 → V_X7_pastDue_42 K (V_X7_pastDue_4 K n) a0 a2 a1 h2) ∧ (¬ ((hI h2 (hR h2 a0 0) (ix 3)) ≤ r2) → V_X7_pastDue_43 K (V_X7_pastDue_4 K n) a0 a2 a1 1 h2)))))
def V_X7_pastDue (a0 : Nat) (h : Hp) (K : Int32 → Hp → Prop) : Prop := ∃ n9, V_X7_pastDue_4 K n9 a0 0 0 h
def V_X7_count (a0 : Nat) (a1 : Int32) (h : Hp) (K : Int32 → Hp → Prop) : Prop := (a1.toInt = 0 → hK h a0 = 8 ∧ hK h (hR h a0 0) = 30 ∧ vp_in 0 (hL h (hR h a0 0)) ∧ K (hI h (hR h a0 0) (ix 0)) h) ∧ (a1.toInt = 1 → hK h a0 = 8 ∧ hK h (hR h a0 0) = 30 ∧ vp_in 1 (hL h (hR h a0 0)) ∧ K (hI h (hR h a0 0) (ix 1)) h) ∧ (a1.toInt = 2 → hK h a0 = 8 ∧ hK h (hR h a0 0) = 30 ∧ vp_in 2 (hL h (hR h a0 0)) ∧ K (hI h (hR h a0 0) (ix 2)) h) ∧ (a1.toInt = 3 → hK h a0 = 8 ∧ V_X7_caseMetal a0 h (fun r1 h1 => K r1 h1)) ∧ (a1.toInt = 4 → hK h a0 = 8 ∧ V_X7_formeMetal a0 h (fun r1 h1 => K r1 h1)) ∧ (a1.toInt = 5 → hK h a0 = 8 ∧ V_X7_boxMetal a0 h (fun r1 h1 => K r1 h1)) ∧ (a1.toInt = 6 → hK h a0 = 8 ∧ hK h (hR h a0 0) = 30 ∧ vp_in 4 (hL h (hR h a0 0)) ∧ K (hI h (hR h a0 0) (ix 4)) h) ∧ (a1.toInt = 7 → hK h a0 = 8 ∧ hK h (hR h a0 0) = 30 ∧ vp_in 5 (hL h (hR h a0 0)) ∧ K (hI h (hR h a0 0) (ix 5)) h) ∧ (a1.toInt = 8 → hK h a0 = 8 ∧ hK h (hR h a0 0) = 30 ∧ vp_in 6 (hL h (hR h a0 0)) ∧ K (hI h (hR h a0 0) (ix 6)) h) ∧ (a1.toInt = 9 → hK h a0 = 8 ∧ hK h (hR h a0 0) = 30 ∧ vp_in 7 (hL h (hR h a0 0)) ∧ K (hI h (hR h a0 0) (ix 7)) h) ∧ (a1.toInt = 10 → hK h a0 = 8 ∧ V_X7_inBox a0 h (fun r1 h1 => K r1 h1)) ∧ (a1.toInt = 11 → hK h a0 = 8 ∧ hK h (hR h a0 0) = 30 ∧ vp_in 3 (hL h (hR h a0 0)) ∧ K (hI h (hR h a0 0) (ix 3)) h) ∧ (a1.toInt = 12 → hK h a0 = 8 ∧ V_X7_lateDays a0 h (fun r1 h1 => K r1 h1)) ∧ (a1.toInt = 13 → hK h a0 = 8 ∧ V_X7_pastDue a0 h (fun r1 h1 => K r1 h1)) ∧ (a1.toInt = 14 → hK h a0 = 8 ∧ K (hI h a0 2) h) ∧ (a1.toInt = 15 → hK h a0 = 8 ∧ K (hI h a0 5) h) ∧ (a1.toInt < 0 ∨ 15 < a1.toInt → K (-2) h)
def V_X7_distribute (a0 : Nat) (a1 : Int32) (h : Hp) (K : Int32 → Hp → Prop) : Prop := hK h a0 = 8 ∧ V_X7_noJob a0 a1 h (fun r1 h1 => (r1 = 0 → hK h1 a0 = 8 ∧ V_X7_ofJob a0 a1 3 h1 (fun r2 h2 => (r2 = 2 → hK h2 a0 = 8 ∧ V_X7_record a0 h2 (fun h3 => hK h3 a0 = 8 ∧ V_X7_put a0 a1 3 3 h3 (fun h4 => hK h4 a0 = 8 ∧ V_X7_goBack a0 a1 8 h4 (fun r3 h5 => K r3 h5)))) ∧ (¬ r2 = 2 → K (-4) h2))) ∧ (¬ r1 = 0 → K (-1) h1))
def V_X7_faultOf_50 (K : Int32 → Hp → Prop) (a2 : Int32) (h : Hp) : Prop := K a2 h
def V_X7_faultOf_69 (K : Int32 → Hp → Prop) (C4 : Nat → Int32 → Int32 → Hp → Prop) (a0 : Nat) (a2 : Int32) (s0 : Int32) (h : Hp) : Prop := C4 a0 s0 (a2 + 1) h
def V_X7_faultOf_52 (K : Int32 → Hp → Prop) (C4 : Nat → Int32 → Int32 → Hp → Prop) (a0 : Nat) (a2 : Int32) (h : Hp) : Prop := hK h a0 = 8 ∧ hK h (hR h a0 6) = 30 ∧ vp_in a2 (hL h (hR h a0 6)) ∧ V_X7_isLetter (hI h (hR h a0 6) (ix a2)) h (fun r1 h1 => (¬ r1 = 0 → V_X7_faultOf_69 K C4 a0 a2 0 h1) ∧ (r1 = 0 → V_X7_faultOf_69 K C4 a0 a2 1 h1))
def V_X7_faultOf_89 (K : Int32 → Hp → Prop) (s0 : Int32) (h : Hp) : Prop := K s0 h
def V_X7_faultOf_4 (K : Int32 → Hp → Prop) : Nat → Nat → Int32 → Int32 → Hp → Prop
  | 0, _, _, _, _ => False
  | n + 1, a0, a1, a2, h => hK h a0 = 8 ∧ ((hI h a0 5) ≤ a2 → (a1 = 0 → V_X7_faultOf_89 K (-5) h) ∧ (¬ a1 = 0 → hK h a0 = 8 ∧ V_X7_faultOf_89 K (hI h a0 5) h)) ∧ (¬ ((hI h a0 5) ≤ a2) → hK h a0 = 8 ∧ hK h (hR h a0 6) = 30 ∧ vp_in a2 (hL h (hR h a0 6)) ∧ V_X7_isLetter (hI h (hR h a0 6) (ix a2)) h (fun r1 h1 => (¬ r1 = 0 → V_X7_faultOf_52 K (V_X7_faultOf_4 K n) a0 a2 h1) ∧ (r1 = 0 → (¬ a1 = 0 → V_X7_faultOf_50 K a2 h1) ∧ (a1 = 0 → hK h1 a0 = 8 ∧ hK h1 (hR h1 a0 6) = 30 ∧ vp_in a2 (hL h1 (hR h1 a0 6)) ∧ ((hI h1 (hR h1 a0 6) (ix a2)) = 32 → V_X7_faultOf_52 K (V_X7_faultOf_4 K n) a0 a2 h1) ∧ (¬ (hI h1 (hR h1 a0 6) (ix a2)) = 32 → hK h1 a0 = 8 ∧ hK h1 (hR h1 a0 6) = 30 ∧ vp_in a2 (hL h1 (hR h1 a0 6)) ∧ ((hI h1 (hR h1 a0 6) (ix a2)) = 47 → V_X7_faultOf_52 K (V_X7_faultOf_4 K n) a0 a2 h1) ∧ (¬ (hI h1 (hR h1 a0 6) (ix a2)) = 47 → V_X7_faultOf_50 K a2 h1))))))
def V_X7_faultOf (a0 : Nat) (h : Hp) (K : Int32 → Hp → Prop) : Prop := ∃ n9, V_X7_faultOf_4 K n9 a0 1 0 h
def V_X7_gap_52 (K : Int32 → Hp → Prop) (h : Hp) : Prop := K (-5) h
def V_X7_gap (a0 : Nat) (a1 : Int32) (a2 : Int32) (a3 : Int32) (h : Hp) (K : Int32 → Hp → Prop) : Prop := hK h a0 = 8 ∧ V_X7_noJob a0 a1 h (fun r1 h1 => (r1 = 0 → hK h1 a0 = 8 ∧ V_X7_layJob a0 a1 h1 (fun h2 => hK h2 a0 = 8 ∧ V_X7_in a2 0 ((hI h2 a0 9) - 1) h2 (fun r2 h3 => (r2 = 0 → V_X7_gap_52 K  h3) ∧ (¬ r2 = 0 → (a3 < 0 → V_X7_gap_52 K  h3) ∧ (¬ (a3 < 0) → hK h3 a0 = 8 ∧ hK h3 (hR h3 a0 14) = 30 ∧ vp_in (a2 + 1) (hL h3 (hR h3 a0 14)) ∧ hK h3 a0 = 8 ∧ hK h3 (hR h3 a0 14) = 30 ∧ vp_in a2 (hL h3 (hR h3 a0 14)) ∧ (a3 < ((hI h3 (hR h3 a0 14) (ix (a2 + 1))) - (hI h3 (hR h3 a0 14) (ix a2))) → hK h3 a0 = 8 ∧ hK h3 a0 = 8 ∧ hK h3 (hR h3 a0 14) = 30 ∧ vp_in a2 (hL h3 (hR h3 a0 14)) ∧ hK h3 (hR h3 a0 15) = 30 ∧ vp_in ((hI h3 (hR h3 a0 14) (ix a2)) + a3) (hL h3 (hR h3 a0 15)) ∧ K (hI h3 (hR h3 a0 15) (ix ((hI h3 (hR h3 a0 14) (ix a2)) + a3))) h3) ∧ (¬ (a3 < ((hI h3 (hR h3 a0 14) (ix (a2 + 1))) - (hI h3 (hR h3 a0 14) (ix a2)))) → V_X7_gap_52 K  h3)))))) ∧ (¬ r1 = 0 → K (-1) h1))
def V_X7_init (a0 : Nat) (h : Hp) (K : Hp → Prop) : Prop := a0 ≠ 0 ∧ ∀ q1, q1 ≠ 0 → hK h q1 = 0 → ∀ h1, h1 = nN h q1 30 3475 → hK h1 a0 = 8 ∧ ∀ h2, h2 = sR h1 a0 0 q1 → ∀ q2, q2 ≠ 0 → hK h2 q2 = 0 → ∀ h3, h3 = nN h2 q2 30 17375 → hK h3 a0 = 8 ∧ ∀ h4, h4 = sR h3 a0 1 q2 → ∀ q3, q3 ≠ 0 → hK h4 q3 = 0 → ∀ h5, h5 = nN h4 q3 30 3475 → hK h5 a0 = 8 ∧ ∀ h6, h6 = sR h5 a0 3 q3 → ∀ q4, q4 ≠ 0 → hK h6 q4 = 0 → ∀ h7, h7 = nN h6 q4 30 60 → hK h7 a0 = 8 ∧ ∀ h8, h8 = sR h7 a0 6 q4 → ∀ q5, q5 ≠ 0 → hK h8 q5 = 0 → ∀ h9, h9 = nN h8 q5 30 60 → hK h9 a0 = 8 ∧ ∀ h10, h10 = sR h9 a0 8 q5 → ∀ q6, q6 ≠ 0 → hK h10 q6 = 0 → ∀ h11, h11 = nN h10 q6 30 31 → hK h11 a0 = 8 ∧ ∀ h12, h12 = sR h11 a0 12 q6 → ∀ q7, q7 ≠ 0 → hK h12 q7 = 0 → ∀ h13, h13 = nN h12 q7 30 31 → hK h13 a0 = 8 ∧ ∀ h14, h14 = sR h13 a0 13 q7 → ∀ q8, q8 ≠ 0 → hK h14 q8 = 0 → ∀ h15, h15 = nN h14 q8 30 32 → hK h15 a0 = 8 ∧ ∀ h16, h16 = sR h15 a0 14 q8 → ∀ q9, q9 ≠ 0 → hK h16 q9 = 0 → ∀ h17, h17 = nN h16 q9 30 32 → hK h17 a0 = 8 ∧ ∀ h18, h18 = sR h17 a0 15 q9 → ∀ q10, q10 ≠ 0 → hK h18 q10 = 0 → ∀ h19, h19 = nN h18 q10 30 29 → hK h19 a0 = 8 ∧ ∀ h20, h20 = sR h19 a0 17 q10 → ∀ q11, q11 ≠ 0 → hK h20 q11 = 0 → ∀ h21, h21 = nN h20 q11 30 29 → hK h21 a0 = 8 ∧ ∀ h22, h22 = sR h21 a0 18 q11 → ∀ q12, q12 ≠ 0 → hK h22 q12 = 0 → ∀ h23, h23 = nN h22 q12 30 32 → hK h23 a0 = 8 ∧ ∀ h24, h24 = sR h23 a0 19 q12 → ∀ q13, q13 ≠ 0 → hK h24 q13 = 0 → ∀ h25, h25 = nN h24 q13 30 32 → hK h25 a0 = 8 ∧ ∀ h26, h26 = sR h25 a0 20 q13 → ∀ q14, q14 ≠ 0 → hK h26 q14 = 0 → ∀ h27, h27 = nN h26 q14 30 32 → hK h27 a0 = 8 ∧ ∀ h28, h28 = sR h27 a0 21 q14 → K h28
def V_X7_job (a0 : Nat) (a1 : Int32) (a2 : Int32) (h : Hp) (K : Int32 → Hp → Prop) : Prop := hK h a0 = 8 ∧ V_X7_noJob a0 a1 h (fun r1 h1 => (r1 = 0 → hK h1 a0 = 8 ∧ V_X7_layJob a0 a1 h1 (fun h2 => (a2.toInt = 0 → hK h2 a0 = 8 ∧ V_X7_ofJob a0 a1 a2 h2 (fun r2 h3 => K r2 h3)) ∧ (a2.toInt = 1 → hK h2 a0 = 8 ∧ V_X7_ofJob a0 a1 a2 h2 (fun r2 h3 => K r2 h3)) ∧ (a2.toInt = 2 → hK h2 a0 = 8 ∧ V_X7_ofJob a0 a1 a2 h2 (fun r2 h3 => K r2 h3)) ∧ (a2.toInt = 3 → hK h2 a0 = 8 ∧ V_X7_ofJob a0 a1 a2 h2 (fun r2 h3 => K r2 h3)) ∧ (a2.toInt = 4 → hK h2 a0 = 8 ∧ K (hI h2 a0 9) h2) ∧ (a2.toInt = 5 → hK h2 a0 = 8 ∧ K (hI h2 a0 10) h2) ∧ (a2.toInt = 6 → hK h2 a0 = 8 ∧ K (hI h2 a0 11) h2) ∧ (a2.toInt = 7 → hK h2 a0 = 8 ∧ V_X7_inFormeOf a0 a1 0 h2 (fun r2 h3 => K r2 h3)) ∧ (a2.toInt = 8 → hK h2 a0 = 8 ∧ V_X7_inFormeOf a0 a1 1 h2 (fun r2 h3 => K r2 h3)) ∧ (a2.toInt = 9 → hK h2 a0 = 8 ∧ V_X7_ofJob a0 a1 4 h2 (fun r2 h3 => K r2 h3)) ∧ (a2.toInt = 10 → hK h2 a0 = 8 ∧ V_X7_ofJob a0 a1 5 h2 (fun r2 h3 => K r2 h3)) ∧ (a2.toInt < 0 ∨ 10 < a2.toInt → K (-2) h2))) ∧ (¬ r1 = 0 → K (-1) h1))
def V_X7_keep_2 (K : Int32 → Hp → Prop) : Nat → Nat → Int32 → Hp → Prop
  | 0, _, _, _ => False
  | n + 1, a0, a1, h => (3475 ≤ a1 → hK h a0 = 8 ∧ ((1 : Int32) = 0 ∨ (1 : Int32) = 1) ∧ ∀ h1, h1 = sI h a0 4 1 → hK h1 a0 = 8 ∧ hK h1 (hR h1 a0 0) = 30 ∧ vp_in 1 (hL h1 (hR h1 a0 0)) ∧ K (hI h1 (hR h1 a0 0) (ix 1)) h1) ∧ (¬ (3475 ≤ a1) → hK h a0 = 8 ∧ hK h a0 = 8 ∧ hK h (hR h a0 0) = 30 ∧ vp_in a1 (hL h (hR h a0 0)) ∧ hK h (hR h a0 3) = 30 ∧ vp_in a1 (hL h (hR h a0 3)) ∧ ∀ h1, h1 = sI h (hR h a0 3) (ix a1) (hI h (hR h a0 0) (ix a1)) → V_X7_keep_2 K n a0 (a1 + 1) h1)
def V_X7_keep (a0 : Nat) (h : Hp) (K : Int32 → Hp → Prop) : Prop := ∃ n9, V_X7_keep_2 K n9 a0 0 h
def V_X7_melt_15 (K : Int32 → Hp → Prop) (h : Hp) : Prop := K (-1) h
def V_X7_melt (a0 : Nat) (a1 : Int32) (a2 : Int32) (a3 : Int32) (h : Hp) (K : Int32 → Hp → Prop) : Prop := hK h a0 = 8 ∧ V_X7_noCase a0 a1 h (fun r1 h1 => (¬ r1 = 0 → V_X7_melt_15 K  h1) ∧ (r1 = 0 → V_X7_noSort a2 h1 (fun r2 h2 => (r2 = 0 → V_X7_in a3 1 99 h2 (fun r3 h3 => (¬ r3 = 0 → hK h3 a0 = 8 ∧ V_X7_has a0 a1 a2 h3 (fun r4 h4 => (a3 ≤ r4 → hK h4 a0 = 8 ∧ V_X7_record a0 h4 (fun h5 => hK h5 a0 = 8 ∧ hK h5 (hR h5 a0 0) = 30 ∧ vp_in ((8 + (29 * a1)) + a2) (hL h5 (hR h5 a0 0)) ∧ hK h5 (hR h5 a0 0) = 30 ∧ vp_in ((8 + (29 * a1)) + a2) (hL h5 (hR h5 a0 0)) ∧ ∀ h6, h6 = sI h5 (hR h5 a0 0) (ix ((8 + (29 * a1)) + a2)) ((hI h5 (hR h5 a0 0) (ix ((8 + (29 * a1)) + a2))) - a3) → hK h6 a0 = 8 ∧ hK h6 (hR h6 a0 0) = 30 ∧ vp_in 2 (hL h6 (hR h6 a0 0)) ∧ V_X7_width a2 h6 (fun r5 h7 => hK h7 (hR h6 a0 0) = 30 ∧ vp_in 2 (hL h7 (hR h6 a0 0)) ∧ ∀ h8, h8 = sI h7 (hR h6 a0 0) (ix 2) ((hI h6 (hR h6 a0 0) (ix 2)) + (a3 * r5)) → hK h8 a0 = 8 ∧ hK h8 (hR h8 a0 0) = 30 ∧ vp_in 7 (hL h8 (hR h8 a0 0)) ∧ hK h8 (hR h8 a0 0) = 30 ∧ vp_in 7 (hL h8 (hR h8 a0 0)) ∧ ∀ h9, h9 = sI h8 (hR h8 a0 0) (ix 7) ((hI h8 (hR h8 a0 0) (ix 7)) + a3) → hK h9 a0 = 8 ∧ hK h9 (hR h9 a0 0) = 30 ∧ vp_in 2 (hL h9 (hR h9 a0 0)) ∧ K (hI h9 (hR h9 a0 0) (ix 2)) h9))) ∧ (¬ (a3 ≤ r4) → K (-4) h4))) ∧ (r3 = 0 → K (-2) h3))) ∧ (¬ r2 = 0 → V_X7_melt_15 K  h2))))
def V_X7_meltBox_65 (K : Int32 → Hp → Prop) : Nat → Nat → Int32 → Int32 → Hp → Prop
  | 0, _, _, _, _ => False
  | n + 1, a0, a3, a4, h => (29 ≤ a4 → K a3 h) ∧ (¬ (29 ≤ a4) → hK h a0 = 8 ∧ hK h (hR h a0 0) = 30 ∧ vp_in (182 + a4) (hL h (hR h a0 0)) ∧ ∀ h1, h1 = sI h (hR h a0 0) (ix (182 + a4)) 0 → V_X7_meltBox_65 K n a0 a3 (a4 + 1) h1)
def V_X7_meltBox (a0 : Nat) (h : Hp) (K : Int32 → Hp → Prop) : Prop := hK h a0 = 8 ∧ V_X7_inBox a0 h (fun r1 h1 => (¬ r1 = 0 → hK h1 a0 = 8 ∧ V_X7_record a0 h1 (fun h2 => hK h2 a0 = 8 ∧ V_X7_boxMetal a0 h2 (fun r2 h3 => hK h3 a0 = 8 ∧ hK h3 (hR h3 a0 0) = 30 ∧ vp_in 5 (hL h3 (hR h3 a0 0)) ∧ hK h3 (hR h3 a0 0) = 30 ∧ vp_in 5 (hL h3 (hR h3 a0 0)) ∧ ∀ h4, h4 = sI h3 (hR h3 a0 0) (ix 5) ((hI h3 (hR h3 a0 0) (ix 5)) + (r2 / 50)) → hK h4 a0 = 8 ∧ hK h4 (hR h4 a0 0) = 30 ∧ vp_in 2 (hL h4 (hR h4 a0 0)) ∧ hK h4 (hR h4 a0 0) = 30 ∧ vp_in 2 (hL h4 (hR h4 a0 0)) ∧ ∀ h5, h5 = sI h4 (hR h4 a0 0) (ix 2) ((hI h4 (hR h4 a0 0) (ix 2)) + (r2 - (r2 / 50))) → hK h5 a0 = 8 ∧ hK h5 (hR h5 a0 0) = 30 ∧ vp_in 7 (hL h5 (hR h5 a0 0)) ∧ hK h5 (hR h5 a0 0) = 30 ∧ vp_in 7 (hL h5 (hR h5 a0 0)) ∧ ∀ h6, h6 = sI h5 (hR h5 a0 0) (ix 7) ((hI h5 (hR h5 a0 0) (ix 7)) + r1) → ∃ n9, V_X7_meltBox_65 K n9 a0 (r2 - (r2 / 50)) 0 h6))) ∧ (r1 = 0 → K (-5) h1))
def V_X7_missing_15 (K : Int32 → Hp → Prop) (h : Hp) : Prop := K (-1) h
def V_X7_missing (a0 : Nat) (a1 : Int32) (a2 : Int32) (h : Hp) (K : Int32 → Hp → Prop) : Prop := hK h a0 = 8 ∧ V_X7_noJob a0 a1 h (fun r1 h1 => (¬ r1 = 0 → V_X7_missing_15 K  h1) ∧ (r1 = 0 → V_X7_noSort a2 h1 (fun r2 h2 => (r2 = 0 → hK h2 a0 = 8 ∧ V_X7_layNeeds a0 a1 h2 (fun h3 => hK h3 a0 = 8 ∧ V_X7_lacks a0 a2 h3 (fun r3 h4 => K r3 h4))) ∧ (¬ r2 = 0 → V_X7_missing_15 K  h2))))
def V_X7_need_15 (K : Int32 → Hp → Prop) (h : Hp) : Prop := K (-1) h
def V_X7_need (a0 : Nat) (a1 : Int32) (a2 : Int32) (h : Hp) (K : Int32 → Hp → Prop) : Prop := hK h a0 = 8 ∧ V_X7_noJob a0 a1 h (fun r1 h1 => (¬ r1 = 0 → V_X7_need_15 K  h1) ∧ (r1 = 0 → V_X7_noSort a2 h1 (fun r2 h2 => (r2 = 0 → hK h2 a0 = 8 ∧ V_X7_layNeeds a0 a1 h2 (fun h3 => hK h3 a0 = 8 ∧ hK h3 (hR h3 a0 17) = 30 ∧ vp_in a2 (hL h3 (hR h3 a0 17)) ∧ K (hI h3 (hR h3 a0 17) (ix a2)) h3)) ∧ (¬ r2 = 0 → V_X7_need_15 K  h2))))
def V_X7_order_33 (K : Int32 → Hp → Prop) (h : Hp) : Prop := K (-2) h
def V_X7_order_219 (K : Int32 → Hp → Prop) : Nat → Nat → Int32 → Int32 → Hp → Prop
  | 0, _, _, _, _ => False
  | n + 1, a0, a5, a6, h => hK h a0 = 8 ∧ ((hI h a0 5) ≤ a6 → hK h a0 = 8 ∧ hK h (hR h a0 0) = 30 ∧ vp_in 1 (hL h (hR h a0 0)) ∧ hK h (hR h a0 0) = 30 ∧ vp_in 1 (hL h (hR h a0 0)) ∧ ∀ h1, h1 = sI h (hR h a0 0) (ix 1) ((hI h (hR h a0 0) (ix 1)) + 1) → K a5 h1) ∧ (¬ ((hI h a0 5) ≤ a6) → hK h a0 = 8 ∧ hK h (hR h a0 6) = 30 ∧ vp_in a6 (hL h (hR h a0 6)) ∧ hK h a0 = 8 ∧ V_X7_put a0 a5 (7 + a6) (hI h (hR h a0 6) (ix a6)) h (fun h1 => V_X7_order_219 K n a0 a5 (a6 + 1) h1))
def V_X7_order_139 (K : Int32 → Hp → Prop) : Nat → Nat → Int32 → Int32 → Int32 → Int32 → Int32 → Hp → Prop
  | 0, _, _, _, _, _, _, _ => False
  | n + 1, a0, a1, a2, a3, a5, a6, h => (272 ≤ a6 → hK h a0 = 8 ∧ V_X7_put a0 a5 0 a1 h (fun h1 => hK h1 a0 = 8 ∧ V_X7_put a0 a5 1 a2 h1 (fun h2 => hK h2 a0 = 8 ∧ V_X7_put a0 a5 2 a3 h2 (fun h3 => hK h3 a0 = 8 ∧ V_X7_put a0 a5 4 (-5) h3 (fun h4 => hK h4 a0 = 8 ∧ V_X7_put a0 a5 5 (-5) h4 (fun h5 => hK h5 a0 = 8 ∧ hK h5 a0 = 8 ∧ V_X7_put a0 a5 6 (hI h5 a0 5) h5 (fun h6 => ∃ n9, V_X7_order_219 K n9 a0 a5 0 h6))))))) ∧ (¬ (272 ≤ a6) → hK h a0 = 8 ∧ V_X7_put a0 a5 a6 0 h (fun h1 => V_X7_order_139 K n a0 a1 a2 a3 a5 (a6 + 1) h1))
def V_X7_order_66 (K : Int32 → Hp → Prop) : Nat → Nat → Int32 → Int32 → Int32 → Int32 → Hp → Prop
  | 0, _, _, _, _, _, _ => False
  | n + 1, a0, a1, a2, a3, a5, h => hK h a0 = 8 ∧ ((hI h a0 5) ≤ a5 → hK h a0 = 8 ∧ V_X7_layLines a0 a2 h (fun h1 => hK h1 a0 = 8 ∧ ((hI h1 a0 16) = 0 → hK h1 a0 = 8 ∧ hK h1 (hR h1 a0 0) = 30 ∧ vp_in 1 (hL h1 (hR h1 a0 0)) ∧ (¬ (hI h1 (hR h1 a0 0) (ix 1)) = 12 → hK h1 a0 = 8 ∧ V_X7_record a0 h1 (fun h2 => hK h2 a0 = 8 ∧ hK h2 (hR h2 a0 0) = 30 ∧ vp_in 1 (hL h2 (hR h2 a0 0)) ∧ ∃ n9, V_X7_order_139 K n9 a0 a1 a2 a3 (hI h2 (hR h2 a0 0) (ix 1)) 0 h2)) ∧ ((hI h1 (hR h1 a0 0) (ix 1)) = 12 → K (-3) h1)) ∧ (¬ (hI h1 a0 16) = 0 → K (-4) h1))) ∧ (¬ ((hI h a0 5) ≤ a5) → hK h a0 = 8 ∧ hK h a0 = 8 ∧ hK h (hR h a0 6) = 30 ∧ vp_in a5 (hL h (hR h a0 6)) ∧ hK h (hR h a0 8) = 30 ∧ vp_in a5 (hL h (hR h a0 8)) ∧ ∀ h1, h1 = sI h (hR h a0 8) (ix a5) (hI h (hR h a0 6) (ix a5)) → V_X7_order_66 K n a0 a1 a2 a3 (a5 + 1) h1)
def V_X7_order (a0 : Nat) (a1 : Int32) (a2 : Int32) (a3 : Int32) (h : Hp) (K : Int32 → Hp → Prop) : Prop := hK h a0 = 8 ∧ V_X7_noCase a0 a1 h (fun r1 h1 => (r1 = 0 → V_X7_in a2 10 150 h1 (fun r2 h2 => (r2 = 0 → V_X7_order_33 K  h2) ∧ (¬ r2 = 0 → V_X7_in a3 0 9999 h2 (fun r3 h3 => (¬ r3 = 0 → hK h3 a0 = 8 ∧ V_X7_faultOf a0 h3 (fun r4 h4 => (r4 = (-5) → hK h4 a0 = 8 ∧ hK h4 a0 = 8 ∧ ∀ h5, h5 = sI h4 a0 7 (hI h4 a0 5) → ∃ n9, V_X7_order_66 K n9 a0 a1 a2 a3 0 h5) ∧ (¬ r4 = (-5) → K ((-100) - r4) h4))) ∧ (r3 = 0 → V_X7_order_33 K  h3))))) ∧ (¬ r1 = 0 → K (-1) h1))
def V_X7_pass (a0 : Nat) (a1 : Int32) (h : Hp) (K : Int32 → Hp → Prop) : Prop := V_X7_in a1 1 30 h (fun r1 h1 => (¬ r1 = 0 → hK h1 a0 = 8 ∧ V_X7_record a0 h1 (fun h2 => hK h2 a0 = 8 ∧ hK h2 (hR h2 a0 0) = 30 ∧ vp_in 3 (hL h2 (hR h2 a0 0)) ∧ hK h2 (hR h2 a0 0) = 30 ∧ vp_in 3 (hL h2 (hR h2 a0 0)) ∧ ∀ h3, h3 = sI h2 (hR h2 a0 0) (ix 3) ((hI h2 (hR h2 a0 0) (ix 3)) + a1) → hK h3 a0 = 8 ∧ hK h3 (hR h3 a0 0) = 30 ∧ vp_in 3 (hL h3 (hR h3 a0 0)) ∧ K (hI h3 (hR h3 a0 0) (ix 3)) h3)) ∧ (r1 = 0 → K (-2) h1))
def V_X7_spaces (a0 : Int32) (h : Hp) (K : Int32 → Hp → Prop) : Prop := K (((a0 / 1000000) + ((a0 / 1000) - (a0 / 1000) / 1000 * 1000)) + (a0 - a0 / 1000 * 1000)) h
def V_X7_spaceAt_64 (K : Int32 → Hp → Prop) (s0 : Int32) (h : Hp) : Prop := K s0 h
def V_X7_spaceAt (a0 : Nat) (a1 : Int32) (a2 : Int32) (h : Hp) (K : Int32 → Hp → Prop) : Prop := ((a1 / 1000000) ≤ a2 → (((a1 / 1000000) + ((a1 / 1000) - (a1 / 1000) / 1000 * 1000)) ≤ a2 → ((((a1 / 1000000) + ((a1 / 1000) - (a1 / 1000) / 1000 * 1000)) + (a1 - a1 / 1000 * 1000)) ≤ a2 → V_X7_spaceAt_64 K (-5) h) ∧ (¬ ((((a1 / 1000000) + ((a1 / 1000) - (a1 / 1000) / 1000 * 1000)) + (a1 - a1 / 1000 * 1000)) ≤ a2) → V_X7_spaceAt_64 K 49 h)) ∧ (¬ (((a1 / 1000000) + ((a1 / 1000) - (a1 / 1000) / 1000 * 1000)) ≤ a2) → V_X7_spaceAt_64 K 50 h)) ∧ (¬ ((a1 / 1000000) ≤ a2) → V_X7_spaceAt_64 K 52 h)
def V_X7_pieceAt_44 (K : Int32 → Hp → Prop) (h : Hp) : Prop := K (-5) h
def V_X7_pieceAt_154 (K : Int32 → Hp → Prop) (C66 : Nat → Int32 → Int32 → Int32 → Int32 → Int32 → Hp → Prop) (a0 : Nat) (a1 : Int32) (a2 : Int32) (a4 : Int32) (a5 : Int32) (a6 : Int32) (h : Hp) : Prop := C66 a0 a1 a2 a4 a5 (a6 + 1) h
def V_X7_pieceAt_195 (K : Int32 → Hp → Prop) (s0 : Int32) (h : Hp) : Prop := K s0 h
def V_X7_pieceAt_66 (K : Int32 → Hp → Prop) : Nat → Nat → Int32 → Int32 → Int32 → Int32 → Int32 → Hp → Prop
  | 0, _, _, _, _, _, _, _ => False
  | n + 1, a0, a1, a2, a4, a5, a6, h => hK h a0 = 8 ∧ hK h (hR h a0 13) = 30 ∧ vp_in a2 (hL h (hR h a0 13)) ∧ ((hI h (hR h a0 13) (ix a2)) ≤ a6 → hK h a0 = 8 ∧ hK h (hR h a0 14) = 30 ∧ vp_in (a2 + 1) (hL h (hR h a0 14)) ∧ ((hI h (hR h a0 14) (ix (a2 + 1))) ≤ a5 → V_X7_pieceAt_195 K (-5) h) ∧ (¬ ((hI h (hR h a0 14) (ix (a2 + 1))) ≤ a5) → hK h a0 = 8 ∧ V_X7_ofJob a0 a1 (241 + a5) h (fun r1 h1 => hK h1 a0 = 8 ∧ V_X7_spaceAt a0 r1 a4 h1 (fun r2 h2 => V_X7_pieceAt_195 K r2 h2)))) ∧ (¬ ((hI h (hR h a0 13) (ix a2)) ≤ a6) → hK h a0 = 8 ∧ hK h (hR h a0 8) = 30 ∧ vp_in a6 (hL h (hR h a0 8)) ∧ V_X7_isLetter (hI h (hR h a0 8) (ix a6)) h (fun r1 h1 => (r1 = 0 → hK h1 a0 = 8 ∧ V_X7_ofJob a0 a1 (241 + a5) h1 (fun r2 h2 => V_X7_spaces r2 h2 (fun r3 h3 => (r3 ≤ a4 → V_X7_spaces r2 h3 (fun r4 h4 => V_X7_pieceAt_154 K (V_X7_pieceAt_66 K n) a0 a1 a2 (a4 - r4) (a5 + 1) a6 h4)) ∧ (¬ (r3 ≤ a4) → hK h3 a0 = 8 ∧ V_X7_spaceAt a0 r2 a4 h3 (fun r4 h4 => K r4 h4))))) ∧ (¬ r1 = 0 → (¬ a4 = 0 → V_X7_pieceAt_154 K (V_X7_pieceAt_66 K n) a0 a1 a2 (a4 + (-1)) a5 a6 h1) ∧ (a4 = 0 → hK h1 a0 = 8 ∧ hK h1 (hR h1 a0 8) = 30 ∧ vp_in a6 (hL h1 (hR h1 a0 8)) ∧ K (hI h1 (hR h1 a0 8) (ix a6)) h1))))
def V_X7_pieceAt (a0 : Nat) (a1 : Int32) (a2 : Int32) (a3 : Int32) (h : Hp) (K : Int32 → Hp → Prop) : Prop := hK h a0 = 8 ∧ V_X7_noJob a0 a1 h (fun r1 h1 => (r1 = 0 → hK h1 a0 = 8 ∧ V_X7_hasForme a0 a1 h1 (fun r2 h2 => (¬ r2 = 0 → hK h2 a0 = 8 ∧ V_X7_layJob a0 a1 h2 (fun h3 => hK h3 a0 = 8 ∧ V_X7_in a2 0 ((hI h3 a0 9) - 1) h3 (fun r3 h4 => (r3 = 0 → V_X7_pieceAt_44 K  h4) ∧ (¬ r3 = 0 → (0 ≤ a3 → hK h4 a0 = 8 ∧ hK h4 (hR h4 a0 14) = 30 ∧ vp_in a2 (hL h4 (hR h4 a0 14)) ∧ hK h4 a0 = 8 ∧ hK h4 (hR h4 a0 12) = 30 ∧ vp_in a2 (hL h4 (hR h4 a0 12)) ∧ ∃ n9, V_X7_pieceAt_66 K n9 a0 a1 a2 a3 (hI h4 (hR h4 a0 14) (ix a2)) (hI h4 (hR h4 a0 12) (ix a2)) h4) ∧ (¬ (0 ≤ a3) → V_X7_pieceAt_44 K  h4))))) ∧ (r2 = 0 → K (-4) h2))) ∧ (¬ r1 = 0 → K (-1) h1))
def V_X7_pieces_20 (K : Int32 → Hp → Prop) (h : Hp) : Prop := K (-1) h
def V_X7_pieces_46 (K : Int32 → Hp → Prop) (s0 : Int32) (h : Hp) : Prop := K s0 h
def V_X7_pieces_22 (K : Int32 → Hp → Prop) (a0 : Nat) (a1 : Int32) (a2 : Int32) (h : Hp) : Prop := (¬ a1 = (-1) → hK h a0 = 8 ∧ V_X7_has a0 a1 a2 h (fun r1 h1 => V_X7_pieces_46 K r1 h1)) ∧ (a1 = (-1) → hK h a0 = 8 ∧ hK h (hR h a0 0) = 30 ∧ vp_in (182 + a2) (hL h (hR h a0 0)) ∧ V_X7_pieces_46 K (hI h (hR h a0 0) (ix (182 + a2))) h)
def V_X7_pieces (a0 : Nat) (a1 : Int32) (a2 : Int32) (h : Hp) (K : Int32 → Hp → Prop) : Prop := V_X7_noSort a2 h (fun r1 h1 => (¬ r1 = 0 → V_X7_pieces_20 K  h1) ∧ (r1 = 0 → (a1 = (-1) → V_X7_pieces_22 K a0 a1 a2 h1) ∧ (¬ a1 = (-1) → hK h1 a0 = 8 ∧ V_X7_noCase a0 a1 h1 (fun r2 h2 => (r2 = 0 → V_X7_pieces_22 K a0 a1 a2 h2) ∧ (¬ r2 = 0 → V_X7_pieces_20 K  h2)))))
def V_X7_print_72 (K : Int32 → Hp → Prop) (a0 : Nat) (a1 : Int32) (s0 : Nat) (s1 : Int32) (s2 : Int32) (s3 : Int32) (h : Hp) : Prop := hK h s0 = 8 ∧ V_X7_put s0 s1 s2 s3 h (fun h1 => hK h1 a0 = 8 ∧ V_X7_ofJob a0 a1 5 h1 (fun r1 h2 => K r1 h2))
def V_X7_print (a0 : Nat) (a1 : Int32) (h : Hp) (K : Int32 → Hp → Prop) : Prop := hK h a0 = 8 ∧ V_X7_noJob a0 a1 h (fun r1 h1 => (r1 = 0 → hK h1 a0 = 8 ∧ V_X7_ofJob a0 a1 3 h1 (fun r2 h2 => (r2 = 1 → hK h2 a0 = 8 ∧ V_X7_record a0 h2 (fun h3 => hK h3 a0 = 8 ∧ hK h3 (hR h3 a0 0) = 30 ∧ vp_in 3 (hL h3 (hR h3 a0 0)) ∧ hK h3 a0 = 8 ∧ V_X7_ofJob a0 a1 2 h3 (fun r3 h4 => hK h4 a0 = 8 ∧ V_X7_put a0 a1 3 2 h4 (fun h5 => hK h5 a0 = 8 ∧ hK h5 (hR h5 a0 0) = 30 ∧ vp_in 3 (hL h5 (hR h5 a0 0)) ∧ hK h5 a0 = 8 ∧ V_X7_put a0 a1 4 (hI h5 (hR h5 a0 0) (ix 3)) h5 (fun h6 => (0 ≤ ((hI h3 (hR h3 a0 0) (ix 3)) - r3) → V_X7_print_72 K a0 a1 a0 a1 5 ((hI h3 (hR h3 a0 0) (ix 3)) - r3) h6) ∧ (¬ (0 ≤ ((hI h3 (hR h3 a0 0) (ix 3)) - r3)) → V_X7_print_72 K a0 a1 a0 a1 5 0 h6)))))) ∧ (¬ r2 = 1 → K (-4) h2))) ∧ (¬ r1 = 0 → K (-1) h1))
def V_X7_restore_16 (K : Int32 → Hp → Prop) : Nat → Nat → Int32 → Hp → Prop
  | 0, _, _, _ => False
  | n + 1, a0, a1, h => (3475 ≤ a1 → hK h a0 = 8 ∧ hK h (hR h a0 0) = 30 ∧ vp_in 1 (hL h (hR h a0 0)) ∧ K (hI h (hR h a0 0) (ix 1)) h) ∧ (¬ (3475 ≤ a1) → hK h a0 = 8 ∧ hK h a0 = 8 ∧ hK h (hR h a0 3) = 30 ∧ vp_in a1 (hL h (hR h a0 3)) ∧ hK h (hR h a0 0) = 30 ∧ vp_in a1 (hL h (hR h a0 0)) ∧ ∀ h1, h1 = sI h (hR h a0 0) (ix a1) (hI h (hR h a0 3) (ix a1)) → V_X7_restore_16 K n a0 (a1 + 1) h1)
def V_X7_restore (a0 : Nat) (h : Hp) (K : Int32 → Hp → Prop) : Prop := hK h a0 = 8 ∧ (¬ (hI h a0 4) = 0 → hK h a0 = 8 ∧ V_X7_record a0 h (fun h1 => ∃ n9, V_X7_restore_16 K n9 a0 0 h1)) ∧ ((hI h a0 4) = 0 → K (-5) h)
def V_X7_takes_136 (K : Int32 → Hp → Prop) (C21 : Nat → Int32 → Int32 → Int32 → Int32 → Int32 → Int32 → Hp → Prop) (a0 : Nat) (a1 : Int32) (a2 : Int32) (a3 : Int32) (a4 : Int32) (a6 : Int32) (s0 : Int32) (s1 : Int32) (h : Hp) : Prop := C21 a0 a1 a2 a3 a4 (s0 + s1) (a6 + 1) h
def V_X7_takes_67 (K : Int32 → Hp → Prop) (C21 : Nat → Int32 → Int32 → Int32 → Int32 → Int32 → Int32 → Hp → Prop) (a0 : Nat) (a1 : Int32) (a2 : Int32) (a3 : Int32) (a4 : Int32) (a5 : Int32) (a6 : Int32) (a7 : Int32) (s0 : Int32) (h : Hp) : Prop := hK h a0 = 8 ∧ hK h (hR h a0 0) = 30 ∧ vp_in ((8 + (29 * a7)) + a2) (hL h (hR h a0 0)) ∧ hK h (hR h a0 0) = 30 ∧ vp_in ((8 + (29 * a7)) + a2) (hL h (hR h a0 0)) ∧ ∀ h1, h1 = sI h (hR h a0 0) (ix ((8 + (29 * a7)) + a2)) ((hI h (hR h a0 0) (ix ((8 + (29 * a7)) + a2))) - s0) → hK h1 a0 = 8 ∧ V_X7_inForme a0 a1 a7 a2 h1 (fun r1 h2 => hK h2 a0 = 8 ∧ V_X7_put a0 a1 ((67 + (29 * a7)) + a2) (r1 + s0) h2 (fun h3 => (¬ a7 = a3 → V_X7_takes_136 K C21 a0 a1 a2 a3 (a4 - s0) a6 a5 s0 h3) ∧ (a7 = a3 → V_X7_takes_136 K C21 a0 a1 a2 a3 (a4 - s0) a6 a5 0 h3)))
def V_X7_takes_43 (K : Int32 → Hp → Prop) (C21 : Nat → Int32 → Int32 → Int32 → Int32 → Int32 → Int32 → Hp → Prop) (a0 : Nat) (a1 : Int32) (a2 : Int32) (a3 : Int32) (a4 : Int32) (a5 : Int32) (a6 : Int32) (s0 : Int32) (h : Hp) : Prop := (¬ a6 = a3 → hK h a0 = 8 ∧ V_X7_has a0 s0 a2 h (fun r1 h1 => V_X7_least a4 r1 h1 (fun r2 h2 => V_X7_takes_67 K C21 a0 a1 a2 a3 a4 a5 a6 s0 r2 h2))) ∧ (a6 = a3 → V_X7_takes_67 K C21 a0 a1 a2 a3 a4 a5 a6 s0 0 h)
def V_X7_takes_21 (K : Int32 → Hp → Prop) : Nat → Nat → Int32 → Int32 → Int32 → Int32 → Int32 → Int32 → Hp → Prop
  | 0, _, _, _, _, _, _, _, _ => False
  | n + 1, a0, a1, a2, a3, a4, a5, a6, h => hK h a0 = 8 ∧ hK h (hR h a0 0) = 30 ∧ vp_in 0 (hL h (hR h a0 0)) ∧ ((hI h (hR h a0 0) (ix 0)) ≤ a6 → K a5 h) ∧ (¬ ((hI h (hR h a0 0) (ix 0)) ≤ a6) → (0 ≤ a6 → V_X7_takes_43 K (V_X7_takes_21 K n) a0 a1 a2 a3 a4 a5 a6 a6 h) ∧ (¬ (0 ≤ a6) → V_X7_takes_43 K (V_X7_takes_21 K n) a0 a1 a2 a3 a4 a5 a6 a3 h))
def V_X7_takes (a0 : Nat) (a1 : Int32) (a2 : Int32) (h : Hp) (K : Int32 → Hp → Prop) : Prop := hK h a0 = 8 ∧ V_X7_ofJob a0 a1 0 h (fun r1 h1 => hK h1 a0 = 8 ∧ hK h1 (hR h1 a0 17) = 30 ∧ vp_in a2 (hL h1 (hR h1 a0 17)) ∧ ∃ n9, V_X7_takes_21 K n9 a0 a1 a2 r1 (hI h1 (hR h1 a0 17) (ix a2)) 0 (-1) h1)
def V_X7_set_68 (K : Int32 → Hp → Prop) : Nat → Nat → Int32 → Int32 → Int32 → Hp → Prop
  | 0, _, _, _, _, _ => False
  | n + 1, a0, a1, a2, a3, h => hK h a0 = 8 ∧ ((hI h a0 11) ≤ a3 → hK h a0 = 8 ∧ V_X7_put a0 a1 3 1 h (fun h1 => K a2 h1)) ∧ (¬ ((hI h a0 11) ≤ a3) → hK h a0 = 8 ∧ hK h (hR h a0 19) = 30 ∧ vp_in a3 (hL h (hR h a0 19)) ∧ hK h a0 = 8 ∧ hK h (hR h a0 20) = 30 ∧ vp_in a3 (hL h (hR h a0 20)) ∧ hK h a0 = 8 ∧ hK h (hR h a0 21) = 30 ∧ vp_in a3 (hL h (hR h a0 21)) ∧ hK h a0 = 8 ∧ V_X7_put a0 a1 (241 + a3) (((1000000 * (hI h (hR h a0 19) (ix a3))) + (1000 * (hI h (hR h a0 20) (ix a3)))) + (hI h (hR h a0 21) (ix a3))) h (fun h1 => V_X7_set_68 K n a0 a1 a2 (a3 + 1) h1))
def V_X7_set_45 (K : Int32 → Hp → Prop) : Nat → Nat → Int32 → Int32 → Int32 → Hp → Prop
  | 0, _, _, _, _, _ => False
  | n + 1, a0, a1, a2, a3, h => (29 ≤ a3 → ∃ n9, V_X7_set_68 K n9 a0 a1 a2 0 h) ∧ (¬ (29 ≤ a3) → hK h a0 = 8 ∧ V_X7_takes a0 a1 a3 h (fun r1 h1 => V_X7_set_45 K n a0 a1 (a2 + r1) (a3 + 1) h1))
def V_X7_set (a0 : Nat) (a1 : Int32) (h : Hp) (K : Int32 → Hp → Prop) : Prop := hK h a0 = 8 ∧ V_X7_noJob a0 a1 h (fun r1 h1 => (r1 = 0 → hK h1 a0 = 8 ∧ V_X7_ofJob a0 a1 3 h1 (fun r2 h2 => (r2 = 0 → hK h2 a0 = 8 ∧ V_X7_layNeeds a0 a1 h2 (fun h3 => hK h3 a0 = 8 ∧ V_X7_allLacks a0 h3 (fun r3 h4 => (r3 ≤ 0 → hK h4 a0 = 8 ∧ V_X7_record a0 h4 (fun h5 => ∃ n9, V_X7_set_45 K n9 a0 a1 0 0 h5)) ∧ (¬ (r3 ≤ 0) → K (-4) h4)))) ∧ (¬ r2 = 0 → K (-4) h2))) ∧ (¬ r1 = 0 → K (-1) h1))
def V_X7_taken_23 (K : Int32 → Hp → Prop) (h : Hp) : Prop := K (-1) h
def V_X7_taken (a0 : Nat) (a1 : Int32) (a2 : Int32) (a3 : Int32) (h : Hp) (K : Int32 → Hp → Prop) : Prop := hK h a0 = 8 ∧ V_X7_noJob a0 a1 h (fun r1 h1 => (¬ r1 = 0 → V_X7_taken_23 K  h1) ∧ (r1 = 0 → hK h1 a0 = 8 ∧ V_X7_noCase a0 a2 h1 (fun r2 h2 => (¬ r2 = 0 → V_X7_taken_23 K  h2) ∧ (r2 = 0 → V_X7_noSort a3 h2 (fun r3 h3 => (r3 = 0 → hK h3 a0 = 8 ∧ V_X7_inForme a0 a1 a2 a3 h3 (fun r4 h4 => K r4 h4)) ∧ (¬ r3 = 0 → V_X7_taken_23 K  h3))))))
def V_X7_type (a0 : Nat) (a1 : Int32) (h : Hp) (K : Int32 → Hp → Prop) : Prop := hK h a0 = 8 ∧ (¬ (hI h a0 5) = 60 → hK h a0 = 8 ∧ hK h a0 = 8 ∧ hK h (hR h a0 6) = 30 ∧ vp_in (hI h a0 5) (hL h (hR h a0 6)) ∧ ∀ h1, h1 = sI h (hR h a0 6) (ix (hI h a0 5)) a1 → hK h1 a0 = 8 ∧ hK h1 a0 = 8 ∧ ∀ h2, h2 = sI h1 a0 5 ((hI h1 a0 5) + 1) → hK h2 a0 = 8 ∧ K (hI h2 a0 5) h2) ∧ ((hI h a0 5) = 60 → K (-3) h)
def V_X7_undo_22 (K : Int32 → Hp → Prop) : Nat → Nat → Int32 → Hp → Prop
  | 0, _, _, _ => False
  | n + 1, a0, a1, h => (3475 ≤ a1 → hK h a0 = 8 ∧ K (hI h a0 2) h) ∧ (¬ (3475 ≤ a1) → hK h a0 = 8 ∧ hK h a0 = 8 ∧ hK h a0 = 8 ∧ hK h (hR h a0 1) = 30 ∧ vp_in ((3475 * (hI h a0 2)) + a1) (hL h (hR h a0 1)) ∧ hK h (hR h a0 0) = 30 ∧ vp_in a1 (hL h (hR h a0 0)) ∧ ∀ h1, h1 = sI h (hR h a0 0) (ix a1) (hI h (hR h a0 1) (ix ((3475 * (hI h a0 2)) + a1))) → V_X7_undo_22 K n a0 (a1 + 1) h1)
def V_X7_undo (a0 : Nat) (h : Hp) (K : Int32 → Hp → Prop) : Prop := hK h a0 = 8 ∧ (¬ (hI h a0 2) = 0 → hK h a0 = 8 ∧ hK h a0 = 8 ∧ ∀ h1, h1 = sI h a0 2 ((hI h a0 2) - 1) → ∃ n9, V_X7_undo_22 K n9 a0 0 h1) ∧ ((hI h a0 2) = 0 → K (-5) h)
def V_X7_urgent_49 (K : Int32 → Hp → Prop) (C5 : Nat → Int32 → Int32 → Hp → Prop) (a0 : Nat) (a2 : Int32) (s0 : Int32) (h : Hp) : Prop := C5 a0 s0 (a2 + 1) h
def V_X7_urgent_44 (K : Int32 → Hp → Prop) (C5 : Nat → Int32 → Int32 → Hp → Prop) (a0 : Nat) (a2 : Int32) (h : Hp) : Prop := V_X7_urgent_49 K C5 a0 a2 a2 h
def V_X7_urgent_48 (K : Int32 → Hp → Prop) (C5 : Nat → Int32 → Int32 → Hp → Prop) (a0 : Nat) (a1 : Int32) (a2 : Int32) (h : Hp) : Prop := V_X7_urgent_49 K C5 a0 a2 a1 h
def V_X7_urgent_5 (K : Int32 → Hp → Prop) : Nat → Nat → Int32 → Int32 → Hp → Prop
  | 0, _, _, _, _ => False
  | n + 1, a0, a1, a2, h => hK h a0 = 8 ∧ hK h (hR h a0 0) = 30 ∧ vp_in 1 (hL h (hR h a0 0)) ∧ ((hI h (hR h a0 0) (ix 1)) ≤ a2 → K a1 h) ∧ (¬ ((hI h (hR h a0 0) (ix 1)) ≤ a2) → hK h a0 = 8 ∧ V_X7_isToDo a0 a2 h (fun r1 h1 => (r1 = 0 → V_X7_urgent_48 K (V_X7_urgent_5 K n) a0 a1 a2 h1) ∧ (¬ r1 = 0 → (a1 = (-5) → V_X7_urgent_44 K (V_X7_urgent_5 K n) a0 a2 h1) ∧ (¬ a1 = (-5) → hK h1 a0 = 8 ∧ V_X7_ofJob a0 a2 2 h1 (fun r2 h2 => hK h2 a0 = 8 ∧ V_X7_ofJob a0 a1 2 h2 (fun r3 h3 => (r3 ≤ r2 → V_X7_urgent_48 K (V_X7_urgent_5 K n) a0 a1 a2 h3) ∧ (¬ (r3 ≤ r2) → V_X7_urgent_44 K (V_X7_urgent_5 K n) a0 a2 h3)))))))
def V_X7_urgent (a0 : Nat) (h : Hp) (K : Int32 → Hp → Prop) : Prop := ∃ n9, V_X7_urgent_5 K n9 a0 (-5) 0 h
end
section
theorem cat_nil : ∀ v ∈ ([] : List Value), v.category = 1 := fun _ h => by cases h
theorem cat_I {x : Int32} {l : List Value} (h : ∀ v ∈ l, v.category = 1) : ∀ v ∈ (.int x :: l), v.category = 1 := List.forall_mem_cons.mpr ⟨rfl, h⟩
theorem cat_R {x : Nat} {l : List Value} (h : ∀ v ∈ l, v.category = 1) : ∀ v ∈ (rv x :: l), v.category = 1 := List.forall_mem_cons.mpr ⟨rv_cat x, h⟩
theorem lq_0 : 0 < 19 := by decide
theorem iw_0 : ∀ w ∈ u_ws RX0 TX0 2, w ∈ lwG := by decide +kernel
theorem ft_0 : FT 0 (RX0, TX0, 2) := ⟨tyX0, rfl, tyX0_ok, nmX0⟩
theorem df_0 : DF 0 2 := ⟨tyX0, rfl, by decide +kernel⟩
theorem ki_0 : Cond.instantiable RX0 2 ∈ lwG := lwm 59 (by decide +kernel) (by decide +kernel)
theorem kz_0 : Cond.initialized RX0 ∈ lwG := lwm 41 (by decide +kernel) (by decide +kernel)
theorem rf_0_0 : rfk 0 0 = true := rfl
theorem ty_0_0 : tyR 0 0 := ⟨tyX0, rfl, rfl⟩
theorem rf_0_1 : rfk 0 1 = false := rfl
theorem ty_0_1 : tyI 0 1 := ⟨tyX0, rfl, rfl⟩
theorem lq_1 : 1 < 19 := by decide
theorem iw_1 : ∀ w ∈ u_ws RX1 TX1 4, w ∈ lwG := by decide +kernel
theorem ft_1 : FT 1 (RX1, TX1, 4) := ⟨tyX1, rfl, tyX1_ok, nmX1⟩
theorem df_1 : DF 1 4 := ⟨tyX1, rfl, by decide +kernel⟩
theorem ki_1 : Cond.instantiable RX1 4 ∈ lwG := lwm 349 (by decide +kernel) (by decide +kernel)
theorem kz_1 : Cond.initialized RX1 ∈ lwG := lwm 48 (by decide +kernel) (by decide +kernel)
theorem rf_1_0 : rfk 1 0 = true := rfl
theorem ty_1_0 : tyR 1 0 := ⟨tyX1, rfl, rfl⟩
theorem rf_1_1 : rfk 1 1 = false := rfl
theorem ty_1_1 : tyI 1 1 := ⟨tyX1, rfl, rfl⟩
theorem rf_1_2 : rfk 1 2 = false := rfl
theorem ty_1_2 : tyI 1 2 := ⟨tyX1, rfl, rfl⟩
theorem rf_1_3 : rfk 1 3 = true := rfl
theorem ty_1_3 : tyR 1 3 := ⟨tyX1, rfl, rfl⟩
theorem lq_2 : 2 < 19 := by decide
theorem iw_2 : ∀ w ∈ u_ws RX2 TX2 9, w ∈ lwG := by decide +kernel
theorem ft_2 : FT 2 (RX2, TX2, 9) := ⟨tyX2, rfl, tyX2_ok, nmX2⟩
theorem df_2 : DF 2 9 := ⟨tyX2, rfl, by decide +kernel⟩
theorem ki_2 : Cond.instantiable RX2 9 ∈ lwG := lwm 292 (by decide +kernel) (by decide +kernel)
theorem kz_2 : Cond.initialized RX2 ∈ lwG := lwm 46 (by decide +kernel) (by decide +kernel)
theorem rf_2_0 : rfk 2 0 = true := rfl
theorem ty_2_0 : tyR 2 0 := ⟨tyX2, rfl, rfl⟩
theorem rf_2_1 : rfk 2 1 = true := rfl
theorem ty_2_1 : tyR 2 1 := ⟨tyX2, rfl, rfl⟩
theorem rf_2_2 : rfk 2 2 = true := rfl
theorem ty_2_2 : tyR 2 2 := ⟨tyX2, rfl, rfl⟩
theorem rf_2_3 : rfk 2 3 = true := rfl
theorem ty_2_3 : tyR 2 3 := ⟨tyX2, rfl, rfl⟩
theorem rf_2_4 : rfk 2 4 = true := rfl
theorem ty_2_4 : tyR 2 4 := ⟨tyX2, rfl, rfl⟩
theorem rf_2_5 : rfk 2 5 = false := rfl
theorem ty_2_5 : tyI 2 5 := ⟨tyX2, rfl, rfl⟩
theorem rf_2_6 : rfk 2 6 = false := rfl
theorem ty_2_6 : tyI 2 6 := ⟨tyX2, rfl, rfl⟩
theorem rf_2_7 : rfk 2 7 = false := rfl
theorem ty_2_7 : tyI 2 7 := ⟨tyX2, rfl, rfl⟩
theorem rf_2_8 : rfk 2 8 = false := rfl
theorem ty_2_8 : tyZ 2 8 := ⟨tyX2, rfl, rfl⟩
theorem lq_3 : 3 < 19 := by decide
theorem iw_3 : ∀ w ∈ u_ws RX3 TX3 4, w ∈ lwG := by decide +kernel
theorem ft_3 : FT 3 (RX3, TX3, 4) := ⟨tyX3, rfl, tyX3_ok, nmX3⟩
theorem df_3 : DF 3 4 := ⟨tyX3, rfl, by decide +kernel⟩
theorem ki_3 : Cond.instantiable RX3 4 ∈ lwG := lwm 351 (by decide +kernel) (by decide +kernel)
theorem kz_3 : Cond.initialized RX3 ∈ lwG := lwm 49 (by decide +kernel) (by decide +kernel)
theorem rf_3_0 : rfk 3 0 = false := rfl
theorem ty_3_0 : tyI 3 0 := ⟨tyX3, rfl, rfl⟩
theorem rf_3_1 : rfk 3 1 = false := rfl
theorem ty_3_1 : tyI 3 1 := ⟨tyX3, rfl, rfl⟩
theorem rf_3_2 : rfk 3 2 = false := rfl
theorem ty_3_2 : tyI 3 2 := ⟨tyX3, rfl, rfl⟩
theorem rf_3_3 : rfk 3 3 = true := rfl
theorem ty_3_3 : tyR 3 3 := ⟨tyX3, rfl, rfl⟩
theorem lq_4 : 4 < 19 := by decide
theorem iw_4 : ∀ w ∈ u_ws RX4 TX4 8, w ∈ lwG := by decide +kernel
theorem ft_4 : FT 4 (RX4, TX4, 8) := ⟨tyX4, rfl, tyX4_ok, nmX4⟩
theorem df_4 : DF 4 8 := ⟨tyX4, rfl, by decide +kernel⟩
theorem ki_4 : Cond.instantiable RX4 8 ∈ lwG := lwm 129 (by decide +kernel) (by decide +kernel)
theorem kz_4 : Cond.initialized RX4 ∈ lwG := lwm 43 (by decide +kernel) (by decide +kernel)
theorem rf_4_0 : rfk 4 0 = false := rfl
theorem ty_4_0 : tyI 4 0 := ⟨tyX4, rfl, rfl⟩
theorem rf_4_1 : rfk 4 1 = false := rfl
theorem ty_4_1 : tyI 4 1 := ⟨tyX4, rfl, rfl⟩
theorem rf_4_2 : rfk 4 2 = false := rfl
theorem ty_4_2 : tyI 4 2 := ⟨tyX4, rfl, rfl⟩
theorem rf_4_3 : rfk 4 3 = false := rfl
theorem ty_4_3 : tyI 4 3 := ⟨tyX4, rfl, rfl⟩
theorem rf_4_4 : rfk 4 4 = false := rfl
theorem ty_4_4 : tyI 4 4 := ⟨tyX4, rfl, rfl⟩
theorem rf_4_5 : rfk 4 5 = false := rfl
theorem ty_4_5 : tyI 4 5 := ⟨tyX4, rfl, rfl⟩
theorem rf_4_6 : rfk 4 6 = false := rfl
theorem ty_4_6 : tyI 4 6 := ⟨tyX4, rfl, rfl⟩
theorem rf_4_7 : rfk 4 7 = false := rfl
theorem ty_4_7 : tyI 4 7 := ⟨tyX4, rfl, rfl⟩
theorem lq_5 : 5 < 19 := by decide
theorem iw_5 : ∀ w ∈ u_ws RX5 TX5 11, w ∈ lwG := by decide +kernel
theorem ft_5 : FT 5 (RX5, TX5, 11) := ⟨tyX5, rfl, tyX5_ok, nmX5⟩
theorem df_5 : DF 5 11 := ⟨tyX5, rfl, by decide +kernel⟩
theorem ki_5 : Cond.instantiable RX5 11 ∈ lwG := lwm 76 (by decide +kernel) (by decide +kernel)
theorem kz_5 : Cond.initialized RX5 ∈ lwG := lwm 42 (by decide +kernel) (by decide +kernel)
theorem rf_5_0 : rfk 5 0 = true := rfl
theorem ty_5_0 : tyR 5 0 := ⟨tyX5, rfl, rfl⟩
theorem rf_5_1 : rfk 5 1 = true := rfl
theorem ty_5_1 : tyR 5 1 := ⟨tyX5, rfl, rfl⟩
theorem rf_5_2 : rfk 5 2 = true := rfl
theorem ty_5_2 : tyR 5 2 := ⟨tyX5, rfl, rfl⟩
theorem rf_5_3 : rfk 5 3 = false := rfl
theorem ty_5_3 : tyI 5 3 := ⟨tyX5, rfl, rfl⟩
theorem rf_5_4 : rfk 5 4 = false := rfl
theorem ty_5_4 : tyI 5 4 := ⟨tyX5, rfl, rfl⟩
theorem rf_5_5 : rfk 5 5 = false := rfl
theorem ty_5_5 : tyI 5 5 := ⟨tyX5, rfl, rfl⟩
theorem rf_5_6 : rfk 5 6 = false := rfl
theorem ty_5_6 : tyI 5 6 := ⟨tyX5, rfl, rfl⟩
theorem rf_5_7 : rfk 5 7 = false := rfl
theorem ty_5_7 : tyI 5 7 := ⟨tyX5, rfl, rfl⟩
theorem rf_5_8 : rfk 5 8 = false := rfl
theorem ty_5_8 : tyI 5 8 := ⟨tyX5, rfl, rfl⟩
theorem rf_5_9 : rfk 5 9 = false := rfl
theorem ty_5_9 : tyI 5 9 := ⟨tyX5, rfl, rfl⟩
theorem rf_5_10 : rfk 5 10 = false := rfl
theorem ty_5_10 : tyI 5 10 := ⟨tyX5, rfl, rfl⟩
theorem lq_6 : 6 < 19 := by decide
theorem iw_6 : ∀ w ∈ u_ws RX6 TX6 9, w ∈ lwG := by decide +kernel
theorem ft_6 : FT 6 (RX6, TX6, 9) := ⟨tyX6, rfl, tyX6_ok, nmX6⟩
theorem df_6 : DF 6 9 := ⟨tyX6, rfl, by decide +kernel⟩
theorem ki_6 : Cond.instantiable RX6 9 ∈ lwG := lwm 51 (by decide +kernel) (by decide +kernel)
theorem kz_6 : Cond.initialized RX6 ∈ lwG := lwm 40 (by decide +kernel) (by decide +kernel)
theorem rf_6_0 : rfk 6 0 = true := rfl
theorem ty_6_0 : tyR 6 0 := ⟨tyX6, rfl, rfl⟩
theorem rf_6_1 : rfk 6 1 = true := rfl
theorem ty_6_1 : tyR 6 1 := ⟨tyX6, rfl, rfl⟩
theorem rf_6_2 : rfk 6 2 = true := rfl
theorem ty_6_2 : tyR 6 2 := ⟨tyX6, rfl, rfl⟩
theorem rf_6_3 : rfk 6 3 = false := rfl
theorem ty_6_3 : tyI 6 3 := ⟨tyX6, rfl, rfl⟩
theorem rf_6_4 : rfk 6 4 = true := rfl
theorem ty_6_4 : tyR 6 4 := ⟨tyX6, rfl, rfl⟩
theorem rf_6_5 : rfk 6 5 = true := rfl
theorem ty_6_5 : tyR 6 5 := ⟨tyX6, rfl, rfl⟩
theorem rf_6_6 : rfk 6 6 = true := rfl
theorem ty_6_6 : tyR 6 6 := ⟨tyX6, rfl, rfl⟩
theorem rf_6_7 : rfk 6 7 = true := rfl
theorem ty_6_7 : tyR 6 7 := ⟨tyX6, rfl, rfl⟩
theorem rf_6_8 : rfk 6 8 = true := rfl
theorem ty_6_8 : tyR 6 8 := ⟨tyX6, rfl, rfl⟩
theorem lq_7 : 7 < 19 := by decide
theorem iw_7 : ∀ w ∈ u_ws RX7 TX7 22, w ∈ lwG := by decide +kernel
theorem ft_7 : FT 7 (RX7, TX7, 22) := ⟨tyX7, rfl, tyX7_ok, nmX7⟩
theorem df_7 : DF 7 22 := ⟨tyX7, rfl, by decide +kernel⟩
theorem ki_7 : Cond.instantiable RX7 22 ∈ lwG := lwm 608 (by decide +kernel) (by decide +kernel)
theorem kz_7 : Cond.initialized RX7 ∈ lwG := lwm 44 (by decide +kernel) (by decide +kernel)
theorem rf_7_0 : rfk 7 0 = true := rfl
theorem ty_7_0 : tyR 7 0 := ⟨tyX7, rfl, rfl⟩
theorem rf_7_1 : rfk 7 1 = true := rfl
theorem ty_7_1 : tyR 7 1 := ⟨tyX7, rfl, rfl⟩
theorem rf_7_2 : rfk 7 2 = false := rfl
theorem ty_7_2 : tyI 7 2 := ⟨tyX7, rfl, rfl⟩
theorem rf_7_3 : rfk 7 3 = true := rfl
theorem ty_7_3 : tyR 7 3 := ⟨tyX7, rfl, rfl⟩
theorem rf_7_4 : rfk 7 4 = false := rfl
theorem ty_7_4 : tyZ 7 4 := ⟨tyX7, rfl, rfl⟩
theorem rf_7_5 : rfk 7 5 = false := rfl
theorem ty_7_5 : tyI 7 5 := ⟨tyX7, rfl, rfl⟩
theorem rf_7_6 : rfk 7 6 = true := rfl
theorem ty_7_6 : tyR 7 6 := ⟨tyX7, rfl, rfl⟩
theorem rf_7_7 : rfk 7 7 = false := rfl
theorem ty_7_7 : tyI 7 7 := ⟨tyX7, rfl, rfl⟩
theorem rf_7_8 : rfk 7 8 = true := rfl
theorem ty_7_8 : tyR 7 8 := ⟨tyX7, rfl, rfl⟩
theorem rf_7_9 : rfk 7 9 = false := rfl
theorem ty_7_9 : tyI 7 9 := ⟨tyX7, rfl, rfl⟩
theorem rf_7_10 : rfk 7 10 = false := rfl
theorem ty_7_10 : tyI 7 10 := ⟨tyX7, rfl, rfl⟩
theorem rf_7_11 : rfk 7 11 = false := rfl
theorem ty_7_11 : tyI 7 11 := ⟨tyX7, rfl, rfl⟩
theorem rf_7_12 : rfk 7 12 = true := rfl
theorem ty_7_12 : tyR 7 12 := ⟨tyX7, rfl, rfl⟩
theorem rf_7_13 : rfk 7 13 = true := rfl
theorem ty_7_13 : tyR 7 13 := ⟨tyX7, rfl, rfl⟩
theorem rf_7_14 : rfk 7 14 = true := rfl
theorem ty_7_14 : tyR 7 14 := ⟨tyX7, rfl, rfl⟩
theorem rf_7_15 : rfk 7 15 = true := rfl
theorem ty_7_15 : tyR 7 15 := ⟨tyX7, rfl, rfl⟩
theorem rf_7_16 : rfk 7 16 = false := rfl
theorem ty_7_16 : tyZ 7 16 := ⟨tyX7, rfl, rfl⟩
theorem rf_7_17 : rfk 7 17 = true := rfl
theorem ty_7_17 : tyR 7 17 := ⟨tyX7, rfl, rfl⟩
theorem rf_7_18 : rfk 7 18 = true := rfl
theorem ty_7_18 : tyR 7 18 := ⟨tyX7, rfl, rfl⟩
theorem rf_7_19 : rfk 7 19 = true := rfl
theorem ty_7_19 : tyR 7 19 := ⟨tyX7, rfl, rfl⟩
theorem rf_7_20 : rfk 7 20 = true := rfl
theorem ty_7_20 : tyR 7 20 := ⟨tyX7, rfl, rfl⟩
theorem rf_7_21 : rfk 7 21 = true := rfl
theorem ty_7_21 : tyR 7 21 := ⟨tyX7, rfl, rfl⟩
theorem fl_0_15 : FL RX0 15 0 1 (RX0, TX0, 2) := ⟨rfl, by decide, lwm 66 (by decide +kernel) (by decide +kernel), iw_0⟩
theorem fl_0_9 : FL RX0 9 0 0 (RX0, TX0, 2) := ⟨rfl, by decide, lwm 64 (by decide +kernel) (by decide +kernel), iw_0⟩
theorem nl_0_19 : (RX0, 19, yX6_isLetter, RX6) ∈ nestT := List.mem_of_getElem? (i := 5) rfl
theorem ml_0_3 : Cond.methodLink RX0 3 Lib.objectInit ∈ lwG := lwm 63 (by decide +kernel) (by decide +kernel)
theorem fl_1_22 : FL RX1 22 1 3 (RX1, TX1, 4) := ⟨rfl, by decide, lwm 388 (by decide +kernel) (by decide +kernel), iw_1⟩
theorem nl_1_37 : (RX1, 37, yX6_slotOf, RX6) ∈ nestT := List.mem_of_getElem? (i := 8) rfl
theorem ml_1_43 : Cond.methodLink RX1 43 yX1_formePieces ∈ lwG := lwm 461 (by decide +kernel) (by decide +kernel)
theorem fl_1_9 : FL RX1 9 1 0 (RX1, TX1, 4) := ⟨rfl, by decide, lwm 380 (by decide +kernel) (by decide +kernel), iw_1⟩
theorem fl_1_47 : FL RX1 47 3 0 (RX3, TX3, 4) := ⟨rfl, by decide, lwm 357 (by decide +kernel) (by decide +kernel), iw_3⟩
theorem ml_1_40 : Cond.methodLink RX1 40 yX1_takenFrom ∈ lwG := lwm 424 (by decide +kernel) (by decide +kernel)
theorem fl_1_19 : FL RX1 19 1 2 (RX1, TX1, 4) := ⟨rfl, by decide, lwm 385 (by decide +kernel) (by decide +kernel), iw_1⟩
theorem fl_1_26 : FL RX1 26 3 2 (RX3, TX3, 4) := ⟨rfl, by decide, lwm 362 (by decide +kernel) (by decide +kernel), iw_3⟩
theorem ml_1_31 : Cond.methodLink RX1 31 Lib.Math.max.name ∈ lwG := lwm 477 (by decide +kernel) (by decide +kernel)
theorem ml_1_50 : Cond.methodLink RX1 50 yX1_takenInAll ∈ lwG := lwm 595 (by decide +kernel) (by decide +kernel)
theorem nl_1_54 : (RX1, 54, yX6_widthOf, RX6) ∈ nestT := List.mem_of_getElem? (i := 9) rfl
theorem fl_1_15 : FL RX1 15 1 1 (RX1, TX1, 4) := ⟨rfl, by decide, lwm 383 (by decide +kernel) (by decide +kernel), iw_1⟩
theorem ml_1_3 : Cond.methodLink RX1 3 Lib.objectInit ∈ lwG := lwm 379 (by decide +kernel) (by decide +kernel)
theorem fl_2_35 : FL RX2 35 2 7 (RX2, TX2, 9) := ⟨rfl, by decide, lwm 325 (by decide +kernel) (by decide +kernel), iw_2⟩
theorem fl_2_25 : FL RX2 25 2 4 (RX2, TX2, 9) := ⟨rfl, by decide, lwm 320 (by decide +kernel) (by decide +kernel), iw_2⟩
theorem fl_2_9 : FL RX2 9 2 0 (RX2, TX2, 9) := ⟨rfl, by decide, lwm 313 (by decide +kernel) (by decide +kernel), iw_2⟩
theorem nl_2_60 : (RX2, 60, yX6_isLetter, RX6) ∈ nestT := List.mem_of_getElem? (i := 6) rfl
theorem nl_2_64 : (RX2, 64, yX6_widthOf, RX6) ∈ nestT := List.mem_of_getElem? (i := 7) rfl
theorem fl_2_15 : FL RX2 15 2 1 (RX2, TX2, 9) := ⟨rfl, by decide, lwm 314 (by decide +kernel) (by decide +kernel), iw_2⟩
theorem fl_2_32 : FL RX2 32 2 6 (RX2, TX2, 9) := ⟨rfl, by decide, lwm 323 (by decide +kernel) (by decide +kernel), iw_2⟩
theorem fl_2_38 : FL RX2 38 2 8 (RX2, TX2, 9) := ⟨rfl, by decide, lwm 327 (by decide +kernel) (by decide +kernel), iw_2⟩
theorem ml_2_68 : Cond.methodLink RX2 68 Lib.Math.max.name ∈ lwG := lwm 306 (by decide +kernel) (by decide +kernel)
theorem ml_2_71 : Cond.methodLink RX2 71 yX2_addGaps ∈ lwG := lwm 309 (by decide +kernel) (by decide +kernel)
theorem fl_2_28 : FL RX2 28 2 5 (RX2, TX2, 9) := ⟨rfl, by decide, lwm 321 (by decide +kernel) (by decide +kernel), iw_2⟩
theorem fl_2_19 : FL RX2 19 2 2 (RX2, TX2, 9) := ⟨rfl, by decide, lwm 316 (by decide +kernel) (by decide +kernel), iw_2⟩
theorem fl_2_22 : FL RX2 22 2 3 (RX2, TX2, 9) := ⟨rfl, by decide, lwm 318 (by decide +kernel) (by decide +kernel), iw_2⟩
theorem ml_2_3 : Cond.methodLink RX2 3 Lib.objectInit ∈ lwG := lwm 296 (by decide +kernel) (by decide +kernel)
theorem fl_2_42 : FL RX2 42 0 1 (RX0, TX0, 2) := ⟨rfl, by decide, lwm 67 (by decide +kernel) (by decide +kernel), iw_0⟩
theorem ml_2_47 : Cond.methodLink RX2 47 Lib.Math.min.name ∈ lwG := lwm 297 (by decide +kernel) (by decide +kernel)
theorem ml_2_56 : Cond.methodLink RX2 56 yX2_addLine ∈ lwG := lwm 300 (by decide +kernel) (by decide +kernel)
theorem fl_2_53 : FL RX2 53 0 0 (RX0, TX0, 2) := ⟨rfl, by decide, lwm 65 (by decide +kernel) (by decide +kernel), iw_0⟩
theorem ml_3_1 : Cond.methodLink RX3 1 Lib.objectInit ∈ lwG := lwm 355 (by decide +kernel) (by decide +kernel)
theorem fl_3_7 : FL RX3 7 3 0 (RX3, TX3, 4) := ⟨rfl, by decide, lwm 356 (by decide +kernel) (by decide +kernel), iw_3⟩
theorem fl_3_13 : FL RX3 13 3 1 (RX3, TX3, 4) := ⟨rfl, by decide, lwm 359 (by decide +kernel) (by decide +kernel), iw_3⟩
theorem fl_3_16 : FL RX3 16 3 2 (RX3, TX3, 4) := ⟨rfl, by decide, lwm 361 (by decide +kernel) (by decide +kernel), iw_3⟩
theorem fl_3_19 : FL RX3 19 3 3 (RX3, TX3, 4) := ⟨rfl, by decide, lwm 365 (by decide +kernel) (by decide +kernel), iw_3⟩
theorem fl_4_7 : FL RX4 7 4 0 (RX4, TX4, 8) := ⟨rfl, by decide, lwm 134 (by decide +kernel) (by decide +kernel), iw_4⟩
theorem fl_4_13 : FL RX4 13 4 1 (RX4, TX4, 8) := ⟨rfl, by decide, lwm 135 (by decide +kernel) (by decide +kernel), iw_4⟩
theorem fl_4_25 : FL RX4 25 4 5 (RX4, TX4, 8) := ⟨rfl, by decide, lwm 139 (by decide +kernel) (by decide +kernel), iw_4⟩
theorem fl_4_28 : FL RX4 28 4 6 (RX4, TX4, 8) := ⟨rfl, by decide, lwm 141 (by decide +kernel) (by decide +kernel), iw_4⟩
theorem fl_4_31 : FL RX4 31 4 7 (RX4, TX4, 8) := ⟨rfl, by decide, lwm 143 (by decide +kernel) (by decide +kernel), iw_4⟩
theorem fl_4_16 : FL RX4 16 4 2 (RX4, TX4, 8) := ⟨rfl, by decide, lwm 136 (by decide +kernel) (by decide +kernel), iw_4⟩
theorem fl_4_19 : FL RX4 19 4 3 (RX4, TX4, 8) := ⟨rfl, by decide, lwm 137 (by decide +kernel) (by decide +kernel), iw_4⟩
theorem ml_4_34 : Cond.methodLink RX4 34 Lib.Math.min.name ∈ lwG := lwm 441 (by decide +kernel) (by decide +kernel)
theorem fl_4_22 : FL RX4 22 4 4 (RX4, TX4, 8) := ⟨rfl, by decide, lwm 138 (by decide +kernel) (by decide +kernel), iw_4⟩
theorem ml_4_1 : Cond.methodLink RX4 1 Lib.objectInit ∈ lwG := lwm 133 (by decide +kernel) (by decide +kernel)
theorem fl_5_28 : FL RX5 28 5 4 (RX5, TX5, 11) := ⟨rfl, by decide, lwm 89 (by decide +kernel) (by decide +kernel), iw_5⟩
theorem fl_5_20 : FL RX5 20 5 2 (RX5, TX5, 11) := ⟨rfl, by decide, lwm 86 (by decide +kernel) (by decide +kernel), iw_5⟩
theorem ml_5_69 : Cond.methodLink RX5 69 yX5_findJob ∈ lwG := lwm 590 (by decide +kernel) (by decide +kernel)
theorem fl_5_77 : FL RX5 77 1 2 (RX1, TX1, 4) := ⟨rfl, by decide, lwm 386 (by decide +kernel) (by decide +kernel), iw_1⟩
theorem ml_5_80 : Cond.methodLink RX5 80 yX1_daysLate ∈ lwG := lwm 601 (by decide +kernel) (by decide +kernel)
theorem fl_5_9 : FL RX5 9 5 0 (RX5, TX5, 11) := ⟨rfl, by decide, lwm 83 (by decide +kernel) (by decide +kernel), iw_5⟩
theorem ml_5_49 : Cond.methodLink RX5 49 arraycopyName ∈ lwG := lwm 207 (by decide +kernel) (by decide +kernel)
theorem fl_5_15 : FL RX5 15 5 1 (RX5, TX5, 11) := ⟨rfl, by decide, lwm 84 (by decide +kernel) (by decide +kernel), iw_5⟩
theorem fl_5_24 : FL RX5 24 5 3 (RX5, TX5, 11) := ⟨rfl, by decide, lwm 87 (by decide +kernel) (by decide +kernel), iw_5⟩
theorem fl_5_31 : FL RX5 31 5 5 (RX5, TX5, 11) := ⟨rfl, by decide, lwm 91 (by decide +kernel) (by decide +kernel), iw_5⟩
theorem fl_5_34 : FL RX5 34 5 6 (RX5, TX5, 11) := ⟨rfl, by decide, lwm 93 (by decide +kernel) (by decide +kernel), iw_5⟩
theorem fl_5_37 : FL RX5 37 5 7 (RX5, TX5, 11) := ⟨rfl, by decide, lwm 95 (by decide +kernel) (by decide +kernel), iw_5⟩
theorem fl_5_40 : FL RX5 40 5 8 (RX5, TX5, 11) := ⟨rfl, by decide, lwm 97 (by decide +kernel) (by decide +kernel), iw_5⟩
theorem fl_5_43 : FL RX5 43 5 9 (RX5, TX5, 11) := ⟨rfl, by decide, lwm 99 (by decide +kernel) (by decide +kernel), iw_5⟩
theorem fl_5_46 : FL RX5 46 5 10 (RX5, TX5, 11) := ⟨rfl, by decide, lwm 101 (by decide +kernel) (by decide +kernel), iw_5⟩
theorem nl_5_55 : (RX5, 55, yX6_slotOf, RX6) ∈ nestT := List.mem_of_getElem? (i := 3) rfl
theorem ml_5_59 : Cond.methodLink RX5 59 yX5_held ∈ lwG := lwm 419 (by decide +kernel) (by decide +kernel)
theorem ml_5_3 : Cond.methodLink RX5 3 Lib.objectInit ∈ lwG := lwm 80 (by decide +kernel) (by decide +kernel)
theorem kl_5_18 : Cond.classLink RX5 18 RX1 ∈ lwG := lwm 81 (by decide +kernel) (by decide +kernel)
theorem ml_5_66 : Cond.methodLink RX5 66 yX5_heldInAll ∈ lwG := lwm 585 (by decide +kernel) (by decide +kernel)
theorem nl_5_62 : (RX5, 62, yX6_widthOf, RX6) ∈ nestT := List.mem_of_getElem? (i := 4) rfl
theorem ml_5_73 : Cond.methodLink RX5 73 yX1_formeMetal ∈ lwG := lwm 591 (by decide +kernel) (by decide +kernel)
theorem ml_5_83 : Cond.methodLink RX5 83 yX1_isOpen ∈ lwG := lwm 606 (by decide +kernel) (by decide +kernel)
theorem fl_5_87 : FL RX5 87 1 0 (RX1, TX1, 4) := ⟨rfl, by decide, lwm 382 (by decide +kernel) (by decide +kernel), iw_1⟩
theorem fl_5_91 : FL RX5 91 3 2 (RX3, TX3, 4) := ⟨rfl, by decide, lwm 363 (by decide +kernel) (by decide +kernel), iw_3⟩
theorem fl_6_23 : FL RX6 23 6 2 (RX6, TX6, 9) := ⟨rfl, by decide, lwm 164 (by decide +kernel) (by decide +kernel), iw_6⟩
theorem fl_6_27 : FL RX6 27 6 3 (RX6, TX6, 9) := ⟨rfl, by decide, lwm 165 (by decide +kernel) (by decide +kernel), iw_6⟩
theorem ml_6_252 : Cond.methodLink RX6 252 yX6_dropOldestState ∈ lwG := lwm 199 (by decide +kernel) (by decide +kernel)
theorem kl_6_16 : Cond.classLink RX6 16 RX5 ∈ lwG := lwm 75 (by decide +kernel) (by decide +kernel)
theorem nl_6_18 : (RX6, 18, yX5_init, RX6) ∈ nestT := List.mem_of_getElem? (i := 1) rfl
theorem fl_6_19 : FL RX6 19 6 1 (RX6, TX6, 9) := ⟨rfl, by decide, lwm 163 (by decide +kernel) (by decide +kernel), iw_6⟩
theorem ml_6_189 : Cond.methodLink RX6 189 yX5_copyFrom ∈ lwG := lwm 203 (by decide +kernel) (by decide +kernel)
theorem fl_6_61 : FL RX6 61 5 3 (RX5, TX5, 11) := ⟨rfl, by decide, lwm 88 (by decide +kernel) (by decide +kernel), iw_5⟩
theorem ml_6_55 : Cond.methodLink RX6 55 yX6_recordState ∈ lwG := lwm 195 (by decide +kernel) (by decide +kernel)
theorem fl_6_51 : FL RX6 51 5 5 (RX5, TX5, 11) := ⟨rfl, by decide, lwm 92 (by decide +kernel) (by decide +kernel), iw_5⟩
theorem fl_6_58 : FL RX6 58 5 7 (RX5, TX5, 11) := ⟨rfl, by decide, lwm 96 (by decide +kernel) (by decide +kernel), iw_5⟩
theorem ml_6_215 : Cond.methodLink RX6 215 yX1_takenFrom ∈ lwG := lwm 486 (by decide +kernel) (by decide +kernel)
theorem ml_6_75 : Cond.methodLink RX6 75 yX5_held ∈ lwG := lwm 229 (by decide +kernel) (by decide +kernel)
theorem ml_6_290 : Cond.methodLink RX6 290 Lib.Math.min.name ∈ lwG := lwm 455 (by decide +kernel) (by decide +kernel)
theorem ml_6_79 : Cond.methodLink RX6 79 yX5_put ∈ lwG := lwm 239 (by decide +kernel) (by decide +kernel)
theorem fl_6_193 : FL RX6 193 5 1 (RX5, TX5, 11) := ⟨rfl, by decide, lwm 85 (by decide +kernel) (by decide +kernel), iw_5⟩
theorem ml_6_138 : Cond.methodLink RX6 138 yX5_findJob ∈ lwG := lwm 407 (by decide +kernel) (by decide +kernel)
theorem ml_6_182 : Cond.methodLink RX6 182 yX1_isOpen ∈ lwG := lwm 491 (by decide +kernel) (by decide +kernel)
theorem ml_6_175 : Cond.methodLink RX6 175 yX6_giveBack ∈ lwG := lwm 482 (by decide +kernel) (by decide +kernel)
theorem kl_6_124 : Cond.classLink RX6 124 RX1 ∈ lwG := lwm 348 (by decide +kernel) (by decide +kernel)
theorem fl_6_152 : FL RX6 152 1 0 (RX1, TX1, 4) := ⟨rfl, by decide, lwm 381 (by decide +kernel) (by decide +kernel), iw_1⟩
theorem ml_6_131 : Cond.methodLink RX6 131 yX1_init ∈ lwG := lwm 376 (by decide +kernel) (by decide +kernel)
theorem ml_6_134 : Cond.methodLink RX6 134 yX5_putJob ∈ lwG := lwm 399 (by decide +kernel) (by decide +kernel)
theorem ml_6_186 : Cond.methodLink RX6 186 yX1_formePieces ∈ lwG := lwm 495 (by decide +kernel) (by decide +kernel)
theorem fl_6_48 : FL RX6 48 6 8 (RX6, TX6, 9) := ⟨rfl, by decide, lwm 170 (by decide +kernel) (by decide +kernel), iw_6⟩
theorem ml_6_83 : Cond.methodLink RX6 83 yX6_widthOf ∈ lwG := lwm 236 (by decide +kernel) (by decide +kernel)
theorem fl_6_243 : FL RX6 243 5 9 (RX5, TX5, 11) := ⟨rfl, by decide, lwm 100 (by decide +kernel) (by decide +kernel), iw_5⟩
theorem ml_6_64 : Cond.methodLink RX6 64 yX6_isCase ∈ lwG := lwm 218 (by decide +kernel) (by decide +kernel)
theorem ml_6_68 : Cond.methodLink RX6 68 yX6_isSort ∈ lwG := lwm 222 (by decide +kernel) (by decide +kernel)
theorem ml_6_71 : Cond.methodLink RX6 71 yX6_castWanted ∈ lwG := lwm 225 (by decide +kernel) (by decide +kernel)
theorem fl_6_202 : FL RX6 202 3 3 (RX3, TX3, 4) := ⟨rfl, by decide, lwm 366 (by decide +kernel) (by decide +kernel), iw_3⟩
theorem fl_6_45 : FL RX6 45 6 7 (RX6, TX6, 9) := ⟨rfl, by decide, lwm 169 (by decide +kernel) (by decide +kernel), iw_6⟩
theorem ml_6_255 : Cond.methodLink RX6 255 yX5_heldInAll ∈ lwG := lwm 415 (by decide +kernel) (by decide +kernel)
theorem ml_6_258 : Cond.methodLink RX6 258 yX1_takenInAll ∈ lwG := lwm 420 (by decide +kernel) (by decide +kernel)
theorem fl_6_37 : FL RX6 37 6 5 (RX6, TX6, 9) := ⟨rfl, by decide, lwm 167 (by decide +kernel) (by decide +kernel), iw_6⟩
theorem ml_6_264 : Cond.methodLink RX6 264 yX4_begin ∈ lwG := lwm 429 (by decide +kernel) (by decide +kernel)
theorem fl_6_41 : FL RX6 41 6 6 (RX6, TX6, 9) := ⟨rfl, by decide, lwm 168 (by decide +kernel) (by decide +kernel), iw_6⟩
theorem fl_6_261 : FL RX6 261 2 1 (RX2, TX2, 9) := ⟨rfl, by decide, lwm 315 (by decide +kernel) (by decide +kernel), iw_2⟩
theorem fl_6_212 : FL RX6 212 2 7 (RX2, TX2, 9) := ⟨rfl, by decide, lwm 326 (by decide +kernel) (by decide +kernel), iw_2⟩
theorem fl_6_272 : FL RX6 272 4 5 (RX4, TX4, 8) := ⟨rfl, by decide, lwm 140 (by decide +kernel) (by decide +kernel), iw_4⟩
theorem fl_6_275 : FL RX6 275 4 6 (RX4, TX4, 8) := ⟨rfl, by decide, lwm 142 (by decide +kernel) (by decide +kernel), iw_4⟩
theorem fl_6_278 : FL RX6 278 4 7 (RX4, TX4, 8) := ⟨rfl, by decide, lwm 144 (by decide +kernel) (by decide +kernel), iw_4⟩
theorem ml_6_227 : Cond.methodLink RX6 227 yX2_gapWidth ∈ lwG := lwm 433 (by decide +kernel) (by decide +kernel)
theorem ml_6_268 : Cond.methodLink RX6 268 yX4_fill ∈ lwG := lwm 437 (by decide +kernel) (by decide +kernel)
theorem ml_6_281 : Cond.methodLink RX6 281 Lib.Math.max.name ∈ lwG := lwm 446 (by decide +kernel) (by decide +kernel)
theorem fl_6_142 : FL RX6 142 1 1 (RX1, TX1, 4) := ⟨rfl, by decide, lwm 384 (by decide +kernel) (by decide +kernel), iw_1⟩
theorem ml_6_145 : Cond.methodLink RX6 145 yX6_reckon ∈ lwG := lwm 411 (by decide +kernel) (by decide +kernel)
theorem fl_6_156 : FL RX6 156 3 0 (RX3, TX3, 4) := ⟨rfl, by decide, lwm 358 (by decide +kernel) (by decide +kernel), iw_3⟩
theorem ml_6_149 : Cond.methodLink RX6 149 yX6_missingOf ∈ lwG := lwm 442 (by decide +kernel) (by decide +kernel)
theorem fl_6_10 : FL RX6 10 6 0 (RX6, TX6, 9) := ⟨rfl, by decide, lwm 162 (by decide +kernel) (by decide +kernel), iw_6⟩
theorem fl_6_106 : FL RX6 106 0 1 (RX0, TX0, 2) := ⟨rfl, by decide, lwm 68 (by decide +kernel) (by decide +kernel), iw_0⟩
theorem fl_6_121 : FL RX6 121 5 4 (RX5, TX5, 11) := ⟨rfl, by decide, lwm 90 (by decide +kernel) (by decide +kernel), iw_5⟩
theorem ml_6_237 : Cond.methodLink RX6 237 yX5_metalInCases ∈ lwG := lwm 581 (by decide +kernel) (by decide +kernel)
theorem ml_6_240 : Cond.methodLink RX6 240 yX5_metalInFormes ∈ lwG := lwm 586 (by decide +kernel) (by decide +kernel)
theorem ml_6_93 : Cond.methodLink RX6 93 yX5_wornMetal ∈ lwG := lwm 259 (by decide +kernel) (by decide +kernel)
theorem fl_6_99 : FL RX6 99 5 8 (RX5, TX5, 11) := ⟨rfl, by decide, lwm 98 (by decide +kernel) (by decide +kernel), iw_5⟩
theorem fl_6_86 : FL RX6 86 5 10 (RX5, TX5, 11) := ⟨rfl, by decide, lwm 102 (by decide +kernel) (by decide +kernel), iw_5⟩
theorem ml_6_89 : Cond.methodLink RX6 89 yX5_wornPieces ∈ lwG := lwm 255 (by decide +kernel) (by decide +kernel)
theorem fl_6_166 : FL RX6 166 5 6 (RX5, TX5, 11) := ⟨rfl, by decide, lwm 94 (by decide +kernel) (by decide +kernel), iw_5⟩
theorem ml_6_246 : Cond.methodLink RX6 246 yX5_allDaysLate ∈ lwG := lwm 597 (by decide +kernel) (by decide +kernel)
theorem ml_6_249 : Cond.methodLink RX6 249 yX5_overdueJobs ∈ lwG := lwm 602 (by decide +kernel) (by decide +kernel)
theorem fl_6_179 : FL RX6 179 1 2 (RX1, TX1, 4) := ⟨rfl, by decide, lwm 387 (by decide +kernel) (by decide +kernel), iw_1⟩
theorem ml_6_221 : Cond.methodLink RX6 221 yX2_firstGap ∈ lwG := lwm 540 (by decide +kernel) (by decide +kernel)
theorem ml_6_296 : Cond.methodLink RX6 296 yX2_lineStart ∈ lwG := lwm 556 (by decide +kernel) (by decide +kernel)
theorem fl_6_299 : FL RX6 299 2 2 (RX2, TX2, 9) := ⟨rfl, by decide, lwm 317 (by decide +kernel) (by decide +kernel), iw_2⟩
theorem fl_6_224 : FL RX6 224 2 3 (RX2, TX2, 9) := ⟨rfl, by decide, lwm 319 (by decide +kernel) (by decide +kernel), iw_2⟩
theorem ml_6_309 : Cond.methodLink RX6 309 yX4_pieceCount ∈ lwG := lwm 565 (by decide +kernel) (by decide +kernel)
theorem ml_6_312 : Cond.methodLink RX6 312 yX4_digitAt ∈ lwG := lwm 569 (by decide +kernel) (by decide +kernel)
theorem ml_6_302 : Cond.methodLink RX6 302 yX2_signAt ∈ lwG := lwm 560 (by decide +kernel) (by decide +kernel)
theorem ml_6_306 : Cond.methodLink RX6 306 yX6_isLetter ∈ lwG := lwm 564 (by decide +kernel) (by decide +kernel)
theorem ml_6_218 : Cond.methodLink RX6 218 yX2_hasLine ∈ lwG := lwm 536 (by decide +kernel) (by decide +kernel)
theorem ml_6_1 : Cond.methodLink RX6 1 Lib.objectInit ∈ lwG := lwm 55 (by decide +kernel) (by decide +kernel)
theorem kl_6_7 : Cond.classLink RX6 7 RX0 ∈ lwG := lwm 58 (by decide +kernel) (by decide +kernel)
theorem nl_6_9 : (RX6, 9, yX0_init, RX6) ∈ nestT := List.mem_of_getElem? (i := 0) rfl
theorem fl_6_31 : FL RX6 31 6 4 (RX6, TX6, 9) := ⟨rfl, by decide, lwm 166 (by decide +kernel) (by decide +kernel), iw_6⟩
theorem kl_6_34 : Cond.classLink RX6 34 RX4 ∈ lwG := lwm 128 (by decide +kernel) (by decide +kernel)
theorem nl_6_36 : (RX6, 36, yX4_init, RX6) ∈ nestT := List.mem_of_getElem? (i := 2) rfl
theorem fl_6_196 : FL RX6 196 3 1 (RX3, TX3, 4) := ⟨rfl, by decide, lwm 360 (by decide +kernel) (by decide +kernel), iw_3⟩
theorem fl_6_199 : FL RX6 199 3 2 (RX3, TX3, 4) := ⟨rfl, by decide, lwm 364 (by decide +kernel) (by decide +kernel), iw_3⟩
theorem fl_6_206 : FL RX6 206 2 5 (RX2, TX2, 9) := ⟨rfl, by decide, lwm 322 (by decide +kernel) (by decide +kernel), iw_2⟩
theorem fl_6_209 : FL RX6 209 2 6 (RX2, TX2, 9) := ⟨rfl, by decide, lwm 324 (by decide +kernel) (by decide +kernel), iw_2⟩
theorem ml_6_163 : Cond.methodLink RX6 163 yX1_borrowedPieces ∈ lwG := lwm 457 (by decide +kernel) (by decide +kernel)
theorem ml_6_172 : Cond.methodLink RX6 172 yX1_daysLate ∈ lwG := lwm 473 (by decide +kernel) (by decide +kernel)
theorem ml_6_96 : Cond.methodLink RX6 96 yX5_emptyWornBox ∈ lwG := lwm 264 (by decide +kernel) (by decide +kernel)
theorem ml_6_109 : Cond.methodLink RX6 109 yX0_findFault ∈ lwG := lwm 284 (by decide +kernel) (by decide +kernel)
theorem kl_6_112 : Cond.classLink RX6 112 RX2 ∈ lwG := lwm 291 (by decide +kernel) (by decide +kernel)
theorem ml_6_114 : Cond.methodLink RX6 114 yX2_init ∈ lwG := lwm 293 (by decide +kernel) (by decide +kernel)
theorem fl_6_117 : FL RX6 117 2 8 (RX2, TX2, 9) := ⟨rfl, by decide, lwm 328 (by decide +kernel) (by decide +kernel), iw_2⟩
theorem kl_6_126 : Cond.classLink RX6 126 RX3 ∈ lwG := lwm 350 (by decide +kernel) (by decide +kernel)
theorem ml_6_128 : Cond.methodLink RX6 128 yX3_init ∈ lwG := lwm 352 (by decide +kernel) (by decide +kernel)
theorem ml_6_230 : Cond.methodLink RX6 230 yX1_hasForme ∈ lwG := lwm 548 (by decide +kernel) (by decide +kernel)
theorem ml_6_233 : Cond.methodLink RX6 233 yX6_findPiece ∈ lwG := lwm 552 (by decide +kernel) (by decide +kernel)
theorem fl_6_169 : FL RX6 169 1 3 (RX1, TX1, 4) := ⟨rfl, by decide, lwm 389 (by decide +kernel) (by decide +kernel), iw_1⟩
theorem ml_6_293 : Cond.methodLink RX6 293 yX6_slotOf ∈ lwG := lwm 456 (by decide +kernel) (by decide +kernel)
theorem ml_6_286 : Cond.methodLink RX6 286 yX6_takePieces ∈ lwG := lwm 451 (by decide +kernel) (by decide +kernel)
theorem ml_6_159 : Cond.methodLink RX6 159 yX6_takeNeeded ∈ lwG := lwm 447 (by decide +kernel) (by decide +kernel)
theorem ml_6_102 : Cond.methodLink RX6 102 yX0_append ∈ lwG := lwm 272 (by decide +kernel) (by decide +kernel)
theorem fl_7_52 : FL RX7 52 7 2 (RX7, TX7, 22) := ⟨rfl, by decide, lwm 615 (by decide +kernel) (by decide +kernel), iw_7⟩
theorem fl_7_13 : FL RX7 13 7 1 (RX7, TX7, 22) := ⟨rfl, by decide, lwm 614 (by decide +kernel) (by decide +kernel), iw_7⟩
theorem fl_7_7 : FL RX7 7 7 0 (RX7, TX7, 22) := ⟨rfl, by decide, lwm 613 (by decide +kernel) (by decide +kernel), iw_7⟩
theorem ml_7_65 : Cond.methodLink RX7 65 yX7_record ∈ lwG := lwm 688 (by decide +kernel) (by decide +kernel)
theorem fl_7_37 : FL RX7 37 7 17 (RX7, TX7, 22) := ⟨rfl, by decide, lwm 630 (by decide +kernel) (by decide +kernel), iw_7⟩
theorem fl_7_40 : FL RX7 40 7 18 (RX7, TX7, 22) := ⟨rfl, by decide, lwm 631 (by decide +kernel) (by decide +kernel), iw_7⟩
theorem ml_7_135 : Cond.methodLink RX7 135 yX7_lacks ∈ lwG := lwm 804 (by decide +kernel) (by decide +kernel)
theorem ml_7_68 : Cond.methodLink RX7 68 yX7_width ∈ lwG := lwm 711 (by decide +kernel) (by decide +kernel)
theorem ml_7_56 : Cond.methodLink RX7 56 yX7_in ∈ lwG := lwm 684 (by decide +kernel) (by decide +kernel)
theorem ml_7_60 : Cond.methodLink RX7 60 yX7_ofJob ∈ lwG := lwm 777 (by decide +kernel) (by decide +kernel)
theorem ml_7_128 : Cond.methodLink RX7 128 yX7_inForme ∈ lwG := lwm 793 (by decide +kernel) (by decide +kernel)
theorem ml_7_79 : Cond.methodLink RX7 79 yX7_has ∈ lwG := lwm 707 (by decide +kernel) (by decide +kernel)
theorem ml_7_132 : Cond.methodLink RX7 132 yX7_least ∈ lwG := lwm 797 (by decide +kernel) (by decide +kernel)
theorem ml_7_141 : Cond.methodLink RX7 141 yX7_put ∈ lwG := lwm 765 (by decide +kernel) (by decide +kernel)
theorem ml_7_144 : Cond.methodLink RX7 144 yX7_noJob ∈ lwG := lwm 773 (by decide +kernel) (by decide +kernel)
theorem ml_7_160 : Cond.methodLink RX7 160 yX7_inFormeOf ∈ lwG := lwm 833 (by decide +kernel) (by decide +kernel)
theorem ml_7_157 : Cond.methodLink RX7 157 yX7_goBack ∈ lwG := lwm 825 (by decide +kernel) (by decide +kernel)
theorem ml_7_72 : Cond.methodLink RX7 72 yX7_noCase ∈ lwG := lwm 700 (by decide +kernel) (by decide +kernel)
theorem ml_7_76 : Cond.methodLink RX7 76 yX7_noSort ∈ lwG := lwm 704 (by decide +kernel) (by decide +kernel)
theorem ml_7_82 : Cond.methodLink RX7 82 yX7_casts ∈ lwG := lwm 714 (by decide +kernel) (by decide +kernel)
theorem fl_7_102 : FL RX7 102 7 16 (RX7, TX7, 22) := ⟨rfl, by decide, lwm 629 (by decide +kernel) (by decide +kernel), iw_7⟩
theorem fl_7_22 : FL RX7 22 7 8 (RX7, TX7, 22) := ⟨rfl, by decide, lwm 621 (by decide +kernel) (by decide +kernel), iw_7⟩
theorem ml_7_96 : Cond.methodLink RX7 96 yX7_isLetter ∈ lwG := lwm 754 (by decide +kernel) (by decide +kernel)
theorem fl_7_99 : FL RX7 99 7 10 (RX7, TX7, 22) := ⟨rfl, by decide, lwm 623 (by decide +kernel) (by decide +kernel), iw_7⟩
theorem fl_7_25 : FL RX7 25 7 12 (RX7, TX7, 22) := ⟨rfl, by decide, lwm 625 (by decide +kernel) (by decide +kernel), iw_7⟩
theorem fl_7_106 : FL RX7 106 7 9 (RX7, TX7, 22) := ⟨rfl, by decide, lwm 622 (by decide +kernel) (by decide +kernel), iw_7⟩
theorem fl_7_28 : FL RX7 28 7 13 (RX7, TX7, 22) := ⟨rfl, by decide, lwm 626 (by decide +kernel) (by decide +kernel), iw_7⟩
theorem fl_7_31 : FL RX7 31 7 14 (RX7, TX7, 22) := ⟨rfl, by decide, lwm 627 (by decide +kernel) (by decide +kernel), iw_7⟩
theorem fl_7_109 : FL RX7 109 7 11 (RX7, TX7, 22) := ⟨rfl, by decide, lwm 624 (by decide +kernel) (by decide +kernel), iw_7⟩
theorem fl_7_34 : FL RX7 34 7 15 (RX7, TX7, 22) := ⟨rfl, by decide, lwm 628 (by decide +kernel) (by decide +kernel), iw_7⟩
theorem fl_7_112 : FL RX7 112 7 7 (RX7, TX7, 22) := ⟨rfl, by decide, lwm 620 (by decide +kernel) (by decide +kernel), iw_7⟩
theorem ml_7_115 : Cond.methodLink RX7 115 yX7_layLine ∈ lwG := lwm 761 (by decide +kernel) (by decide +kernel)
theorem ml_7_118 : Cond.methodLink RX7 118 yX7_layLines ∈ lwG := lwm 757 (by decide +kernel) (by decide +kernel)
theorem ml_7_122 : Cond.methodLink RX7 122 yX7_layJob ∈ lwG := lwm 785 (by decide +kernel) (by decide +kernel)
theorem ml_7_125 : Cond.methodLink RX7 125 yX7_hasForme ∈ lwG := lwm 789 (by decide +kernel) (by decide +kernel)
theorem fl_7_43 : FL RX7 43 7 19 (RX7, TX7, 22) := ⟨rfl, by decide, lwm 632 (by decide +kernel) (by decide +kernel), iw_7⟩
theorem fl_7_46 : FL RX7 46 7 20 (RX7, TX7, 22) := ⟨rfl, by decide, lwm 633 (by decide +kernel) (by decide +kernel), iw_7⟩
theorem fl_7_49 : FL RX7 49 7 21 (RX7, TX7, 22) := ⟨rfl, by decide, lwm 634 (by decide +kernel) (by decide +kernel), iw_7⟩
theorem ml_7_147 : Cond.methodLink RX7 147 yX7_layNeeds ∈ lwG := lwm 781 (by decide +kernel) (by decide +kernel)
theorem ml_7_150 : Cond.methodLink RX7 150 yX7_allLacks ∈ lwG := lwm 800 (by decide +kernel) (by decide +kernel)
theorem fl_7_93 : FL RX7 93 7 5 (RX7, TX7, 22) := ⟨rfl, by decide, lwm 618 (by decide +kernel) (by decide +kernel), iw_7⟩
theorem ml_7_173 : Cond.methodLink RX7 173 yX7_isToDo ∈ lwG := lwm 892 (by decide +kernel) (by decide +kernel)
theorem ml_7_176 : Cond.methodLink RX7 176 yX7_caseMetal ∈ lwG := lwm 900 (by decide +kernel) (by decide +kernel)
theorem ml_7_179 : Cond.methodLink RX7 179 yX7_formeMetal ∈ lwG := lwm 904 (by decide +kernel) (by decide +kernel)
theorem ml_7_90 : Cond.methodLink RX7 90 yX7_boxMetal ∈ lwG := lwm 734 (by decide +kernel) (by decide +kernel)
theorem ml_7_86 : Cond.methodLink RX7 86 yX7_inBox ∈ lwG := lwm 730 (by decide +kernel) (by decide +kernel)
theorem ml_7_182 : Cond.methodLink RX7 182 yX7_lateDays ∈ lwG := lwm 908 (by decide +kernel) (by decide +kernel)
theorem ml_7_185 : Cond.methodLink RX7 185 yX7_pastDue ∈ lwG := lwm 912 (by decide +kernel) (by decide +kernel)
theorem fl_7_19 : FL RX7 19 7 6 (RX7, TX7, 22) := ⟨rfl, by decide, lwm 619 (by decide +kernel) (by decide +kernel), iw_7⟩
theorem ml_7_1 : Cond.methodLink RX7 1 Lib.objectInit ∈ lwG := lwm 612 (by decide +kernel) (by decide +kernel)
theorem fl_7_16 : FL RX7 16 7 3 (RX7, TX7, 22) := ⟨rfl, by decide, lwm 616 (by decide +kernel) (by decide +kernel), iw_7⟩
theorem fl_7_164 : FL RX7 164 7 4 (RX7, TX7, 22) := ⟨rfl, by decide, lwm 617 (by decide +kernel) (by decide +kernel), iw_7⟩
theorem ml_7_138 : Cond.methodLink RX7 138 yX7_faultOf ∈ lwG := lwm 750 (by decide +kernel) (by decide +kernel)
theorem ml_7_170 : Cond.methodLink RX7 170 yX7_spaceAt ∈ lwG := lwm 884 (by decide +kernel) (by decide +kernel)
theorem ml_7_167 : Cond.methodLink RX7 167 yX7_spaces ∈ lwG := lwm 881 (by decide +kernel) (by decide +kernel)
theorem ml_7_153 : Cond.methodLink RX7 153 yX7_takes ∈ lwG := lwm 808 (by decide +kernel) (by decide +kernel)
theorem kc_6_54 : Cond.constant RX6 54 100000 ∈ lwG := lwm 194 (by decide +kernel) (by decide +kernel)
theorem kc_7_64 : Cond.constant RX7 64 100000 ∈ lwG := lwm 687 (by decide +kernel) (by decide +kernel)
theorem kc_7_156 : Cond.constant RX7 156 1000000 ∈ lwG := lwm 812 (by decide +kernel) (by decide +kernel)
theorem mmin_s : Cond.static Lib.Math.min.name ∈ lwG := lwm 298 (by decide +kernel) (by decide +kernel)
theorem mmin_c : Cond.code Lib.Math.min.name Lib.Math.min.code 2 (some .int) ∈ lwG := lwm 299 (by decide +kernel) (by decide +kernel)
theorem mmax_s : Cond.static Lib.Math.max.name ∈ lwG := lwm 307 (by decide +kernel) (by decide +kernel)
theorem mmax_c : Cond.code Lib.Math.max.name Lib.Math.max.code 2 (some .int) ∈ lwG := lwm 308 (by decide +kernel) (by decide +kernel)
theorem mth_i : Cond.initialized "java/lang/Math" ∈ lwG := lwm 47 (by decide +kernel) (by decide +kernel)
theorem sys_i : Cond.initialized "java/lang/System" ∈ lwG := lwm 45 (by decide +kernel) (by decide +kernel)
theorem cpy_n : Cond.native arraycopyName ∈ lwG := lwm 209 (by decide +kernel) (by decide +kernel)
theorem cpy_s : Cond.static arraycopyName ∈ lwG := lwm 208 (by decide +kernel) (by decide +kernel)
theorem obj_i : Cond.instanceMethod Lib.objectInit ∈ lwG := lwm 56 (by decide +kernel) (by decide +kernel)
theorem obj_c : Cond.code Lib.objectInit ⟨#[0xb1]⟩ 1 none ∈ lwG := lwm 57 (by decide +kernel) (by decide +kernel)
theorem ka_0 : Cond.arrayClass (aty 0) ∈ lwG := lwm 126 (by decide +kernel) (by decide +kernel)
theorem ka_1 : Cond.arrayClass (aty 1) ∈ lwG := lwm 74 (by decide +kernel) (by decide +kernel)
theorem cf_X0_append : CF yX0_append cX0_append 2 (some .boolean) 1 := ⟨lwm 275 (by decide +kernel) (by decide +kernel), kz_0, by decide +kernel, by decide +kernel, by decide +kernel⟩
theorem im_X0_append : Cond.instanceMethod yX0_append ∈ lwG := lwm 273 (by decide +kernel) (by decide +kernel)
theorem sl_X0_append : Cond.selects yX0_append.cls yX0_append yX0_append ∈ lwG := lwm 274 (by decide +kernel) (by decide +kernel)
theorem cf_X6_isLetter : CF yX6_isLetter cX6_isLetter 1 (some .boolean) 1 := ⟨lwm 290 (by decide +kernel) (by decide +kernel), kz_6, by decide +kernel, by decide +kernel, by decide +kernel⟩
theorem st_X6_isLetter : Cond.static yX6_isLetter ∈ lwG := lwm 289 (by decide +kernel) (by decide +kernel)
theorem cf_X0_findFault : CF yX0_findFault cX0_findFault 5 (some .int) 0 := ⟨lwm 287 (by decide +kernel) (by decide +kernel), kz_0, by decide +kernel, by decide +kernel, by decide +kernel⟩
theorem im_X0_findFault : Cond.instanceMethod yX0_findFault ∈ lwG := lwm 285 (by decide +kernel) (by decide +kernel)
theorem sl_X0_findFault : Cond.selects yX0_findFault.cls yX0_findFault yX0_findFault ∈ lwG := lwm 286 (by decide +kernel) (by decide +kernel)
theorem cf_X0_init : CF yX0_init cX0_init 1 none 0 := ⟨lwm 62 (by decide +kernel) (by decide +kernel), kz_0, by decide +kernel, by decide +kernel, by decide +kernel⟩
theorem im_X0_init : Cond.instanceMethod yX0_init ∈ lwG := lwm 61 (by decide +kernel) (by decide +kernel)
theorem cf_X1_formePieces : CF yX1_formePieces cX1_formePieces 3 (some .int) 0 := ⟨lwm 464 (by decide +kernel) (by decide +kernel), kz_1, by decide +kernel, by decide +kernel, by decide +kernel⟩
theorem im_X1_formePieces : Cond.instanceMethod yX1_formePieces ∈ lwG := lwm 462 (by decide +kernel) (by decide +kernel)
theorem sl_X1_formePieces : Cond.selects yX1_formePieces.cls yX1_formePieces yX1_formePieces ∈ lwG := lwm 463 (by decide +kernel) (by decide +kernel)
theorem cf_X6_slotOf : CF yX6_slotOf cX6_slotOf 2 (some .int) 2 := ⟨lwm 235 (by decide +kernel) (by decide +kernel), kz_6, by decide +kernel, by decide +kernel, by decide +kernel⟩
theorem st_X6_slotOf : Cond.static yX6_slotOf ∈ lwG := lwm 234 (by decide +kernel) (by decide +kernel)
theorem cf_X1_takenFrom : CF yX1_takenFrom cX1_takenFrom 4 (some .int) 2 := ⟨lwm 427 (by decide +kernel) (by decide +kernel), kz_1, by decide +kernel, by decide +kernel, by decide +kernel⟩
theorem im_X1_takenFrom : Cond.instanceMethod yX1_takenFrom ∈ lwG := lwm 425 (by decide +kernel) (by decide +kernel)
theorem sl_X1_takenFrom : Cond.selects yX1_takenFrom.cls yX1_takenFrom yX1_takenFrom ∈ lwG := lwm 426 (by decide +kernel) (by decide +kernel)
theorem cf_X1_borrowedPieces : CF yX1_borrowedPieces cX1_borrowedPieces 3 (some .int) 0 := ⟨lwm 460 (by decide +kernel) (by decide +kernel), kz_1, by decide +kernel, by decide +kernel, by decide +kernel⟩
theorem im_X1_borrowedPieces : Cond.instanceMethod yX1_borrowedPieces ∈ lwG := lwm 458 (by decide +kernel) (by decide +kernel)
theorem sl_X1_borrowedPieces : Cond.selects yX1_borrowedPieces.cls yX1_borrowedPieces yX1_borrowedPieces ∈ lwG := lwm 459 (by decide +kernel) (by decide +kernel)
theorem cf_X1_daysLate : CF yX1_daysLate cX1_daysLate 1 (some .int) 0 := ⟨lwm 476 (by decide +kernel) (by decide +kernel), kz_1, by decide +kernel, by decide +kernel, by decide +kernel⟩
theorem im_X1_daysLate : Cond.instanceMethod yX1_daysLate ∈ lwG := lwm 474 (by decide +kernel) (by decide +kernel)
theorem sl_X1_daysLate : Cond.selects yX1_daysLate.cls yX1_daysLate yX1_daysLate ∈ lwG := lwm 475 (by decide +kernel) (by decide +kernel)
theorem cf_X1_takenInAll : CF yX1_takenInAll cX1_takenInAll 4 (some .int) 1 := ⟨lwm 423 (by decide +kernel) (by decide +kernel), kz_1, by decide +kernel, by decide +kernel, by decide +kernel⟩
theorem im_X1_takenInAll : Cond.instanceMethod yX1_takenInAll ∈ lwG := lwm 421 (by decide +kernel) (by decide +kernel)
theorem sl_X1_takenInAll : Cond.selects yX1_takenInAll.cls yX1_takenInAll yX1_takenInAll ∈ lwG := lwm 422 (by decide +kernel) (by decide +kernel)
theorem cf_X6_widthOf : CF yX6_widthOf cX6_widthOf 1 (some .int) 1 := ⟨lwm 238 (by decide +kernel) (by decide +kernel), kz_6, by decide +kernel, by decide +kernel, by decide +kernel⟩
theorem st_X6_widthOf : Cond.static yX6_widthOf ∈ lwG := lwm 237 (by decide +kernel) (by decide +kernel)
theorem cf_X1_formeMetal : CF yX1_formeMetal cX1_formeMetal 3 (some .int) 0 := ⟨lwm 594 (by decide +kernel) (by decide +kernel), kz_1, by decide +kernel, by decide +kernel, by decide +kernel⟩
theorem im_X1_formeMetal : Cond.instanceMethod yX1_formeMetal ∈ lwG := lwm 592 (by decide +kernel) (by decide +kernel)
theorem sl_X1_formeMetal : Cond.selects yX1_formeMetal.cls yX1_formeMetal yX1_formeMetal ∈ lwG := lwm 593 (by decide +kernel) (by decide +kernel)
theorem cf_X1_hasForme : CF yX1_hasForme cX1_hasForme 1 (some .boolean) 0 := ⟨lwm 551 (by decide +kernel) (by decide +kernel), kz_1, by decide +kernel, by decide +kernel, by decide +kernel⟩
theorem im_X1_hasForme : Cond.instanceMethod yX1_hasForme ∈ lwG := lwm 549 (by decide +kernel) (by decide +kernel)
theorem sl_X1_hasForme : Cond.selects yX1_hasForme.cls yX1_hasForme yX1_hasForme ∈ lwG := lwm 550 (by decide +kernel) (by decide +kernel)
theorem cf_X1_init : CF yX1_init cX1_init 5 none 4 := ⟨lwm 378 (by decide +kernel) (by decide +kernel), kz_1, by decide +kernel, by decide +kernel, by decide +kernel⟩
theorem im_X1_init : Cond.instanceMethod yX1_init ∈ lwG := lwm 377 (by decide +kernel) (by decide +kernel)
theorem cf_X1_isOpen : CF yX1_isOpen cX1_isOpen 1 (some .boolean) 0 := ⟨lwm 494 (by decide +kernel) (by decide +kernel), kz_1, by decide +kernel, by decide +kernel, by decide +kernel⟩
theorem im_X1_isOpen : Cond.instanceMethod yX1_isOpen ∈ lwG := lwm 492 (by decide +kernel) (by decide +kernel)
theorem sl_X1_isOpen : Cond.selects yX1_isOpen.cls yX1_isOpen yX1_isOpen ∈ lwG := lwm 493 (by decide +kernel) (by decide +kernel)
theorem cf_X2_addGaps : CF yX2_addGaps cX2_addGaps 4 none 2 := ⟨lwm 312 (by decide +kernel) (by decide +kernel), kz_2, by decide +kernel, by decide +kernel, by decide +kernel⟩
theorem im_X2_addGaps : Cond.instanceMethod yX2_addGaps ∈ lwG := lwm 311 (by decide +kernel) (by decide +kernel)
theorem sl_X2_addGaps : Cond.selects yX2_addGaps.cls yX2_addGaps yX2_addGaps ∈ lwG := lwm 5 (by decide +kernel) (by decide +kernel)
theorem cf_X2_addLine : CF yX2_addLine cX2_addLine 7 none 3 := ⟨lwm 303 (by decide +kernel) (by decide +kernel), kz_2, by decide +kernel, by decide +kernel, by decide +kernel⟩
theorem im_X2_addLine : Cond.instanceMethod yX2_addLine ∈ lwG := lwm 302 (by decide +kernel) (by decide +kernel)
theorem sl_X2_addLine : Cond.selects yX2_addLine.cls yX2_addLine yX2_addLine ∈ lwG := lwm 4 (by decide +kernel) (by decide +kernel)
theorem cf_X2_firstGap : CF yX2_firstGap cX2_firstGap 2 (some .int) 1 := ⟨lwm 543 (by decide +kernel) (by decide +kernel), kz_2, by decide +kernel, by decide +kernel, by decide +kernel⟩
theorem im_X2_firstGap : Cond.instanceMethod yX2_firstGap ∈ lwG := lwm 541 (by decide +kernel) (by decide +kernel)
theorem sl_X2_firstGap : Cond.selects yX2_firstGap.cls yX2_firstGap yX2_firstGap ∈ lwG := lwm 542 (by decide +kernel) (by decide +kernel)
theorem cf_X2_gapWidth : CF yX2_gapWidth cX2_gapWidth 2 (some .int) 1 := ⟨lwm 436 (by decide +kernel) (by decide +kernel), kz_2, by decide +kernel, by decide +kernel, by decide +kernel⟩
theorem im_X2_gapWidth : Cond.instanceMethod yX2_gapWidth ∈ lwG := lwm 434 (by decide +kernel) (by decide +kernel)
theorem sl_X2_gapWidth : Cond.selects yX2_gapWidth.cls yX2_gapWidth yX2_gapWidth ∈ lwG := lwm 435 (by decide +kernel) (by decide +kernel)
theorem cf_X2_hasLine : CF yX2_hasLine cX2_hasLine 2 (some .boolean) 1 := ⟨lwm 539 (by decide +kernel) (by decide +kernel), kz_2, by decide +kernel, by decide +kernel, by decide +kernel⟩
theorem im_X2_hasLine : Cond.instanceMethod yX2_hasLine ∈ lwG := lwm 537 (by decide +kernel) (by decide +kernel)
theorem sl_X2_hasLine : Cond.selects yX2_hasLine.cls yX2_hasLine yX2_hasLine ∈ lwG := lwm 538 (by decide +kernel) (by decide +kernel)
theorem cf_X2_init : CF yX2_init cX2_init 6 none 2 := ⟨lwm 295 (by decide +kernel) (by decide +kernel), kz_2, by decide +kernel, by decide +kernel, by decide +kernel⟩
theorem im_X2_init : Cond.instanceMethod yX2_init ∈ lwG := lwm 294 (by decide +kernel) (by decide +kernel)
theorem cf_X2_lineStart : CF yX2_lineStart cX2_lineStart 2 (some .int) 1 := ⟨lwm 559 (by decide +kernel) (by decide +kernel), kz_2, by decide +kernel, by decide +kernel, by decide +kernel⟩
theorem im_X2_lineStart : Cond.instanceMethod yX2_lineStart ∈ lwG := lwm 557 (by decide +kernel) (by decide +kernel)
theorem sl_X2_lineStart : Cond.selects yX2_lineStart.cls yX2_lineStart yX2_lineStart ∈ lwG := lwm 558 (by decide +kernel) (by decide +kernel)
theorem cf_X2_signAt : CF yX2_signAt cX2_signAt 2 (some .char) 1 := ⟨lwm 563 (by decide +kernel) (by decide +kernel), kz_2, by decide +kernel, by decide +kernel, by decide +kernel⟩
theorem im_X2_signAt : Cond.instanceMethod yX2_signAt ∈ lwG := lwm 561 (by decide +kernel) (by decide +kernel)
theorem sl_X2_signAt : Cond.selects yX2_signAt.cls yX2_signAt yX2_signAt ∈ lwG := lwm 562 (by decide +kernel) (by decide +kernel)
theorem cf_X3_init : CF yX3_init cX3_init 5 none 4 := ⟨lwm 354 (by decide +kernel) (by decide +kernel), kz_3, by decide +kernel, by decide +kernel, by decide +kernel⟩
theorem im_X3_init : Cond.instanceMethod yX3_init ∈ lwG := lwm 353 (by decide +kernel) (by decide +kernel)
theorem cf_X4_begin : CF yX4_begin cX4_begin 3 none 2 := ⟨lwm 432 (by decide +kernel) (by decide +kernel), kz_4, by decide +kernel, by decide +kernel, by decide +kernel⟩
theorem im_X4_begin : Cond.instanceMethod yX4_begin ∈ lwG := lwm 430 (by decide +kernel) (by decide +kernel)
theorem sl_X4_begin : Cond.selects yX4_begin.cls yX4_begin yX4_begin ∈ lwG := lwm 431 (by decide +kernel) (by decide +kernel)
theorem cf_X4_digitAt : CF yX4_digitAt cX4_digitAt 2 (some .char) 1 := ⟨lwm 572 (by decide +kernel) (by decide +kernel), kz_4, by decide +kernel, by decide +kernel, by decide +kernel⟩
theorem im_X4_digitAt : Cond.instanceMethod yX4_digitAt ∈ lwG := lwm 570 (by decide +kernel) (by decide +kernel)
theorem sl_X4_digitAt : Cond.selects yX4_digitAt.cls yX4_digitAt yX4_digitAt ∈ lwG := lwm 571 (by decide +kernel) (by decide +kernel)
theorem cf_X4_fill : CF yX4_fill cX4_fill 3 none 1 := ⟨lwm 440 (by decide +kernel) (by decide +kernel), kz_4, by decide +kernel, by decide +kernel, by decide +kernel⟩
theorem im_X4_fill : Cond.instanceMethod yX4_fill ∈ lwG := lwm 438 (by decide +kernel) (by decide +kernel)
theorem sl_X4_fill : Cond.selects yX4_fill.cls yX4_fill yX4_fill ∈ lwG := lwm 439 (by decide +kernel) (by decide +kernel)
theorem cf_X4_init : CF yX4_init cX4_init 1 none 0 := ⟨lwm 132 (by decide +kernel) (by decide +kernel), kz_4, by decide +kernel, by decide +kernel, by decide +kernel⟩
theorem im_X4_init : Cond.instanceMethod yX4_init ∈ lwG := lwm 131 (by decide +kernel) (by decide +kernel)
theorem cf_X4_pieceCount : CF yX4_pieceCount cX4_pieceCount 1 (some .int) 0 := ⟨lwm 568 (by decide +kernel) (by decide +kernel), kz_4, by decide +kernel, by decide +kernel, by decide +kernel⟩
theorem im_X4_pieceCount : Cond.instanceMethod yX4_pieceCount ∈ lwG := lwm 566 (by decide +kernel) (by decide +kernel)
theorem sl_X4_pieceCount : Cond.selects yX4_pieceCount.cls yX4_pieceCount yX4_pieceCount ∈ lwG := lwm 567 (by decide +kernel) (by decide +kernel)
theorem cf_X5_findJob : CF yX5_findJob cX5_findJob 2 (some (.object "TypeWorkshop$Job")) 1 := ⟨lwm 410 (by decide +kernel) (by decide +kernel), kz_5, by decide +kernel, by decide +kernel, by decide +kernel⟩
theorem im_X5_findJob : Cond.instanceMethod yX5_findJob ∈ lwG := lwm 408 (by decide +kernel) (by decide +kernel)
theorem sl_X5_findJob : Cond.selects yX5_findJob.cls yX5_findJob yX5_findJob ∈ lwG := lwm 409 (by decide +kernel) (by decide +kernel)
theorem cf_X5_allDaysLate : CF yX5_allDaysLate cX5_allDaysLate 4 (some .int) 0 := ⟨lwm 600 (by decide +kernel) (by decide +kernel), kz_5, by decide +kernel, by decide +kernel, by decide +kernel⟩
theorem im_X5_allDaysLate : Cond.instanceMethod yX5_allDaysLate ∈ lwG := lwm 598 (by decide +kernel) (by decide +kernel)
theorem sl_X5_allDaysLate : Cond.selects yX5_allDaysLate.cls yX5_allDaysLate yX5_allDaysLate ∈ lwG := lwm 599 (by decide +kernel) (by decide +kernel)
theorem cf_X5_copyFrom : CF yX5_copyFrom cX5_copyFrom 3 none 1 := ⟨lwm 206 (by decide +kernel) (by decide +kernel), kz_5, by decide +kernel, by decide +kernel, by decide +kernel⟩
theorem im_X5_copyFrom : Cond.instanceMethod yX5_copyFrom ∈ lwG := lwm 204 (by decide +kernel) (by decide +kernel)
theorem sl_X5_copyFrom : Cond.selects yX5_copyFrom.cls yX5_copyFrom yX5_copyFrom ∈ lwG := lwm 205 (by decide +kernel) (by decide +kernel)
theorem cf_X5_emptyWornBox : CF yX5_emptyWornBox cX5_emptyWornBox 2 none 0 := ⟨lwm 267 (by decide +kernel) (by decide +kernel), kz_5, by decide +kernel, by decide +kernel, by decide +kernel⟩
theorem im_X5_emptyWornBox : Cond.instanceMethod yX5_emptyWornBox ∈ lwG := lwm 265 (by decide +kernel) (by decide +kernel)
theorem sl_X5_emptyWornBox : Cond.selects yX5_emptyWornBox.cls yX5_emptyWornBox yX5_emptyWornBox ∈ lwG := lwm 266 (by decide +kernel) (by decide +kernel)
theorem cf_X5_held : CF yX5_held cX5_held 4 (some .int) 2 := ⟨lwm 232 (by decide +kernel) (by decide +kernel), kz_5, by decide +kernel, by decide +kernel, by decide +kernel⟩
theorem im_X5_held : Cond.instanceMethod yX5_held ∈ lwG := lwm 230 (by decide +kernel) (by decide +kernel)
theorem sl_X5_held : Cond.selects yX5_held.cls yX5_held yX5_held ∈ lwG := lwm 231 (by decide +kernel) (by decide +kernel)
theorem cf_X5_heldInAll : CF yX5_heldInAll cX5_heldInAll 4 (some .int) 1 := ⟨lwm 418 (by decide +kernel) (by decide +kernel), kz_5, by decide +kernel, by decide +kernel, by decide +kernel⟩
theorem im_X5_heldInAll : Cond.instanceMethod yX5_heldInAll ∈ lwG := lwm 416 (by decide +kernel) (by decide +kernel)
theorem sl_X5_heldInAll : Cond.selects yX5_heldInAll.cls yX5_heldInAll yX5_heldInAll ∈ lwG := lwm 417 (by decide +kernel) (by decide +kernel)
theorem cf_X5_init : CF yX5_init cX5_init 1 none 0 := ⟨lwm 79 (by decide +kernel) (by decide +kernel), kz_5, by decide +kernel, by decide +kernel, by decide +kernel⟩
theorem im_X5_init : Cond.instanceMethod yX5_init ∈ lwG := lwm 78 (by decide +kernel) (by decide +kernel)
theorem cf_X5_metalInCases : CF yX5_metalInCases cX5_metalInCases 3 (some .int) 0 := ⟨lwm 584 (by decide +kernel) (by decide +kernel), kz_5, by decide +kernel, by decide +kernel, by decide +kernel⟩
theorem im_X5_metalInCases : Cond.instanceMethod yX5_metalInCases ∈ lwG := lwm 582 (by decide +kernel) (by decide +kernel)
theorem sl_X5_metalInCases : Cond.selects yX5_metalInCases.cls yX5_metalInCases yX5_metalInCases ∈ lwG := lwm 583 (by decide +kernel) (by decide +kernel)
theorem cf_X5_metalInFormes : CF yX5_metalInFormes cX5_metalInFormes 4 (some .int) 0 := ⟨lwm 589 (by decide +kernel) (by decide +kernel), kz_5, by decide +kernel, by decide +kernel, by decide +kernel⟩
theorem im_X5_metalInFormes : Cond.instanceMethod yX5_metalInFormes ∈ lwG := lwm 587 (by decide +kernel) (by decide +kernel)
theorem sl_X5_metalInFormes : Cond.selects yX5_metalInFormes.cls yX5_metalInFormes yX5_metalInFormes ∈ lwG := lwm 588 (by decide +kernel) (by decide +kernel)
theorem cf_X5_overdueJobs : CF yX5_overdueJobs cX5_overdueJobs 4 (some .int) 0 := ⟨lwm 605 (by decide +kernel) (by decide +kernel), kz_5, by decide +kernel, by decide +kernel, by decide +kernel⟩
theorem im_X5_overdueJobs : Cond.instanceMethod yX5_overdueJobs ∈ lwG := lwm 603 (by decide +kernel) (by decide +kernel)
theorem sl_X5_overdueJobs : Cond.selects yX5_overdueJobs.cls yX5_overdueJobs yX5_overdueJobs ∈ lwG := lwm 604 (by decide +kernel) (by decide +kernel)
theorem cf_X5_put : CF yX5_put cX5_put 5 none 3 := ⟨lwm 242 (by decide +kernel) (by decide +kernel), kz_5, by decide +kernel, by decide +kernel, by decide +kernel⟩
theorem im_X5_put : Cond.instanceMethod yX5_put ∈ lwG := lwm 240 (by decide +kernel) (by decide +kernel)
theorem sl_X5_put : Cond.selects yX5_put.cls yX5_put yX5_put ∈ lwG := lwm 241 (by decide +kernel) (by decide +kernel)
theorem cf_X5_putJob : CF yX5_putJob cX5_putJob 3 none 2 := ⟨lwm 402 (by decide +kernel) (by decide +kernel), kz_5, by decide +kernel, by decide +kernel, by decide +kernel⟩
theorem im_X5_putJob : Cond.instanceMethod yX5_putJob ∈ lwG := lwm 400 (by decide +kernel) (by decide +kernel)
theorem sl_X5_putJob : Cond.selects yX5_putJob.cls yX5_putJob yX5_putJob ∈ lwG := lwm 401 (by decide +kernel) (by decide +kernel)
theorem cf_X5_wornMetal : CF yX5_wornMetal cX5_wornMetal 3 (some .int) 0 := ⟨lwm 262 (by decide +kernel) (by decide +kernel), kz_5, by decide +kernel, by decide +kernel, by decide +kernel⟩
theorem im_X5_wornMetal : Cond.instanceMethod yX5_wornMetal ∈ lwG := lwm 260 (by decide +kernel) (by decide +kernel)
theorem sl_X5_wornMetal : Cond.selects yX5_wornMetal.cls yX5_wornMetal yX5_wornMetal ∈ lwG := lwm 261 (by decide +kernel) (by decide +kernel)
theorem cf_X5_wornPieces : CF yX5_wornPieces cX5_wornPieces 3 (some .int) 0 := ⟨lwm 258 (by decide +kernel) (by decide +kernel), kz_5, by decide +kernel, by decide +kernel, by decide +kernel⟩
theorem im_X5_wornPieces : Cond.instanceMethod yX5_wornPieces ∈ lwG := lwm 256 (by decide +kernel) (by decide +kernel)
theorem sl_X5_wornPieces : Cond.selects yX5_wornPieces.cls yX5_wornPieces yX5_wornPieces ∈ lwG := lwm 257 (by decide +kernel) (by decide +kernel)
theorem cf_X6_dropOldestState : CF yX6_dropOldestState cX6_dropOldestState 3 none 0 := ⟨lwm 202 (by decide +kernel) (by decide +kernel), kz_6, by decide +kernel, by decide +kernel, by decide +kernel⟩
theorem im_X6_dropOldestState : Cond.instanceMethod yX6_dropOldestState ∈ lwG := lwm 201 (by decide +kernel) (by decide +kernel)
theorem sl_X6_dropOldestState : Cond.selects yX6_dropOldestState.cls yX6_dropOldestState yX6_dropOldestState ∈ lwG := lwm 1 (by decide +kernel) (by decide +kernel)
theorem cf_X6_recordState : CF yX6_recordState cX6_recordState 1 none 0 := ⟨lwm 198 (by decide +kernel) (by decide +kernel), kz_6, by decide +kernel, by decide +kernel, by decide +kernel⟩
theorem im_X6_recordState : Cond.instanceMethod yX6_recordState ∈ lwG := lwm 197 (by decide +kernel) (by decide +kernel)
theorem sl_X6_recordState : Cond.selects yX6_recordState.cls yX6_recordState yX6_recordState ∈ lwG := lwm 0 (by decide +kernel) (by decide +kernel)
theorem cf_X6_addCase : CF yX6_addCase cX6_addCase 1 (some .int) 0 := ⟨lwm 213 (by decide +kernel) (by decide +kernel), kz_6, by decide +kernel, by decide +kernel, by decide +kernel⟩
theorem im_X6_addCase : Cond.instanceMethod yX6_addCase ∈ lwG := lwm 211 (by decide +kernel) (by decide +kernel)
theorem sl_X6_addCase : Cond.selects yX6_addCase.cls yX6_addCase yX6_addCase ∈ lwG := lwm 212 (by decide +kernel) (by decide +kernel)
theorem cf_X6_buy : CF yX6_buy cX6_buy 2 (some .int) 1 := ⟨lwm 193 (by decide +kernel) (by decide +kernel), kz_6, by decide +kernel, by decide +kernel, by decide +kernel⟩
theorem im_X6_buy : Cond.instanceMethod yX6_buy ∈ lwG := lwm 191 (by decide +kernel) (by decide +kernel)
theorem sl_X6_buy : Cond.selects yX6_buy.cls yX6_buy yX6_buy ∈ lwG := lwm 192 (by decide +kernel) (by decide +kernel)
theorem cf_X6_giveBack : CF yX6_giveBack cX6_giveBack 9 (some .int) 2 := ⟨lwm 485 (by decide +kernel) (by decide +kernel), kz_6, by decide +kernel, by decide +kernel, by decide +kernel⟩
theorem im_X6_giveBack : Cond.instanceMethod yX6_giveBack ∈ lwG := lwm 484 (by decide +kernel) (by decide +kernel)
theorem sl_X6_giveBack : Cond.selects yX6_giveBack.cls yX6_giveBack yX6_giveBack ∈ lwG := lwm 10 (by decide +kernel) (by decide +kernel)
theorem cf_X6_cancel : CF yX6_cancel cX6_cancel 4 (some .int) 1 := ⟨lwm 490 (by decide +kernel) (by decide +kernel), kz_6, by decide +kernel, by decide +kernel, by decide +kernel⟩
theorem im_X6_cancel : Cond.instanceMethod yX6_cancel ∈ lwG := lwm 488 (by decide +kernel) (by decide +kernel)
theorem sl_X6_cancel : Cond.selects yX6_cancel.cls yX6_cancel yX6_cancel ∈ lwG := lwm 489 (by decide +kernel) (by decide +kernel)
theorem cf_X6_isCase : CF yX6_isCase cX6_isCase 2 (some .boolean) 1 := ⟨lwm 221 (by decide +kernel) (by decide +kernel), kz_6, by decide +kernel, by decide +kernel, by decide +kernel⟩
theorem im_X6_isCase : Cond.instanceMethod yX6_isCase ∈ lwG := lwm 220 (by decide +kernel) (by decide +kernel)
theorem sl_X6_isCase : Cond.selects yX6_isCase.cls yX6_isCase yX6_isCase ∈ lwG := lwm 2 (by decide +kernel) (by decide +kernel)
theorem cf_X6_isSort : CF yX6_isSort cX6_isSort 1 (some .boolean) 1 := ⟨lwm 224 (by decide +kernel) (by decide +kernel), kz_6, by decide +kernel, by decide +kernel, by decide +kernel⟩
theorem st_X6_isSort : Cond.static yX6_isSort ∈ lwG := lwm 223 (by decide +kernel) (by decide +kernel)
theorem cf_X6_castWanted : CF yX6_castWanted cX6_castWanted 5 (some .int) 1 := ⟨lwm 228 (by decide +kernel) (by decide +kernel), kz_6, by decide +kernel, by decide +kernel, by decide +kernel⟩
theorem im_X6_castWanted : Cond.instanceMethod yX6_castWanted ∈ lwG := lwm 227 (by decide +kernel) (by decide +kernel)
theorem sl_X6_castWanted : Cond.selects yX6_castWanted.cls yX6_castWanted yX6_castWanted ∈ lwG := lwm 3 (by decide +kernel) (by decide +kernel)
theorem cf_X6_cast : CF yX6_cast cX6_cast 5 (some .int) 3 := ⟨lwm 217 (by decide +kernel) (by decide +kernel), kz_6, by decide +kernel, by decide +kernel, by decide +kernel⟩
theorem im_X6_cast : Cond.instanceMethod yX6_cast ∈ lwG := lwm 215 (by decide +kernel) (by decide +kernel)
theorem sl_X6_cast : Cond.selects yX6_cast.cls yX6_cast yX6_cast ∈ lwG := lwm 216 (by decide +kernel) (by decide +kernel)
theorem cf_X6_castFount : CF yX6_castFount cX6_castFount 4 (some .int) 2 := ⟨lwm 246 (by decide +kernel) (by decide +kernel), kz_6, by decide +kernel, by decide +kernel, by decide +kernel⟩
theorem im_X6_castFount : Cond.instanceMethod yX6_castFount ∈ lwG := lwm 244 (by decide +kernel) (by decide +kernel)
theorem sl_X6_castFount : Cond.selects yX6_castFount.cls yX6_castFount yX6_castFount ∈ lwG := lwm 245 (by decide +kernel) (by decide +kernel)
theorem cf_X6_reckon : CF yX6_reckon cX6_reckon 4 none 1 := ⟨lwm 414 (by decide +kernel) (by decide +kernel), kz_6, by decide +kernel, by decide +kernel, by decide +kernel⟩
theorem im_X6_reckon : Cond.instanceMethod yX6_reckon ∈ lwG := lwm 413 (by decide +kernel) (by decide +kernel)
theorem sl_X6_reckon : Cond.selects yX6_reckon.cls yX6_reckon yX6_reckon ∈ lwG := lwm 6 (by decide +kernel) (by decide +kernel)
theorem cf_X6_missingOf : CF yX6_missingOf cX6_missingOf 2 (some .int) 1 := ⟨lwm 445 (by decide +kernel) (by decide +kernel), kz_6, by decide +kernel, by decide +kernel, by decide +kernel⟩
theorem im_X6_missingOf : Cond.instanceMethod yX6_missingOf ∈ lwG := lwm 444 (by decide +kernel) (by decide +kernel)
theorem sl_X6_missingOf : Cond.selects yX6_missingOf.cls yX6_missingOf yX6_missingOf ∈ lwG := lwm 7 (by decide +kernel) (by decide +kernel)
theorem cf_X6_castMissing : CF yX6_castMissing cX6_castMissing 5 (some .int) 1 := ⟨lwm 468 (by decide +kernel) (by decide +kernel), kz_6, by decide +kernel, by decide +kernel, by decide +kernel⟩
theorem im_X6_castMissing : Cond.instanceMethod yX6_castMissing ∈ lwG := lwm 466 (by decide +kernel) (by decide +kernel)
theorem sl_X6_castMissing : Cond.selects yX6_castMissing.cls yX6_castMissing yX6_castMissing ∈ lwG := lwm 467 (by decide +kernel) (by decide +kernel)
theorem cf_X6_clearText : CF yX6_clearText cX6_clearText 2 (some .int) 0 := ⟨lwm 279 (by decide +kernel) (by decide +kernel), kz_6, by decide +kernel, by decide +kernel, by decide +kernel⟩
theorem im_X6_clearText : Cond.instanceMethod yX6_clearText ∈ lwG := lwm 277 (by decide +kernel) (by decide +kernel)
theorem sl_X6_clearText : Cond.selects yX6_clearText.cls yX6_clearText yX6_clearText ∈ lwG := lwm 278 (by decide +kernel) (by decide +kernel)
theorem cf_X6_count : CF yX6_count cX6_count 2 (some .int) 1 := ⟨lwm 580 (by decide +kernel) (by decide +kernel), kz_6, by decide +kernel, by decide +kernel, by decide +kernel⟩
theorem im_X6_count : Cond.instanceMethod yX6_count ∈ lwG := lwm 578 (by decide +kernel) (by decide +kernel)
theorem sl_X6_count : Cond.selects yX6_count.cls yX6_count yX6_count ∈ lwG := lwm 579 (by decide +kernel) (by decide +kernel)
theorem cf_X6_distribute : CF yX6_distribute cX6_distribute 4 (some .int) 1 := ⟨lwm 481 (by decide +kernel) (by decide +kernel), kz_6, by decide +kernel, by decide +kernel, by decide +kernel⟩
theorem im_X6_distribute : Cond.instanceMethod yX6_distribute ∈ lwG := lwm 479 (by decide +kernel) (by decide +kernel)
theorem sl_X6_distribute : Cond.selects yX6_distribute.cls yX6_distribute yX6_distribute ∈ lwG := lwm 480 (by decide +kernel) (by decide +kernel)
theorem cf_X6_findPiece : CF yX6_findPiece cX6_findPiece 9 (some .int) 3 := ⟨lwm 555 (by decide +kernel) (by decide +kernel), kz_6, by decide +kernel, by decide +kernel, by decide +kernel⟩
theorem im_X6_findPiece : Cond.instanceMethod yX6_findPiece ∈ lwG := lwm 554 (by decide +kernel) (by decide +kernel)
theorem sl_X6_findPiece : Cond.selects yX6_findPiece.cls yX6_findPiece yX6_findPiece ∈ lwG := lwm 11 (by decide +kernel) (by decide +kernel)
theorem cf_X6_gap : CF yX6_gap cX6_gap 7 (some .int) 3 := ⟨lwm 535 (by decide +kernel) (by decide +kernel), kz_6, by decide +kernel, by decide +kernel, by decide +kernel⟩
theorem im_X6_gap : Cond.instanceMethod yX6_gap ∈ lwG := lwm 533 (by decide +kernel) (by decide +kernel)
theorem sl_X6_gap : Cond.selects yX6_gap.cls yX6_gap yX6_gap ∈ lwG := lwm 534 (by decide +kernel) (by decide +kernel)
theorem cf_X6_init : CF yX6_init cX6_init 1 none 0 := ⟨lwm 54 (by decide +kernel) (by decide +kernel), kz_6, by decide +kernel, by decide +kernel, by decide +kernel⟩
theorem im_X6_init : Cond.instanceMethod yX6_init ∈ lwG := lwm 53 (by decide +kernel) (by decide +kernel)
theorem cf_X6_job : CF yX6_job cX6_job 4 (some .int) 2 := ⟨lwm 519 (by decide +kernel) (by decide +kernel), kz_6, by decide +kernel, by decide +kernel, by decide +kernel⟩
theorem im_X6_job : Cond.instanceMethod yX6_job ∈ lwG := lwm 517 (by decide +kernel) (by decide +kernel)
theorem sl_X6_job : Cond.selects yX6_job.cls yX6_job yX6_job ∈ lwG := lwm 518 (by decide +kernel) (by decide +kernel)
theorem cf_X6_keep : CF yX6_keep cX6_keep 1 (some .int) 0 := ⟨lwm 507 (by decide +kernel) (by decide +kernel), kz_6, by decide +kernel, by decide +kernel, by decide +kernel⟩
theorem im_X6_keep : Cond.instanceMethod yX6_keep ∈ lwG := lwm 505 (by decide +kernel) (by decide +kernel)
theorem sl_X6_keep : Cond.selects yX6_keep.cls yX6_keep yX6_keep ∈ lwG := lwm 506 (by decide +kernel) (by decide +kernel)
theorem cf_X6_melt : CF yX6_melt cX6_melt 4 (some .int) 3 := ⟨lwm 250 (by decide +kernel) (by decide +kernel), kz_6, by decide +kernel, by decide +kernel, by decide +kernel⟩
theorem im_X6_melt : Cond.instanceMethod yX6_melt ∈ lwG := lwm 248 (by decide +kernel) (by decide +kernel)
theorem sl_X6_melt : Cond.selects yX6_melt.cls yX6_melt yX6_melt ∈ lwG := lwm 249 (by decide +kernel) (by decide +kernel)
theorem cf_X6_meltBox : CF yX6_meltBox cX6_meltBox 4 (some .int) 0 := ⟨lwm 254 (by decide +kernel) (by decide +kernel), kz_6, by decide +kernel, by decide +kernel, by decide +kernel⟩
theorem im_X6_meltBox : Cond.instanceMethod yX6_meltBox ∈ lwG := lwm 252 (by decide +kernel) (by decide +kernel)
theorem sl_X6_meltBox : Cond.selects yX6_meltBox.cls yX6_meltBox yX6_meltBox ∈ lwG := lwm 253 (by decide +kernel) (by decide +kernel)
theorem cf_X6_missing : CF yX6_missing cX6_missing 4 (some .int) 2 := ⟨lwm 527 (by decide +kernel) (by decide +kernel), kz_6, by decide +kernel, by decide +kernel, by decide +kernel⟩
theorem im_X6_missing : Cond.instanceMethod yX6_missing ∈ lwG := lwm 525 (by decide +kernel) (by decide +kernel)
theorem sl_X6_missing : Cond.selects yX6_missing.cls yX6_missing yX6_missing ∈ lwG := lwm 526 (by decide +kernel) (by decide +kernel)
theorem cf_X6_need : CF yX6_need cX6_need 4 (some .int) 2 := ⟨lwm 523 (by decide +kernel) (by decide +kernel), kz_6, by decide +kernel, by decide +kernel, by decide +kernel⟩
theorem im_X6_need : Cond.instanceMethod yX6_need ∈ lwG := lwm 521 (by decide +kernel) (by decide +kernel)
theorem sl_X6_need : Cond.selects yX6_need.cls yX6_need yX6_need ∈ lwG := lwm 522 (by decide +kernel) (by decide +kernel)
theorem cf_X6_order : CF yX6_order cX6_order 7 (some .int) 3 := ⟨lwm 283 (by decide +kernel) (by decide +kernel), kz_6, by decide +kernel, by decide +kernel, by decide +kernel⟩
theorem im_X6_order : Cond.instanceMethod yX6_order ∈ lwG := lwm 281 (by decide +kernel) (by decide +kernel)
theorem sl_X6_order : Cond.selects yX6_order.cls yX6_order yX6_order ∈ lwG := lwm 282 (by decide +kernel) (by decide +kernel)
theorem cf_X6_pass : CF yX6_pass cX6_pass 2 (some .int) 1 := ⟨lwm 499 (by decide +kernel) (by decide +kernel), kz_6, by decide +kernel, by decide +kernel, by decide +kernel⟩
theorem im_X6_pass : Cond.instanceMethod yX6_pass ∈ lwG := lwm 497 (by decide +kernel) (by decide +kernel)
theorem sl_X6_pass : Cond.selects yX6_pass.cls yX6_pass yX6_pass ∈ lwG := lwm 498 (by decide +kernel) (by decide +kernel)
theorem cf_X6_pieceAt : CF yX6_pieceAt cX6_pieceAt 5 (some .int) 3 := ⟨lwm 547 (by decide +kernel) (by decide +kernel), kz_6, by decide +kernel, by decide +kernel, by decide +kernel⟩
theorem im_X6_pieceAt : Cond.instanceMethod yX6_pieceAt ∈ lwG := lwm 545 (by decide +kernel) (by decide +kernel)
theorem sl_X6_pieceAt : Cond.selects yX6_pieceAt.cls yX6_pieceAt yX6_pieceAt ∈ lwG := lwm 546 (by decide +kernel) (by decide +kernel)
theorem cf_X6_pieces : CF yX6_pieces cX6_pieces 3 (some .int) 2 := ⟨lwm 515 (by decide +kernel) (by decide +kernel), kz_6, by decide +kernel, by decide +kernel, by decide +kernel⟩
theorem im_X6_pieces : Cond.instanceMethod yX6_pieces ∈ lwG := lwm 513 (by decide +kernel) (by decide +kernel)
theorem sl_X6_pieces : Cond.selects yX6_pieces.cls yX6_pieces yX6_pieces ∈ lwG := lwm 514 (by decide +kernel) (by decide +kernel)
theorem cf_X6_print : CF yX6_print cX6_print 4 (some .int) 1 := ⟨lwm 472 (by decide +kernel) (by decide +kernel), kz_6, by decide +kernel, by decide +kernel, by decide +kernel⟩
theorem im_X6_print : Cond.instanceMethod yX6_print ∈ lwG := lwm 470 (by decide +kernel) (by decide +kernel)
theorem sl_X6_print : Cond.selects yX6_print.cls yX6_print yX6_print ∈ lwG := lwm 471 (by decide +kernel) (by decide +kernel)
theorem cf_X6_restore : CF yX6_restore cX6_restore 1 (some .int) 0 := ⟨lwm 511 (by decide +kernel) (by decide +kernel), kz_6, by decide +kernel, by decide +kernel, by decide +kernel⟩
theorem im_X6_restore : Cond.instanceMethod yX6_restore ∈ lwG := lwm 509 (by decide +kernel) (by decide +kernel)
theorem sl_X6_restore : Cond.selects yX6_restore.cls yX6_restore yX6_restore ∈ lwG := lwm 510 (by decide +kernel) (by decide +kernel)
theorem cf_X6_takePieces : CF yX6_takePieces cX6_takePieces 7 (some .int) 4 := ⟨lwm 454 (by decide +kernel) (by decide +kernel), kz_6, by decide +kernel, by decide +kernel, by decide +kernel⟩
theorem im_X6_takePieces : Cond.instanceMethod yX6_takePieces ∈ lwG := lwm 453 (by decide +kernel) (by decide +kernel)
theorem sl_X6_takePieces : Cond.selects yX6_takePieces.cls yX6_takePieces yX6_takePieces ∈ lwG := lwm 9 (by decide +kernel) (by decide +kernel)
theorem cf_X6_takeNeeded : CF yX6_takeNeeded cX6_takeNeeded 6 (some (.array .int)) 1 := ⟨lwm 450 (by decide +kernel) (by decide +kernel), kz_6, by decide +kernel, by decide +kernel, by decide +kernel⟩
theorem im_X6_takeNeeded : Cond.instanceMethod yX6_takeNeeded ∈ lwG := lwm 449 (by decide +kernel) (by decide +kernel)
theorem sl_X6_takeNeeded : Cond.selects yX6_takeNeeded.cls yX6_takeNeeded yX6_takeNeeded ∈ lwG := lwm 8 (by decide +kernel) (by decide +kernel)
theorem cf_X6_set : CF yX6_set cX6_set 4 (some .int) 1 := ⟨lwm 406 (by decide +kernel) (by decide +kernel), kz_6, by decide +kernel, by decide +kernel, by decide +kernel⟩
theorem im_X6_set : Cond.instanceMethod yX6_set ∈ lwG := lwm 404 (by decide +kernel) (by decide +kernel)
theorem sl_X6_set : Cond.selects yX6_set.cls yX6_set yX6_set ∈ lwG := lwm 405 (by decide +kernel) (by decide +kernel)
theorem cf_X6_taken : CF yX6_taken cX6_taken 5 (some .int) 3 := ⟨lwm 531 (by decide +kernel) (by decide +kernel), kz_6, by decide +kernel, by decide +kernel, by decide +kernel⟩
theorem im_X6_taken : Cond.instanceMethod yX6_taken ∈ lwG := lwm 529 (by decide +kernel) (by decide +kernel)
theorem sl_X6_taken : Cond.selects yX6_taken.cls yX6_taken yX6_taken ∈ lwG := lwm 530 (by decide +kernel) (by decide +kernel)
theorem cf_X6_type : CF yX6_type cX6_type 2 (some .int) 1 := ⟨lwm 271 (by decide +kernel) (by decide +kernel), kz_6, by decide +kernel, by decide +kernel, by decide +kernel⟩
theorem im_X6_type : Cond.instanceMethod yX6_type ∈ lwG := lwm 269 (by decide +kernel) (by decide +kernel)
theorem sl_X6_type : Cond.selects yX6_type.cls yX6_type yX6_type ∈ lwG := lwm 270 (by decide +kernel) (by decide +kernel)
theorem cf_X6_undo : CF yX6_undo cX6_undo 2 (some .int) 0 := ⟨lwm 503 (by decide +kernel) (by decide +kernel), kz_6, by decide +kernel, by decide +kernel, by decide +kernel⟩
theorem im_X6_undo : Cond.instanceMethod yX6_undo ∈ lwG := lwm 501 (by decide +kernel) (by decide +kernel)
theorem sl_X6_undo : Cond.selects yX6_undo.cls yX6_undo yX6_undo ∈ lwG := lwm 502 (by decide +kernel) (by decide +kernel)
theorem cf_X6_urgent : CF yX6_urgent cX6_urgent 5 (some .int) 0 := ⟨lwm 576 (by decide +kernel) (by decide +kernel), kz_6, by decide +kernel, by decide +kernel, by decide +kernel⟩
theorem im_X6_urgent : Cond.instanceMethod yX6_urgent ∈ lwG := lwm 574 (by decide +kernel) (by decide +kernel)
theorem sl_X6_urgent : Cond.selects yX6_urgent.cls yX6_urgent yX6_urgent ∈ lwG := lwm 575 (by decide +kernel) (by decide +kernel)
theorem cf_X7_record : CF yX7_record cX7_record 2 none 0 := ⟨lwm 691 (by decide +kernel) (by decide +kernel), kz_7, by decide +kernel, by decide +kernel, by decide +kernel⟩
theorem im_X7_record : Cond.instanceMethod yX7_record ∈ lwG := lwm 690 (by decide +kernel) (by decide +kernel)
theorem sl_X7_record : Cond.selects yX7_record.cls yX7_record yX7_record ∈ lwG := lwm 12 (by decide +kernel) (by decide +kernel)
theorem cf_X7_addCase : CF yX7_addCase cX7_addCase 1 (some .int) 0 := ⟨lwm 695 (by decide +kernel) (by decide +kernel), kz_7, by decide +kernel, by decide +kernel, by decide +kernel⟩
theorem im_X7_addCase : Cond.instanceMethod yX7_addCase ∈ lwG := lwm 693 (by decide +kernel) (by decide +kernel)
theorem sl_X7_addCase : Cond.selects yX7_addCase.cls yX7_addCase yX7_addCase ∈ lwG := lwm 694 (by decide +kernel) (by decide +kernel)
theorem cf_X7_lacks : CF yX7_lacks cX7_lacks 2 (some .int) 1 := ⟨lwm 807 (by decide +kernel) (by decide +kernel), kz_7, by decide +kernel, by decide +kernel, by decide +kernel⟩
theorem im_X7_lacks : Cond.instanceMethod yX7_lacks ∈ lwG := lwm 806 (by decide +kernel) (by decide +kernel)
theorem sl_X7_lacks : Cond.selects yX7_lacks.cls yX7_lacks yX7_lacks ∈ lwG := lwm 29 (by decide +kernel) (by decide +kernel)
theorem cf_X7_allLacks : CF yX7_allLacks cX7_allLacks 3 (some .int) 0 := ⟨lwm 803 (by decide +kernel) (by decide +kernel), kz_7, by decide +kernel, by decide +kernel, by decide +kernel⟩
theorem im_X7_allLacks : Cond.instanceMethod yX7_allLacks ∈ lwG := lwm 802 (by decide +kernel) (by decide +kernel)
theorem sl_X7_allLacks : Cond.selects yX7_allLacks.cls yX7_allLacks yX7_allLacks ∈ lwG := lwm 28 (by decide +kernel) (by decide +kernel)
theorem cf_X7_width : CF yX7_width cX7_width 1 (some .int) 1 := ⟨lwm 713 (by decide +kernel) (by decide +kernel), kz_7, by decide +kernel, by decide +kernel, by decide +kernel⟩
theorem st_X7_width : Cond.static yX7_width ∈ lwG := lwm 712 (by decide +kernel) (by decide +kernel)
theorem cf_X7_boxMetal : CF yX7_boxMetal cX7_boxMetal 3 (some .int) 0 := ⟨lwm 737 (by decide +kernel) (by decide +kernel), kz_7, by decide +kernel, by decide +kernel, by decide +kernel⟩
theorem im_X7_boxMetal : Cond.instanceMethod yX7_boxMetal ∈ lwG := lwm 736 (by decide +kernel) (by decide +kernel)
theorem sl_X7_boxMetal : Cond.selects yX7_boxMetal.cls yX7_boxMetal yX7_boxMetal ∈ lwG := lwm 17 (by decide +kernel) (by decide +kernel)
theorem cf_X7_in : CF yX7_in cX7_in 3 (some .boolean) 3 := ⟨lwm 686 (by decide +kernel) (by decide +kernel), kz_7, by decide +kernel, by decide +kernel, by decide +kernel⟩
theorem st_X7_in : Cond.static yX7_in ∈ lwG := lwm 685 (by decide +kernel) (by decide +kernel)
theorem cf_X7_buy : CF yX7_buy cX7_buy 2 (some .int) 1 := ⟨lwm 683 (by decide +kernel) (by decide +kernel), kz_7, by decide +kernel, by decide +kernel, by decide +kernel⟩
theorem im_X7_buy : Cond.instanceMethod yX7_buy ∈ lwG := lwm 681 (by decide +kernel) (by decide +kernel)
theorem sl_X7_buy : Cond.selects yX7_buy.cls yX7_buy yX7_buy ∈ lwG := lwm 682 (by decide +kernel) (by decide +kernel)
theorem cf_X7_noJob : CF yX7_noJob cX7_noJob 2 (some .boolean) 1 := ⟨lwm 776 (by decide +kernel) (by decide +kernel), kz_7, by decide +kernel, by decide +kernel, by decide +kernel⟩
theorem im_X7_noJob : Cond.instanceMethod yX7_noJob ∈ lwG := lwm 775 (by decide +kernel) (by decide +kernel)
theorem sl_X7_noJob : Cond.selects yX7_noJob.cls yX7_noJob yX7_noJob ∈ lwG := lwm 22 (by decide +kernel) (by decide +kernel)
theorem cf_X7_ofJob : CF yX7_ofJob cX7_ofJob 3 (some .int) 2 := ⟨lwm 780 (by decide +kernel) (by decide +kernel), kz_7, by decide +kernel, by decide +kernel, by decide +kernel⟩
theorem im_X7_ofJob : Cond.instanceMethod yX7_ofJob ∈ lwG := lwm 779 (by decide +kernel) (by decide +kernel)
theorem sl_X7_ofJob : Cond.selects yX7_ofJob.cls yX7_ofJob yX7_ofJob ∈ lwG := lwm 23 (by decide +kernel) (by decide +kernel)
theorem cf_X7_inForme : CF yX7_inForme cX7_inForme 4 (some .int) 3 := ⟨lwm 796 (by decide +kernel) (by decide +kernel), kz_7, by decide +kernel, by decide +kernel, by decide +kernel⟩
theorem im_X7_inForme : Cond.instanceMethod yX7_inForme ∈ lwG := lwm 795 (by decide +kernel) (by decide +kernel)
theorem sl_X7_inForme : Cond.selects yX7_inForme.cls yX7_inForme yX7_inForme ∈ lwG := lwm 27 (by decide +kernel) (by decide +kernel)
theorem cf_X7_inFormeOf : CF yX7_inFormeOf cX7_inFormeOf 6 (some .int) 2 := ⟨lwm 836 (by decide +kernel) (by decide +kernel), kz_7, by decide +kernel, by decide +kernel, by decide +kernel⟩
theorem im_X7_inFormeOf : Cond.instanceMethod yX7_inFormeOf ∈ lwG := lwm 835 (by decide +kernel) (by decide +kernel)
theorem sl_X7_inFormeOf : Cond.selects yX7_inFormeOf.cls yX7_inFormeOf yX7_inFormeOf ∈ lwG := lwm 32 (by decide +kernel) (by decide +kernel)
theorem cf_X7_put : CF yX7_put cX7_put 4 none 3 := ⟨lwm 768 (by decide +kernel) (by decide +kernel), kz_7, by decide +kernel, by decide +kernel, by decide +kernel⟩
theorem im_X7_put : Cond.instanceMethod yX7_put ∈ lwG := lwm 767 (by decide +kernel) (by decide +kernel)
theorem sl_X7_put : Cond.selects yX7_put.cls yX7_put yX7_put ∈ lwG := lwm 21 (by decide +kernel) (by decide +kernel)
theorem cf_X7_has : CF yX7_has cX7_has 3 (some .int) 2 := ⟨lwm 710 (by decide +kernel) (by decide +kernel), kz_7, by decide +kernel, by decide +kernel, by decide +kernel⟩
theorem im_X7_has : Cond.instanceMethod yX7_has ∈ lwG := lwm 709 (by decide +kernel) (by decide +kernel)
theorem sl_X7_has : Cond.selects yX7_has.cls yX7_has yX7_has ∈ lwG := lwm 14 (by decide +kernel) (by decide +kernel)
theorem cf_X7_least : CF yX7_least cX7_least 2 (some .int) 2 := ⟨lwm 799 (by decide +kernel) (by decide +kernel), kz_7, by decide +kernel, by decide +kernel, by decide +kernel⟩
theorem st_X7_least : Cond.static yX7_least ∈ lwG := lwm 798 (by decide +kernel) (by decide +kernel)
theorem cf_X7_goBack : CF yX7_goBack cX7_goBack 8 (some .int) 2 := ⟨lwm 828 (by decide +kernel) (by decide +kernel), kz_7, by decide +kernel, by decide +kernel, by decide +kernel⟩
theorem im_X7_goBack : Cond.instanceMethod yX7_goBack ∈ lwG := lwm 827 (by decide +kernel) (by decide +kernel)
theorem sl_X7_goBack : Cond.selects yX7_goBack.cls yX7_goBack yX7_goBack ∈ lwG := lwm 31 (by decide +kernel) (by decide +kernel)
theorem cf_X7_cancel : CF yX7_cancel cX7_cancel 3 (some .int) 1 := ⟨lwm 832 (by decide +kernel) (by decide +kernel), kz_7, by decide +kernel, by decide +kernel, by decide +kernel⟩
theorem im_X7_cancel : Cond.instanceMethod yX7_cancel ∈ lwG := lwm 830 (by decide +kernel) (by decide +kernel)
theorem sl_X7_cancel : Cond.selects yX7_cancel.cls yX7_cancel yX7_cancel ∈ lwG := lwm 831 (by decide +kernel) (by decide +kernel)
theorem cf_X7_caseMetal : CF yX7_caseMetal cX7_caseMetal 4 (some .int) 0 := ⟨lwm 903 (by decide +kernel) (by decide +kernel), kz_7, by decide +kernel, by decide +kernel, by decide +kernel⟩
theorem im_X7_caseMetal : Cond.instanceMethod yX7_caseMetal ∈ lwG := lwm 902 (by decide +kernel) (by decide +kernel)
theorem sl_X7_caseMetal : Cond.selects yX7_caseMetal.cls yX7_caseMetal yX7_caseMetal ∈ lwG := lwm 35 (by decide +kernel) (by decide +kernel)
theorem cf_X7_noCase : CF yX7_noCase cX7_noCase 2 (some .boolean) 1 := ⟨lwm 703 (by decide +kernel) (by decide +kernel), kz_7, by decide +kernel, by decide +kernel, by decide +kernel⟩
theorem im_X7_noCase : Cond.instanceMethod yX7_noCase ∈ lwG := lwm 702 (by decide +kernel) (by decide +kernel)
theorem sl_X7_noCase : Cond.selects yX7_noCase.cls yX7_noCase yX7_noCase ∈ lwG := lwm 13 (by decide +kernel) (by decide +kernel)
theorem cf_X7_noSort : CF yX7_noSort cX7_noSort 1 (some .boolean) 1 := ⟨lwm 706 (by decide +kernel) (by decide +kernel), kz_7, by decide +kernel, by decide +kernel, by decide +kernel⟩
theorem st_X7_noSort : Cond.static yX7_noSort ∈ lwG := lwm 705 (by decide +kernel) (by decide +kernel)
theorem cf_X7_casts : CF yX7_casts cX7_casts 4 none 3 := ⟨lwm 717 (by decide +kernel) (by decide +kernel), kz_7, by decide +kernel, by decide +kernel, by decide +kernel⟩
theorem im_X7_casts : Cond.instanceMethod yX7_casts ∈ lwG := lwm 716 (by decide +kernel) (by decide +kernel)
theorem sl_X7_casts : Cond.selects yX7_casts.cls yX7_casts yX7_casts ∈ lwG := lwm 15 (by decide +kernel) (by decide +kernel)
theorem cf_X7_cast : CF yX7_cast cX7_cast 4 (some .int) 3 := ⟨lwm 699 (by decide +kernel) (by decide +kernel), kz_7, by decide +kernel, by decide +kernel, by decide +kernel⟩
theorem im_X7_cast : Cond.instanceMethod yX7_cast ∈ lwG := lwm 697 (by decide +kernel) (by decide +kernel)
theorem sl_X7_cast : Cond.selects yX7_cast.cls yX7_cast yX7_cast ∈ lwG := lwm 698 (by decide +kernel) (by decide +kernel)
theorem cf_X7_castFount : CF yX7_castFount cX7_castFount 7 (some .int) 2 := ⟨lwm 721 (by decide +kernel) (by decide +kernel), kz_7, by decide +kernel, by decide +kernel, by decide +kernel⟩
theorem im_X7_castFount : Cond.instanceMethod yX7_castFount ∈ lwG := lwm 719 (by decide +kernel) (by decide +kernel)
theorem sl_X7_castFount : Cond.selects yX7_castFount.cls yX7_castFount yX7_castFount ∈ lwG := lwm 720 (by decide +kernel) (by decide +kernel)
theorem cf_X7_isLetter : CF yX7_isLetter cX7_isLetter 1 (some .boolean) 1 := ⟨lwm 756 (by decide +kernel) (by decide +kernel), kz_7, by decide +kernel, by decide +kernel, by decide +kernel⟩
theorem st_X7_isLetter : Cond.static yX7_isLetter ∈ lwG := lwm 755 (by decide +kernel) (by decide +kernel)
theorem cf_X7_layLine : CF yX7_layLine cX7_layLine 8 none 3 := ⟨lwm 764 (by decide +kernel) (by decide +kernel), kz_7, by decide +kernel, by decide +kernel, by decide +kernel⟩
theorem im_X7_layLine : Cond.instanceMethod yX7_layLine ∈ lwG := lwm 763 (by decide +kernel) (by decide +kernel)
theorem sl_X7_layLine : Cond.selects yX7_layLine.cls yX7_layLine yX7_layLine ∈ lwG := lwm 20 (by decide +kernel) (by decide +kernel)
theorem cf_X7_layLines : CF yX7_layLines cX7_layLines 4 none 1 := ⟨lwm 760 (by decide +kernel) (by decide +kernel), kz_7, by decide +kernel, by decide +kernel, by decide +kernel⟩
theorem im_X7_layLines : Cond.instanceMethod yX7_layLines ∈ lwG := lwm 759 (by decide +kernel) (by decide +kernel)
theorem sl_X7_layLines : Cond.selects yX7_layLines.cls yX7_layLines yX7_layLines ∈ lwG := lwm 19 (by decide +kernel) (by decide +kernel)
theorem cf_X7_layJob : CF yX7_layJob cX7_layJob 3 none 1 := ⟨lwm 788 (by decide +kernel) (by decide +kernel), kz_7, by decide +kernel, by decide +kernel, by decide +kernel⟩
theorem im_X7_layJob : Cond.instanceMethod yX7_layJob ∈ lwG := lwm 787 (by decide +kernel) (by decide +kernel)
theorem sl_X7_layJob : Cond.selects yX7_layJob.cls yX7_layJob yX7_layJob ∈ lwG := lwm 25 (by decide +kernel) (by decide +kernel)
theorem cf_X7_hasForme : CF yX7_hasForme cX7_hasForme 2 (some .boolean) 1 := ⟨lwm 792 (by decide +kernel) (by decide +kernel), kz_7, by decide +kernel, by decide +kernel, by decide +kernel⟩
theorem im_X7_hasForme : Cond.instanceMethod yX7_hasForme ∈ lwG := lwm 791 (by decide +kernel) (by decide +kernel)
theorem sl_X7_hasForme : Cond.selects yX7_hasForme.cls yX7_hasForme yX7_hasForme ∈ lwG := lwm 26 (by decide +kernel) (by decide +kernel)
theorem cf_X7_layNeeds : CF yX7_layNeeds cX7_layNeeds 4 none 1 := ⟨lwm 784 (by decide +kernel) (by decide +kernel), kz_7, by decide +kernel, by decide +kernel, by decide +kernel⟩
theorem im_X7_layNeeds : Cond.instanceMethod yX7_layNeeds ∈ lwG := lwm 783 (by decide +kernel) (by decide +kernel)
theorem sl_X7_layNeeds : Cond.selects yX7_layNeeds.cls yX7_layNeeds yX7_layNeeds ∈ lwG := lwm 24 (by decide +kernel) (by decide +kernel)
theorem cf_X7_castMissing : CF yX7_castMissing cX7_castMissing 7 (some .int) 1 := ⟨lwm 816 (by decide +kernel) (by decide +kernel), kz_7, by decide +kernel, by decide +kernel, by decide +kernel⟩
theorem im_X7_castMissing : Cond.instanceMethod yX7_castMissing ∈ lwG := lwm 814 (by decide +kernel) (by decide +kernel)
theorem sl_X7_castMissing : Cond.selects yX7_castMissing.cls yX7_castMissing yX7_castMissing ∈ lwG := lwm 815 (by decide +kernel) (by decide +kernel)
theorem cf_X7_clearText : CF yX7_clearText cX7_clearText 2 (some .int) 0 := ⟨lwm 745 (by decide +kernel) (by decide +kernel), kz_7, by decide +kernel, by decide +kernel, by decide +kernel⟩
theorem im_X7_clearText : Cond.instanceMethod yX7_clearText ∈ lwG := lwm 743 (by decide +kernel) (by decide +kernel)
theorem sl_X7_clearText : Cond.selects yX7_clearText.cls yX7_clearText yX7_clearText ∈ lwG := lwm 744 (by decide +kernel) (by decide +kernel)
theorem cf_X7_formeMetal : CF yX7_formeMetal cX7_formeMetal 5 (some .int) 0 := ⟨lwm 907 (by decide +kernel) (by decide +kernel), kz_7, by decide +kernel, by decide +kernel, by decide +kernel⟩
theorem im_X7_formeMetal : Cond.instanceMethod yX7_formeMetal ∈ lwG := lwm 906 (by decide +kernel) (by decide +kernel)
theorem sl_X7_formeMetal : Cond.selects yX7_formeMetal.cls yX7_formeMetal yX7_formeMetal ∈ lwG := lwm 36 (by decide +kernel) (by decide +kernel)
theorem cf_X7_inBox : CF yX7_inBox cX7_inBox 3 (some .int) 0 := ⟨lwm 733 (by decide +kernel) (by decide +kernel), kz_7, by decide +kernel, by decide +kernel, by decide +kernel⟩
theorem im_X7_inBox : Cond.instanceMethod yX7_inBox ∈ lwG := lwm 732 (by decide +kernel) (by decide +kernel)
theorem sl_X7_inBox : Cond.selects yX7_inBox.cls yX7_inBox yX7_inBox ∈ lwG := lwm 16 (by decide +kernel) (by decide +kernel)
theorem cf_X7_lateDays : CF yX7_lateDays cX7_lateDays 3 (some .int) 0 := ⟨lwm 911 (by decide +kernel) (by decide +kernel), kz_7, by decide +kernel, by decide +kernel, by decide +kernel⟩
theorem im_X7_lateDays : Cond.instanceMethod yX7_lateDays ∈ lwG := lwm 910 (by decide +kernel) (by decide +kernel)
theorem sl_X7_lateDays : Cond.selects yX7_lateDays.cls yX7_lateDays yX7_lateDays ∈ lwG := lwm 37 (by decide +kernel) (by decide +kernel)
theorem cf_X7_isToDo : CF yX7_isToDo cX7_isToDo 2 (some .boolean) 1 := ⟨lwm 895 (by decide +kernel) (by decide +kernel), kz_7, by decide +kernel, by decide +kernel, by decide +kernel⟩
theorem im_X7_isToDo : Cond.instanceMethod yX7_isToDo ∈ lwG := lwm 894 (by decide +kernel) (by decide +kernel)
theorem sl_X7_isToDo : Cond.selects yX7_isToDo.cls yX7_isToDo yX7_isToDo ∈ lwG := lwm 34 (by decide +kernel) (by decide +kernel)
theorem cf_X7_pastDue : CF yX7_pastDue cX7_pastDue 3 (some .int) 0 := ⟨lwm 915 (by decide +kernel) (by decide +kernel), kz_7, by decide +kernel, by decide +kernel, by decide +kernel⟩
theorem im_X7_pastDue : Cond.instanceMethod yX7_pastDue ∈ lwG := lwm 914 (by decide +kernel) (by decide +kernel)
theorem sl_X7_pastDue : Cond.selects yX7_pastDue.cls yX7_pastDue yX7_pastDue ∈ lwG := lwm 38 (by decide +kernel) (by decide +kernel)
theorem cf_X7_count : CF yX7_count cX7_count 2 (some .int) 1 := ⟨lwm 899 (by decide +kernel) (by decide +kernel), kz_7, by decide +kernel, by decide +kernel, by decide +kernel⟩
theorem im_X7_count : Cond.instanceMethod yX7_count ∈ lwG := lwm 897 (by decide +kernel) (by decide +kernel)
theorem sl_X7_count : Cond.selects yX7_count.cls yX7_count yX7_count ∈ lwG := lwm 898 (by decide +kernel) (by decide +kernel)
theorem cf_X7_distribute : CF yX7_distribute cX7_distribute 2 (some .int) 1 := ⟨lwm 824 (by decide +kernel) (by decide +kernel), kz_7, by decide +kernel, by decide +kernel, by decide +kernel⟩
theorem im_X7_distribute : Cond.instanceMethod yX7_distribute ∈ lwG := lwm 822 (by decide +kernel) (by decide +kernel)
theorem sl_X7_distribute : Cond.selects yX7_distribute.cls yX7_distribute yX7_distribute ∈ lwG := lwm 823 (by decide +kernel) (by decide +kernel)
theorem cf_X7_faultOf : CF yX7_faultOf cX7_faultOf 3 (some .int) 0 := ⟨lwm 753 (by decide +kernel) (by decide +kernel), kz_7, by decide +kernel, by decide +kernel, by decide +kernel⟩
theorem im_X7_faultOf : Cond.instanceMethod yX7_faultOf ∈ lwG := lwm 752 (by decide +kernel) (by decide +kernel)
theorem sl_X7_faultOf : Cond.selects yX7_faultOf.cls yX7_faultOf yX7_faultOf ∈ lwG := lwm 18 (by decide +kernel) (by decide +kernel)
theorem cf_X7_gap : CF yX7_gap cX7_gap 4 (some .int) 3 := ⟨lwm 876 (by decide +kernel) (by decide +kernel), kz_7, by decide +kernel, by decide +kernel, by decide +kernel⟩
theorem im_X7_gap : Cond.instanceMethod yX7_gap ∈ lwG := lwm 874 (by decide +kernel) (by decide +kernel)
theorem sl_X7_gap : Cond.selects yX7_gap.cls yX7_gap yX7_gap ∈ lwG := lwm 875 (by decide +kernel) (by decide +kernel)
theorem cf_X7_init : CF yX7_init cX7_init 1 none 0 := ⟨lwm 611 (by decide +kernel) (by decide +kernel), kz_7, by decide +kernel, by decide +kernel, by decide +kernel⟩
theorem im_X7_init : Cond.instanceMethod yX7_init ∈ lwG := lwm 610 (by decide +kernel) (by decide +kernel)
theorem cf_X7_job : CF yX7_job cX7_job 3 (some .int) 2 := ⟨lwm 860 (by decide +kernel) (by decide +kernel), kz_7, by decide +kernel, by decide +kernel, by decide +kernel⟩
theorem im_X7_job : Cond.instanceMethod yX7_job ∈ lwG := lwm 858 (by decide +kernel) (by decide +kernel)
theorem sl_X7_job : Cond.selects yX7_job.cls yX7_job yX7_job ∈ lwG := lwm 859 (by decide +kernel) (by decide +kernel)
theorem cf_X7_keep : CF yX7_keep cX7_keep 2 (some .int) 0 := ⟨lwm 848 (by decide +kernel) (by decide +kernel), kz_7, by decide +kernel, by decide +kernel, by decide +kernel⟩
theorem im_X7_keep : Cond.instanceMethod yX7_keep ∈ lwG := lwm 846 (by decide +kernel) (by decide +kernel)
theorem sl_X7_keep : Cond.selects yX7_keep.cls yX7_keep yX7_keep ∈ lwG := lwm 847 (by decide +kernel) (by decide +kernel)
theorem cf_X7_melt : CF yX7_melt cX7_melt 4 (some .int) 3 := ⟨lwm 725 (by decide +kernel) (by decide +kernel), kz_7, by decide +kernel, by decide +kernel, by decide +kernel⟩
theorem im_X7_melt : Cond.instanceMethod yX7_melt ∈ lwG := lwm 723 (by decide +kernel) (by decide +kernel)
theorem sl_X7_melt : Cond.selects yX7_melt.cls yX7_melt yX7_melt ∈ lwG := lwm 724 (by decide +kernel) (by decide +kernel)
theorem cf_X7_meltBox : CF yX7_meltBox cX7_meltBox 5 (some .int) 0 := ⟨lwm 729 (by decide +kernel) (by decide +kernel), kz_7, by decide +kernel, by decide +kernel, by decide +kernel⟩
theorem im_X7_meltBox : Cond.instanceMethod yX7_meltBox ∈ lwG := lwm 727 (by decide +kernel) (by decide +kernel)
theorem sl_X7_meltBox : Cond.selects yX7_meltBox.cls yX7_meltBox yX7_meltBox ∈ lwG := lwm 728 (by decide +kernel) (by decide +kernel)
theorem cf_X7_missing : CF yX7_missing cX7_missing 3 (some .int) 2 := ⟨lwm 868 (by decide +kernel) (by decide +kernel), kz_7, by decide +kernel, by decide +kernel, by decide +kernel⟩
theorem im_X7_missing : Cond.instanceMethod yX7_missing ∈ lwG := lwm 866 (by decide +kernel) (by decide +kernel)
theorem sl_X7_missing : Cond.selects yX7_missing.cls yX7_missing yX7_missing ∈ lwG := lwm 867 (by decide +kernel) (by decide +kernel)
theorem cf_X7_need : CF yX7_need cX7_need 3 (some .int) 2 := ⟨lwm 864 (by decide +kernel) (by decide +kernel), kz_7, by decide +kernel, by decide +kernel, by decide +kernel⟩
theorem im_X7_need : Cond.instanceMethod yX7_need ∈ lwG := lwm 862 (by decide +kernel) (by decide +kernel)
theorem sl_X7_need : Cond.selects yX7_need.cls yX7_need yX7_need ∈ lwG := lwm 863 (by decide +kernel) (by decide +kernel)
theorem cf_X7_order : CF yX7_order cX7_order 7 (some .int) 3 := ⟨lwm 749 (by decide +kernel) (by decide +kernel), kz_7, by decide +kernel, by decide +kernel, by decide +kernel⟩
theorem im_X7_order : Cond.instanceMethod yX7_order ∈ lwG := lwm 747 (by decide +kernel) (by decide +kernel)
theorem sl_X7_order : Cond.selects yX7_order.cls yX7_order yX7_order ∈ lwG := lwm 748 (by decide +kernel) (by decide +kernel)
theorem cf_X7_pass : CF yX7_pass cX7_pass 2 (some .int) 1 := ⟨lwm 840 (by decide +kernel) (by decide +kernel), kz_7, by decide +kernel, by decide +kernel, by decide +kernel⟩
theorem im_X7_pass : Cond.instanceMethod yX7_pass ∈ lwG := lwm 838 (by decide +kernel) (by decide +kernel)
theorem sl_X7_pass : Cond.selects yX7_pass.cls yX7_pass yX7_pass ∈ lwG := lwm 839 (by decide +kernel) (by decide +kernel)
theorem cf_X7_spaces : CF yX7_spaces cX7_spaces 1 (some .int) 1 := ⟨lwm 883 (by decide +kernel) (by decide +kernel), kz_7, by decide +kernel, by decide +kernel, by decide +kernel⟩
theorem st_X7_spaces : Cond.static yX7_spaces ∈ lwG := lwm 882 (by decide +kernel) (by decide +kernel)
theorem cf_X7_spaceAt : CF yX7_spaceAt cX7_spaceAt 6 (some .int) 2 := ⟨lwm 887 (by decide +kernel) (by decide +kernel), kz_7, by decide +kernel, by decide +kernel, by decide +kernel⟩
theorem im_X7_spaceAt : Cond.instanceMethod yX7_spaceAt ∈ lwG := lwm 886 (by decide +kernel) (by decide +kernel)
theorem sl_X7_spaceAt : Cond.selects yX7_spaceAt.cls yX7_spaceAt yX7_spaceAt ∈ lwG := lwm 33 (by decide +kernel) (by decide +kernel)
theorem cf_X7_pieceAt : CF yX7_pieceAt cX7_pieceAt 8 (some .int) 3 := ⟨lwm 880 (by decide +kernel) (by decide +kernel), kz_7, by decide +kernel, by decide +kernel, by decide +kernel⟩
theorem im_X7_pieceAt : Cond.instanceMethod yX7_pieceAt ∈ lwG := lwm 878 (by decide +kernel) (by decide +kernel)
theorem sl_X7_pieceAt : Cond.selects yX7_pieceAt.cls yX7_pieceAt yX7_pieceAt ∈ lwG := lwm 879 (by decide +kernel) (by decide +kernel)
theorem cf_X7_pieces : CF yX7_pieces cX7_pieces 3 (some .int) 2 := ⟨lwm 856 (by decide +kernel) (by decide +kernel), kz_7, by decide +kernel, by decide +kernel, by decide +kernel⟩
theorem im_X7_pieces : Cond.instanceMethod yX7_pieces ∈ lwG := lwm 854 (by decide +kernel) (by decide +kernel)
theorem sl_X7_pieces : Cond.selects yX7_pieces.cls yX7_pieces yX7_pieces ∈ lwG := lwm 855 (by decide +kernel) (by decide +kernel)
theorem cf_X7_print : CF yX7_print cX7_print 3 (some .int) 1 := ⟨lwm 820 (by decide +kernel) (by decide +kernel), kz_7, by decide +kernel, by decide +kernel, by decide +kernel⟩
theorem im_X7_print : Cond.instanceMethod yX7_print ∈ lwG := lwm 818 (by decide +kernel) (by decide +kernel)
theorem sl_X7_print : Cond.selects yX7_print.cls yX7_print yX7_print ∈ lwG := lwm 819 (by decide +kernel) (by decide +kernel)
theorem cf_X7_restore : CF yX7_restore cX7_restore 2 (some .int) 0 := ⟨lwm 852 (by decide +kernel) (by decide +kernel), kz_7, by decide +kernel, by decide +kernel, by decide +kernel⟩
theorem im_X7_restore : Cond.instanceMethod yX7_restore ∈ lwG := lwm 850 (by decide +kernel) (by decide +kernel)
theorem sl_X7_restore : Cond.selects yX7_restore.cls yX7_restore yX7_restore ∈ lwG := lwm 851 (by decide +kernel) (by decide +kernel)
theorem cf_X7_takes : CF yX7_takes cX7_takes 9 (some .int) 2 := ⟨lwm 811 (by decide +kernel) (by decide +kernel), kz_7, by decide +kernel, by decide +kernel, by decide +kernel⟩
theorem im_X7_takes : Cond.instanceMethod yX7_takes ∈ lwG := lwm 810 (by decide +kernel) (by decide +kernel)
theorem sl_X7_takes : Cond.selects yX7_takes.cls yX7_takes yX7_takes ∈ lwG := lwm 30 (by decide +kernel) (by decide +kernel)
theorem cf_X7_set : CF yX7_set cX7_set 4 (some .int) 1 := ⟨lwm 772 (by decide +kernel) (by decide +kernel), kz_7, by decide +kernel, by decide +kernel, by decide +kernel⟩
theorem im_X7_set : Cond.instanceMethod yX7_set ∈ lwG := lwm 770 (by decide +kernel) (by decide +kernel)
theorem sl_X7_set : Cond.selects yX7_set.cls yX7_set yX7_set ∈ lwG := lwm 771 (by decide +kernel) (by decide +kernel)
theorem cf_X7_taken : CF yX7_taken cX7_taken 4 (some .int) 3 := ⟨lwm 872 (by decide +kernel) (by decide +kernel), kz_7, by decide +kernel, by decide +kernel, by decide +kernel⟩
theorem im_X7_taken : Cond.instanceMethod yX7_taken ∈ lwG := lwm 870 (by decide +kernel) (by decide +kernel)
theorem sl_X7_taken : Cond.selects yX7_taken.cls yX7_taken yX7_taken ∈ lwG := lwm 871 (by decide +kernel) (by decide +kernel)
theorem cf_X7_type : CF yX7_type cX7_type 2 (some .int) 1 := ⟨lwm 741 (by decide +kernel) (by decide +kernel), kz_7, by decide +kernel, by decide +kernel, by decide +kernel⟩
theorem im_X7_type : Cond.instanceMethod yX7_type ∈ lwG := lwm 739 (by decide +kernel) (by decide +kernel)
theorem sl_X7_type : Cond.selects yX7_type.cls yX7_type yX7_type ∈ lwG := lwm 740 (by decide +kernel) (by decide +kernel)
theorem cf_X7_undo : CF yX7_undo cX7_undo 2 (some .int) 0 := ⟨lwm 844 (by decide +kernel) (by decide +kernel), kz_7, by decide +kernel, by decide +kernel, by decide +kernel⟩
theorem im_X7_undo : Cond.instanceMethod yX7_undo ∈ lwG := lwm 842 (by decide +kernel) (by decide +kernel)
theorem sl_X7_undo : Cond.selects yX7_undo.cls yX7_undo yX7_undo ∈ lwG := lwm 843 (by decide +kernel) (by decide +kernel)
theorem cf_X7_urgent : CF yX7_urgent cX7_urgent 3 (some .int) 0 := ⟨lwm 891 (by decide +kernel) (by decide +kernel), kz_7, by decide +kernel, by decide +kernel, by decide +kernel⟩
theorem im_X7_urgent : Cond.instanceMethod yX7_urgent ∈ lwG := lwm 889 (by decide +kernel) (by decide +kernel)
theorem sl_X7_urgent : Cond.selects yX7_urgent.cls yX7_urgent yX7_urgent ∈ lwG := lwm 890 (by decide +kernel) (by decide +kernel)
end
section
theorem dX0_append_0 : decode cX0_append 0 = .ok (.aload_n 0, 1) := by decide +kernel
theorem dX0_append_1 : decode cX0_append 1 = .ok (.getfield 15, 3) := by decide +kernel
theorem dX0_append_4 : decode cX0_append 4 = .ok (.ifCond .lt 15, 3) := by decide +kernel
theorem dX0_append_7 : decode cX0_append 7 = .ok (.aload_n 0, 1) := by decide +kernel
theorem dX0_append_8 : decode cX0_append 8 = .ok (.getfield 15, 3) := by decide +kernel
theorem dX0_append_11 : decode cX0_append 11 = .ok (.aload_n 0, 1) := by decide +kernel
theorem dX0_append_12 : decode cX0_append 12 = .ok (.getfield 9, 3) := by decide +kernel
theorem dX0_append_15 : decode cX0_append 15 = .ok (.arraylength, 1) := by decide +kernel
theorem dX0_append_16 : decode cX0_append 16 = .ok (.if_icmp .lt 5, 3) := by decide +kernel
theorem dX0_append_19 : decode cX0_append 19 = .ok (.iconst 0, 1) := by decide +kernel
theorem dX0_append_20 : decode cX0_append 20 = .ok (.ireturn, 1) := by decide +kernel
theorem dX0_append_21 : decode cX0_append 21 = .ok (.aload_n 0, 1) := by decide +kernel
theorem dX0_append_22 : decode cX0_append 22 = .ok (.getfield 9, 3) := by decide +kernel
theorem dX0_append_25 : decode cX0_append 25 = .ok (.aload_n 0, 1) := by decide +kernel
theorem dX0_append_26 : decode cX0_append 26 = .ok (.getfield 15, 3) := by decide +kernel
theorem dX0_append_29 : decode cX0_append 29 = .ok (.iload_n 1, 1) := by decide +kernel
theorem dX0_append_30 : decode cX0_append 30 = .ok (.castore, 1) := by decide +kernel
theorem dX0_append_31 : decode cX0_append 31 = .ok (.aload_n 0, 1) := by decide +kernel
theorem dX0_append_32 : decode cX0_append 32 = .ok (.dup, 1) := by decide +kernel
theorem dX0_append_33 : decode cX0_append 33 = .ok (.getfield 15, 3) := by decide +kernel
theorem dX0_append_36 : decode cX0_append 36 = .ok (.iconst 1, 1) := by decide +kernel
theorem dX0_append_37 : decode cX0_append 37 = .ok (.iadd, 1) := by decide +kernel
theorem dX0_append_38 : decode cX0_append 38 = .ok (.putfield 15, 3) := by decide +kernel
theorem dX0_append_41 : decode cX0_append 41 = .ok (.iconst 1, 1) := by decide +kernel
theorem dX0_append_42 : decode cX0_append 42 = .ok (.ireturn, 1) := by decide +kernel
def rm_X0_append : Room := { frames := 0, cells := 0, slots := 0, locals := 0 }
set_option maxRecDepth 100000 in
set_option maxHeartbeats 4000000 in
theorem ok_X0_append_19 {E : Ev} {X : Xt} {l0 : Launch} {K : Int32 → Hp → Prop} (hC : Cx E X l0 RX0 cX0_append 2 rm_X0_append) (hQ : CQ E X "append" (some .boolean) rm_X0_append (KI K)) (h : Hp) (hV : V_X0_append_19 K  h) : WW E X h 0 0 19 [none, none] [] := by
  unfold V_X0_append_19 at hV
  refine r_iconst (v := 0) hC dX0_append_19 (by decide) ?_
  exact r_zret hC hQ dX0_append_20 (Nat.le_of_ble_eq_true rfl) (Nat.le_of_ble_eq_true rfl) hV.1 ⟨_, rfl, hV.2⟩
set_option maxRecDepth 100000 in
set_option maxHeartbeats 4000000 in
theorem ok_X0_append_0 {E : Ev} {X : Xt} {l0 : Launch} {K : Int32 → Hp → Prop} (hC : Cx E X l0 RX0 cX0_append 2 rm_X0_append) (hQ : CQ E X "append" (some .boolean) rm_X0_append (KI K)) (a0 : Nat) (a1 : Int32) (h : Hp) (hV : V_X0_append a0 a1 h K) : WW E X h 0 0 0 [some (rv a0), some (.int a1)] [] := by
  unfold V_X0_append at hV
  refine r_aload_n hC dX0_append_0 rfl ?_
  obtain ⟨k9, hV⟩ := hV
  refine r_getI hC dX0_append_1 fl_0_15 rf_0_1 lq_0 k9 ?_
  refine r_if_lt (tgt := 19) hC dX0_append_4 (by decide) (fun k9 => ?_) (fun k9 => ?_)
  · replace hV := hV.1 k9
    refine r_sub (lo1 := [none, none]) ⟨Or.inl rfl, ⟨Or.inl rfl, trivial⟩⟩ ?_
    exact ok_X0_append_19 hC hQ  h hV
  · replace hV := hV.2 k9
    refine r_aload_n hC dX0_append_7 rfl ?_
    obtain ⟨k9, hV⟩ := hV
    refine r_getI hC dX0_append_8 fl_0_15 rf_0_1 lq_0 k9 ?_
    refine r_aload_n hC dX0_append_11 rfl ?_
    obtain ⟨k9, hV⟩ := hV
    refine r_getR hC dX0_append_12 fl_0_9 rf_0_0 lq_0 k9 ?_
    obtain ⟨k9, hV⟩ := hV
    refine r_alen (kd := 21) hC dX0_append_15 (by decide) k9 ?_
    refine r_icmp_lt (tgt := 21) hC dX0_append_16 (by decide) (fun k9 => ?_) (fun k9 => ?_)
    · replace hV := hV.1 k9
      refine r_aload_n hC dX0_append_21 rfl ?_
      obtain ⟨k9, hV⟩ := hV
      refine r_getR hC dX0_append_22 fl_0_9 rf_0_0 lq_0 k9 ?_
      refine r_aload_n hC dX0_append_25 rfl ?_
      obtain ⟨k9, hV⟩ := hV
      refine r_getI hC dX0_append_26 fl_0_15 rf_0_1 lq_0 k9 ?_
      refine r_iload_n hC dX0_append_29 rfl ?_
      obtain ⟨k9, k8, hV⟩ := hV
      refine r_cast (kd := 21) hC dX0_append_30 (by decide) rfl k9 k8 (nmH (fun h1 k9 => ?_))
      replace hV := hV h1 k9
      refine r_aload_n hC dX0_append_31 rfl ?_
      refine r_dup hC dX0_append_32 (rv_cat _) ?_
      obtain ⟨k9, hV⟩ := hV
      refine r_getI hC dX0_append_33 fl_0_15 rf_0_1 lq_0 k9 ?_
      refine r_iconst (v := 1) hC dX0_append_36 (by decide) ?_
      refine r_iadd hC dX0_append_37 ?_
      obtain ⟨k9, hV⟩ := hV
      refine r_putI hC dX0_append_38 fl_0_15 ft_0 rfl rf_0_1 ty_0_1 lq_0 k9 (nmH (fun h2 k9 => ?_))
      replace hV := hV h2 k9
      refine r_iconst (v := 1) hC dX0_append_41 (by decide) ?_
      exact r_zret hC hQ dX0_append_42 (Nat.le_of_ble_eq_true rfl) (Nat.le_of_ble_eq_true rfl) hV.1 ⟨_, rfl, hV.2⟩
    · replace hV := hV.2 k9
      refine r_sub (lo1 := [none, none]) ⟨Or.inl rfl, ⟨Or.inl rfl, trivial⟩⟩ ?_
      exact ok_X0_append_19 hC hQ  h hV
set_option maxRecDepth 100000 in
set_option maxHeartbeats 4000000 in
theorem con_X0_append {E : Ev} {l0 : Launch} (a0 : Nat) (a1 : Int32) (h : Hp) (K : Int32 → Hp → Prop) (hV : V_X0_append a0 a1 h K) : Con E l0 yX0_append cX0_append 2 (some .boolean) rm_X0_append [rv a0, .int a1] h (KI K) := by
  refine Con.of (by decide +kernel) (cat_R (cat_I cat_nil)) (Nat.le_of_ble_eq_true rfl) (fun X hC hQ => ?_)
  refine r_sub (lo1 := [some (rv a0), some (.int a1)]) (show lsub [some (rv a0), some (.int a1)] _ from ⟨Or.inr rfl, ⟨Or.inr rfl, trivial⟩⟩) ?_
  exact ok_X0_append_0 hC hQ a0 a1 h hV
theorem dX6_isLetter_0 : decode cX6_isLetter 0 = .ok (.iload_n 0, 1) := by decide +kernel
theorem dX6_isLetter_1 : decode cX6_isLetter 1 = .ok (.bipush 97, 2) := by decide +kernel
theorem dX6_isLetter_3 : decode cX6_isLetter 3 = .ok (.if_icmp .lt 13, 3) := by decide +kernel
theorem dX6_isLetter_6 : decode cX6_isLetter 6 = .ok (.iload_n 0, 1) := by decide +kernel
theorem dX6_isLetter_7 : decode cX6_isLetter 7 = .ok (.bipush 122, 2) := by decide +kernel
theorem dX6_isLetter_9 : decode cX6_isLetter 9 = .ok (.if_icmp .gt 7, 3) := by decide +kernel
theorem dX6_isLetter_12 : decode cX6_isLetter 12 = .ok (.iconst 1, 1) := by decide +kernel
theorem dX6_isLetter_13 : decode cX6_isLetter 13 = .ok (.goto 4, 3) := by decide +kernel
theorem dX6_isLetter_16 : decode cX6_isLetter 16 = .ok (.iconst 0, 1) := by decide +kernel
theorem dX6_isLetter_17 : decode cX6_isLetter 17 = .ok (.ireturn, 1) := by decide +kernel
def rm_X6_isLetter : Room := { frames := 0, cells := 0, slots := 0, locals := 0 }
set_option maxRecDepth 100000 in
set_option maxHeartbeats 4000000 in
theorem ok_X6_isLetter_17 {E : Ev} {X : Xt} {l0 : Launch} {K : Int32 → Hp → Prop} (hC : Cx E X l0 RX6 cX6_isLetter 1 rm_X6_isLetter) (hQ : CQ E X "isLetter" (some .boolean) rm_X6_isLetter (KI K)) (s0 : Int32) (h : Hp) (hV : V_X6_isLetter_17 K s0 h) : WW E X h 0 0 17 [none] [.int s0] := by
  unfold V_X6_isLetter_17 at hV
  exact r_zret hC hQ dX6_isLetter_17 (Nat.le_of_ble_eq_true rfl) (Nat.le_of_ble_eq_true rfl) hV.1 ⟨_, rfl, hV.2⟩
set_option maxRecDepth 100000 in
set_option maxHeartbeats 4000000 in
theorem ok_X6_isLetter_16 {E : Ev} {X : Xt} {l0 : Launch} {K : Int32 → Hp → Prop} (hC : Cx E X l0 RX6 cX6_isLetter 1 rm_X6_isLetter) (hQ : CQ E X "isLetter" (some .boolean) rm_X6_isLetter (KI K)) (h : Hp) (hV : V_X6_isLetter_16 K  h) : WW E X h 0 0 16 [none] [] := by
  unfold V_X6_isLetter_16 at hV
  refine r_iconst (v := 0) hC dX6_isLetter_16 (by decide) ?_
  exact ok_X6_isLetter_17 hC hQ 0 h hV
set_option maxRecDepth 100000 in
set_option maxHeartbeats 4000000 in
theorem ok_X6_isLetter_0 {E : Ev} {X : Xt} {l0 : Launch} {K : Int32 → Hp → Prop} (hC : Cx E X l0 RX6 cX6_isLetter 1 rm_X6_isLetter) (hQ : CQ E X "isLetter" (some .boolean) rm_X6_isLetter (KI K)) (a0 : Int32) (h : Hp) (hV : V_X6_isLetter a0 h K) : WW E X h 0 0 0 [some (.int a0)] [] := by
  unfold V_X6_isLetter at hV
  refine r_iload_n hC dX6_isLetter_0 rfl ?_
  refine r_bipush (v := 97) hC dX6_isLetter_1 (by decide) ?_
  refine r_icmp_lt (tgt := 16) hC dX6_isLetter_3 (by decide) (fun k9 => ?_) (fun k9 => ?_)
  · replace hV := hV.1 k9
    refine r_sub (lo1 := [none]) ⟨Or.inl rfl, trivial⟩ ?_
    exact ok_X6_isLetter_16 hC hQ  h hV
  · replace hV := hV.2 k9
    refine r_iload_n hC dX6_isLetter_6 rfl ?_
    refine r_bipush (v := 122) hC dX6_isLetter_7 (by decide) ?_
    refine r_icmp_gt (tgt := 16) hC dX6_isLetter_9 (by decide) (fun k9 => ?_) (fun k9 => ?_)
    · replace hV := hV.1 k9
      refine r_sub (lo1 := [none]) ⟨Or.inl rfl, trivial⟩ ?_
      exact ok_X6_isLetter_16 hC hQ  h hV
    · replace hV := hV.2 k9
      refine r_iconst (v := 1) hC dX6_isLetter_12 (by decide) ?_
      refine r_goto (tgt := 17) hC dX6_isLetter_13 (by decide) ?_
      refine r_sub (lo1 := [none]) ⟨Or.inl rfl, trivial⟩ ?_
      exact ok_X6_isLetter_17 hC hQ 1 h hV
set_option maxRecDepth 100000 in
set_option maxHeartbeats 4000000 in
theorem con_X6_isLetter {E : Ev} {l0 : Launch} (a0 : Int32) (h : Hp) (K : Int32 → Hp → Prop) (hV : V_X6_isLetter a0 h K) : Con E l0 yX6_isLetter cX6_isLetter 1 (some .boolean) rm_X6_isLetter [.int a0] h (KI K) := by
  refine Con.of (by decide +kernel) (cat_I cat_nil) (Nat.le_of_ble_eq_true rfl) (fun X hC hQ => ?_)
  refine r_sub (lo1 := [some (.int a0)]) (show lsub [some (.int a0)] _ from ⟨Or.inr rfl, trivial⟩) ?_
  exact ok_X6_isLetter_0 hC hQ a0 h hV
theorem dX0_findFault_0 : decode cX0_findFault 0 = .ok (.iconst 1, 1) := by decide +kernel
theorem dX0_findFault_1 : decode cX0_findFault 1 = .ok (.istore_n 1, 1) := by decide +kernel
theorem dX0_findFault_2 : decode cX0_findFault 2 = .ok (.iconst 0, 1) := by decide +kernel
theorem dX0_findFault_3 : decode cX0_findFault 3 = .ok (.istore_n 2, 1) := by decide +kernel
theorem dX0_findFault_4 : decode cX0_findFault 4 = .ok (.iload_n 2, 1) := by decide +kernel
theorem dX0_findFault_5 : decode cX0_findFault 5 = .ok (.aload_n 0, 1) := by decide +kernel
theorem dX0_findFault_6 : decode cX0_findFault 6 = .ok (.getfield 15, 3) := by decide +kernel
theorem dX0_findFault_9 : decode cX0_findFault 9 = .ok (.if_icmp .ge 82, 3) := by decide +kernel
theorem dX0_findFault_12 : decode cX0_findFault 12 = .ok (.iload_n 2, 1) := by decide +kernel
theorem dX0_findFault_13 : decode cX0_findFault 13 = .ok (.aload_n 0, 1) := by decide +kernel
theorem dX0_findFault_14 : decode cX0_findFault 14 = .ok (.getfield 9, 3) := by decide +kernel
theorem dX0_findFault_17 : decode cX0_findFault 17 = .ok (.arraylength, 1) := by decide +kernel
theorem dX0_findFault_18 : decode cX0_findFault 18 = .ok (.if_icmp .ge 73, 3) := by decide +kernel
theorem dX0_findFault_21 : decode cX0_findFault 21 = .ok (.aload_n 0, 1) := by decide +kernel
theorem dX0_findFault_22 : decode cX0_findFault 22 = .ok (.getfield 9, 3) := by decide +kernel
theorem dX0_findFault_25 : decode cX0_findFault 25 = .ok (.iload_n 2, 1) := by decide +kernel
theorem dX0_findFault_26 : decode cX0_findFault 26 = .ok (.caload, 1) := by decide +kernel
theorem dX0_findFault_27 : decode cX0_findFault 27 = .ok (.invokestatic 19, 3) := by decide +kernel
theorem dX0_findFault_30 : decode cX0_findFault 30 = .ok (.istore_n 3, 1) := by decide +kernel
theorem dX0_findFault_31 : decode cX0_findFault 31 = .ok (.aload_n 0, 1) := by decide +kernel
theorem dX0_findFault_32 : decode cX0_findFault 32 = .ok (.getfield 9, 3) := by decide +kernel
theorem dX0_findFault_35 : decode cX0_findFault 35 = .ok (.iload_n 2, 1) := by decide +kernel
theorem dX0_findFault_36 : decode cX0_findFault 36 = .ok (.caload, 1) := by decide +kernel
theorem dX0_findFault_37 : decode cX0_findFault 37 = .ok (.bipush 32, 2) := by decide +kernel
theorem dX0_findFault_39 : decode cX0_findFault 39 = .ok (.if_icmp .eq 14, 3) := by decide +kernel
theorem dX0_findFault_42 : decode cX0_findFault 42 = .ok (.aload_n 0, 1) := by decide +kernel
theorem dX0_findFault_43 : decode cX0_findFault 43 = .ok (.getfield 9, 3) := by decide +kernel
theorem dX0_findFault_46 : decode cX0_findFault 46 = .ok (.iload_n 2, 1) := by decide +kernel
theorem dX0_findFault_47 : decode cX0_findFault 47 = .ok (.caload, 1) := by decide +kernel
theorem dX0_findFault_48 : decode cX0_findFault 48 = .ok (.bipush 47, 2) := by decide +kernel
theorem dX0_findFault_50 : decode cX0_findFault 50 = .ok (.if_icmp .ne 7, 3) := by decide +kernel
theorem dX0_findFault_53 : decode cX0_findFault 53 = .ok (.iconst 1, 1) := by decide +kernel
theorem dX0_findFault_54 : decode cX0_findFault 54 = .ok (.goto 4, 3) := by decide +kernel
theorem dX0_findFault_57 : decode cX0_findFault 57 = .ok (.iconst 0, 1) := by decide +kernel
theorem dX0_findFault_58 : decode cX0_findFault 58 = .ok (.istore 4, 2) := by decide +kernel
theorem dX0_findFault_60 : decode cX0_findFault 60 = .ok (.iload_n 3, 1) := by decide +kernel
theorem dX0_findFault_61 : decode cX0_findFault 61 = .ok (.ifCond .ne 14, 3) := by decide +kernel
theorem dX0_findFault_64 : decode cX0_findFault 64 = .ok (.iload_n 1, 1) := by decide +kernel
theorem dX0_findFault_65 : decode cX0_findFault 65 = .ok (.ifCond .ne 8, 3) := by decide +kernel
theorem dX0_findFault_68 : decode cX0_findFault 68 = .ok (.iload 4, 2) := by decide +kernel
theorem dX0_findFault_70 : decode cX0_findFault 70 = .ok (.ifCond .ne 5, 3) := by decide +kernel
theorem dX0_findFault_73 : decode cX0_findFault 73 = .ok (.iload_n 2, 1) := by decide +kernel
theorem dX0_findFault_74 : decode cX0_findFault 74 = .ok (.ireturn, 1) := by decide +kernel
theorem dX0_findFault_75 : decode cX0_findFault 75 = .ok (.iload_n 3, 1) := by decide +kernel
theorem dX0_findFault_76 : decode cX0_findFault 76 = .ok (.ifCond .ne 7, 3) := by decide +kernel
theorem dX0_findFault_79 : decode cX0_findFault 79 = .ok (.iconst 1, 1) := by decide +kernel
theorem dX0_findFault_80 : decode cX0_findFault 80 = .ok (.goto 4, 3) := by decide +kernel
theorem dX0_findFault_83 : decode cX0_findFault 83 = .ok (.iconst 0, 1) := by decide +kernel
theorem dX0_findFault_84 : decode cX0_findFault 84 = .ok (.istore_n 1, 1) := by decide +kernel
theorem dX0_findFault_85 : decode cX0_findFault 85 = .ok (.iinc 2 1, 3) := by decide +kernel
theorem dX0_findFault_88 : decode cX0_findFault 88 = .ok (.goto (-84), 3) := by decide +kernel
theorem dX0_findFault_91 : decode cX0_findFault 91 = .ok (.iload_n 1, 1) := by decide +kernel
theorem dX0_findFault_92 : decode cX0_findFault 92 = .ok (.ifCond .eq 10, 3) := by decide +kernel
theorem dX0_findFault_95 : decode cX0_findFault 95 = .ok (.aload_n 0, 1) := by decide +kernel
theorem dX0_findFault_96 : decode cX0_findFault 96 = .ok (.getfield 15, 3) := by decide +kernel
theorem dX0_findFault_99 : decode cX0_findFault 99 = .ok (.goto 4, 3) := by decide +kernel
theorem dX0_findFault_102 : decode cX0_findFault 102 = .ok (.iconst (-1), 1) := by decide +kernel
theorem dX0_findFault_103 : decode cX0_findFault 103 = .ok (.ireturn, 1) := by decide +kernel
def rm_X0_findFault : Room := { frames := 1, cells := 0, slots := 0, locals := 20 }
set_option maxRecDepth 100000 in
set_option maxHeartbeats 4000000 in
theorem ok_X0_findFault_73 {E : Ev} {X : Xt} {l0 : Launch} {K : Int32 → Hp → Prop} (hC : Cx E X l0 RX0 cX0_findFault 5 rm_X0_findFault) (hQ : CQ E X "findFault" (some .int) rm_X0_findFault (KI K)) (a2 : Int32) (h : Hp) (hV : V_X0_findFault_73 K a2 h) : WW E X h 0 0 73 [none, none, some (.int a2), none, none] [] := by
  unfold V_X0_findFault_73 at hV
  refine r_iload_n hC dX0_findFault_73 rfl ?_
  exact r_iret hC hQ dX0_findFault_74 (Nat.le_of_ble_eq_true rfl) (Nat.le_of_ble_eq_true rfl) ⟨_, rfl, hV⟩
set_option maxRecDepth 100000 in
set_option maxHeartbeats 4000000 in
theorem ok_X0_findFault_84 {E : Ev} {X : Xt} {l0 : Launch} {K : Int32 → Hp → Prop} {C4 : Nat → Int32 → Int32 → Hp → Prop} (hC : Cx E X l0 RX0 cX0_findFault 5 rm_X0_findFault) (hQ : CQ E X "findFault" (some .int) rm_X0_findFault (KI K)) (hC4 : ∀ (a0 : Nat) (a1 : Int32) (a2 : Int32) (h : Hp), C4 a0 a1 a2 h → WW E X h 0 0 4 [some (rv a0), some (.int a1), some (.int a2), none, none] []) (a0 : Nat) (a2 : Int32) (s0 : Int32) (h : Hp) (hV : V_X0_findFault_84 K C4 a0 a2 s0 h) : WW E X h 0 0 84 [some (rv a0), none, some (.int a2), none, none] [.int s0] := by
  unfold V_X0_findFault_84 at hV
  refine r_istore_n (lo1 := [some (rv a0), some (.int s0), some (.int a2), none, none]) hC dX0_findFault_84 (Nat.le_of_ble_eq_true rfl) rfl ?_
  refine r_iinc (v := 1) (lo1 := [some (rv a0), some (.int s0), some (.int (a2 + 1)), none, none]) hC dX0_findFault_85 rfl (by decide) rfl ?_
  refine r_goto (tgt := 4) hC dX0_findFault_88 (by decide) ?_
  exact hC4 a0 s0 (a2 + 1) h hV
set_option maxRecDepth 100000 in
set_option maxHeartbeats 4000000 in
theorem ok_X0_findFault_75 {E : Ev} {X : Xt} {l0 : Launch} {K : Int32 → Hp → Prop} {C4 : Nat → Int32 → Int32 → Hp → Prop} (hC : Cx E X l0 RX0 cX0_findFault 5 rm_X0_findFault) (hQ : CQ E X "findFault" (some .int) rm_X0_findFault (KI K)) (hC4 : ∀ (a0 : Nat) (a1 : Int32) (a2 : Int32) (h : Hp), C4 a0 a1 a2 h → WW E X h 0 0 4 [some (rv a0), some (.int a1), some (.int a2), none, none] []) (a0 : Nat) (a2 : Int32) (a3 : Int32) (h : Hp) (hV : V_X0_findFault_75 K C4 a0 a2 a3 h) : WW E X h 0 0 75 [some (rv a0), none, some (.int a2), some (.int a3), none] [] := by
  unfold V_X0_findFault_75 at hV
  refine r_iload_n hC dX0_findFault_75 rfl ?_
  refine r_if_ne (tgt := 83) hC dX0_findFault_76 (by decide) (fun k9 => ?_) (fun k9 => ?_)
  · replace hV := hV.1 k9
    refine r_iconst (v := 0) hC dX0_findFault_83 (by decide) ?_
    refine r_sub (lo1 := [some (rv a0), none, some (.int a2), none, none]) ⟨Or.inr rfl, ⟨Or.inl rfl, ⟨Or.inr rfl, ⟨Or.inl rfl, ⟨Or.inl rfl, trivial⟩⟩⟩⟩⟩ ?_
    exact ok_X0_findFault_84 hC hQ hC4 a0 a2 0 h hV
  · replace hV := hV.2 k9
    refine r_iconst (v := 1) hC dX0_findFault_79 (by decide) ?_
    refine r_goto (tgt := 84) hC dX0_findFault_80 (by decide) ?_
    refine r_sub (lo1 := [some (rv a0), none, some (.int a2), none, none]) ⟨Or.inr rfl, ⟨Or.inl rfl, ⟨Or.inr rfl, ⟨Or.inl rfl, ⟨Or.inl rfl, trivial⟩⟩⟩⟩⟩ ?_
    exact ok_X0_findFault_84 hC hQ hC4 a0 a2 1 h hV
set_option maxRecDepth 100000 in
set_option maxHeartbeats 4000000 in
theorem ok_X0_findFault_58 {E : Ev} {X : Xt} {l0 : Launch} {K : Int32 → Hp → Prop} {C4 : Nat → Int32 → Int32 → Hp → Prop} (hC : Cx E X l0 RX0 cX0_findFault 5 rm_X0_findFault) (hQ : CQ E X "findFault" (some .int) rm_X0_findFault (KI K)) (hC4 : ∀ (a0 : Nat) (a1 : Int32) (a2 : Int32) (h : Hp), C4 a0 a1 a2 h → WW E X h 0 0 4 [some (rv a0), some (.int a1), some (.int a2), none, none] []) (a0 : Nat) (a1 : Int32) (a2 : Int32) (a3 : Int32) (s0 : Int32) (h : Hp) (hV : V_X0_findFault_58 K C4 a0 a1 a2 a3 s0 h) : WW E X h 0 0 58 [some (rv a0), some (.int a1), some (.int a2), some (.int a3), none] [.int s0] := by
  unfold V_X0_findFault_58 at hV
  refine r_istore (lo1 := [some (rv a0), some (.int a1), some (.int a2), some (.int a3), some (.int s0)]) hC dX0_findFault_58 (Nat.le_of_ble_eq_true rfl) rfl ?_
  refine r_iload_n hC dX0_findFault_60 rfl ?_
  refine r_if_ne (tgt := 75) hC dX0_findFault_61 (by decide) (fun k9 => ?_) (fun k9 => ?_)
  · replace hV := hV.1 k9
    refine r_sub (lo1 := [some (rv a0), none, some (.int a2), some (.int a3), none]) ⟨Or.inr rfl, ⟨Or.inl rfl, ⟨Or.inr rfl, ⟨Or.inr rfl, ⟨Or.inl rfl, trivial⟩⟩⟩⟩⟩ ?_
    exact ok_X0_findFault_75 hC hQ hC4 a0 a2 a3 h hV
  · replace hV := hV.2 k9
    refine r_iload_n hC dX0_findFault_64 rfl ?_
    refine r_if_ne (tgt := 73) hC dX0_findFault_65 (by decide) (fun k9 => ?_) (fun k9 => ?_)
    · replace hV := hV.1 k9
      refine r_sub (lo1 := [none, none, some (.int a2), none, none]) ⟨Or.inl rfl, ⟨Or.inl rfl, ⟨Or.inr rfl, ⟨Or.inl rfl, ⟨Or.inl rfl, trivial⟩⟩⟩⟩⟩ ?_
      exact ok_X0_findFault_73 hC hQ a2 h hV
    · replace hV := hV.2 k9
      refine r_iload hC dX0_findFault_68 rfl ?_
      refine r_if_ne (tgt := 75) hC dX0_findFault_70 (by decide) (fun k9 => ?_) (fun k9 => ?_)
      · replace hV := hV.1 k9
        refine r_sub (lo1 := [some (rv a0), none, some (.int a2), some (.int a3), none]) ⟨Or.inr rfl, ⟨Or.inl rfl, ⟨Or.inr rfl, ⟨Or.inr rfl, ⟨Or.inl rfl, trivial⟩⟩⟩⟩⟩ ?_
        exact ok_X0_findFault_75 hC hQ hC4 a0 a2 a3 h hV
      · replace hV := hV.2 k9
        refine r_sub (lo1 := [none, none, some (.int a2), none, none]) ⟨Or.inl rfl, ⟨Or.inl rfl, ⟨Or.inr rfl, ⟨Or.inl rfl, ⟨Or.inl rfl, trivial⟩⟩⟩⟩⟩ ?_
        exact ok_X0_findFault_73 hC hQ a2 h hV
set_option maxRecDepth 100000 in
set_option maxHeartbeats 4000000 in
theorem ok_X0_findFault_53 {E : Ev} {X : Xt} {l0 : Launch} {K : Int32 → Hp → Prop} {C4 : Nat → Int32 → Int32 → Hp → Prop} (hC : Cx E X l0 RX0 cX0_findFault 5 rm_X0_findFault) (hQ : CQ E X "findFault" (some .int) rm_X0_findFault (KI K)) (hC4 : ∀ (a0 : Nat) (a1 : Int32) (a2 : Int32) (h : Hp), C4 a0 a1 a2 h → WW E X h 0 0 4 [some (rv a0), some (.int a1), some (.int a2), none, none] []) (a0 : Nat) (a1 : Int32) (a2 : Int32) (a3 : Int32) (h : Hp) (hV : V_X0_findFault_53 K C4 a0 a1 a2 a3 h) : WW E X h 0 0 53 [some (rv a0), some (.int a1), some (.int a2), some (.int a3), none] [] := by
  unfold V_X0_findFault_53 at hV
  refine r_iconst (v := 1) hC dX0_findFault_53 (by decide) ?_
  refine r_goto (tgt := 58) hC dX0_findFault_54 (by decide) ?_
  exact ok_X0_findFault_58 hC hQ hC4 a0 a1 a2 a3 1 h hV
set_option maxRecDepth 100000 in
set_option maxHeartbeats 4000000 in
theorem ok_X0_findFault_103 {E : Ev} {X : Xt} {l0 : Launch} {K : Int32 → Hp → Prop} (hC : Cx E X l0 RX0 cX0_findFault 5 rm_X0_findFault) (hQ : CQ E X "findFault" (some .int) rm_X0_findFault (KI K)) (s0 : Int32) (h : Hp) (hV : V_X0_findFault_103 K s0 h) : WW E X h 0 0 103 [none, none, none, none, none] [.int s0] := by
  unfold V_X0_findFault_103 at hV
  exact r_iret hC hQ dX0_findFault_103 (Nat.le_of_ble_eq_true rfl) (Nat.le_of_ble_eq_true rfl) ⟨_, rfl, hV⟩
set_option maxRecDepth 100000 in
set_option maxHeartbeats 4000000 in
theorem ok_X0_findFault_91 {E : Ev} {X : Xt} {l0 : Launch} {K : Int32 → Hp → Prop} (hC : Cx E X l0 RX0 cX0_findFault 5 rm_X0_findFault) (hQ : CQ E X "findFault" (some .int) rm_X0_findFault (KI K)) (a0 : Nat) (a1 : Int32) (h : Hp) (hV : V_X0_findFault_91 K a0 a1 h) : WW E X h 0 0 91 [some (rv a0), some (.int a1), none, none, none] [] := by
  unfold V_X0_findFault_91 at hV
  refine r_iload_n hC dX0_findFault_91 rfl ?_
  refine r_if_eq (tgt := 102) hC dX0_findFault_92 (by decide) (fun k9 => ?_) (fun k9 => ?_)
  · replace hV := hV.1 k9
    refine r_iconst (v := (-1)) hC dX0_findFault_102 (by decide) ?_
    refine r_sub (lo1 := [none, none, none, none, none]) ⟨Or.inl rfl, ⟨Or.inl rfl, ⟨Or.inl rfl, ⟨Or.inl rfl, ⟨Or.inl rfl, trivial⟩⟩⟩⟩⟩ ?_
    exact ok_X0_findFault_103 hC hQ (-1) h hV
  · replace hV := hV.2 k9
    refine r_aload_n hC dX0_findFault_95 rfl ?_
    obtain ⟨k9, hV⟩ := hV
    refine r_getI hC dX0_findFault_96 fl_0_15 rf_0_1 lq_0 k9 ?_
    refine r_goto (tgt := 103) hC dX0_findFault_99 (by decide) ?_
    refine r_sub (lo1 := [none, none, none, none, none]) ⟨Or.inl rfl, ⟨Or.inl rfl, ⟨Or.inl rfl, ⟨Or.inl rfl, ⟨Or.inl rfl, trivial⟩⟩⟩⟩⟩ ?_
    exact ok_X0_findFault_103 hC hQ (hI h a0 1) h hV
set_option maxRecDepth 100000 in
set_option maxHeartbeats 4000000 in
theorem ok_X0_findFault_4 {E : Ev} {X : Xt} {l0 : Launch} {K : Int32 → Hp → Prop} (hC : Cx E X l0 RX0 cX0_findFault 5 rm_X0_findFault) (hQ : CQ E X "findFault" (some .int) rm_X0_findFault (KI K)) : ∀ (n : Nat) (a0 : Nat) (a1 : Int32) (a2 : Int32) (h : Hp), V_X0_findFault_4 K n a0 a1 a2 h → WW E X h 0 0 4 [some (rv a0), some (.int a1), some (.int a2), none, none] [] := by
  intro n
  induction n with
  | zero => intro a0 a1 a2 h hV; exact hV.elim
  | succ n ih =>
    intro a0 a1 a2 h hV
    unfold V_X0_findFault_4 at hV
    refine r_iload_n hC dX0_findFault_4 rfl ?_
    refine r_aload_n hC dX0_findFault_5 rfl ?_
    obtain ⟨k9, hV⟩ := hV
    refine r_getI hC dX0_findFault_6 fl_0_15 rf_0_1 lq_0 k9 ?_
    refine r_icmp_ge (tgt := 91) hC dX0_findFault_9 (by decide) (fun k9 => ?_) (fun k9 => ?_)
    · replace hV := hV.1 k9
      refine r_sub (lo1 := [some (rv a0), some (.int a1), none, none, none]) ⟨Or.inr rfl, ⟨Or.inr rfl, ⟨Or.inl rfl, ⟨Or.inl rfl, ⟨Or.inl rfl, trivial⟩⟩⟩⟩⟩ ?_
      exact ok_X0_findFault_91 hC hQ a0 a1 h hV
    · replace hV := hV.2 k9
      refine r_iload_n hC dX0_findFault_12 rfl ?_
      refine r_aload_n hC dX0_findFault_13 rfl ?_
      obtain ⟨k9, hV⟩ := hV
      refine r_getR hC dX0_findFault_14 fl_0_9 rf_0_0 lq_0 k9 ?_
      obtain ⟨k9, hV⟩ := hV
      refine r_alen (kd := 21) hC dX0_findFault_17 (by decide) k9 ?_
      refine r_icmp_ge (tgt := 91) hC dX0_findFault_18 (by decide) (fun k9 => ?_) (fun k9 => ?_)
      · replace hV := hV.1 k9
        refine r_sub (lo1 := [some (rv a0), some (.int a1), none, none, none]) ⟨Or.inr rfl, ⟨Or.inr rfl, ⟨Or.inl rfl, ⟨Or.inl rfl, ⟨Or.inl rfl, trivial⟩⟩⟩⟩⟩ ?_
        exact ok_X0_findFault_91 hC hQ a0 a1 h hV
      · replace hV := hV.2 k9
        refine r_aload_n hC dX0_findFault_21 rfl ?_
        obtain ⟨k9, hV⟩ := hV
        refine r_getR hC dX0_findFault_22 fl_0_9 rf_0_0 lq_0 k9 ?_
        refine r_iload_n hC dX0_findFault_25 rfl ?_
        obtain ⟨k9, k8, hV⟩ := hV
        refine r_cald (kd := 21) hC dX0_findFault_26 (by decide) rfl k9 k8 ?_
        refine r_callSN (As := [.int (hI h (hR h a0 0) (ix a2))]) hC dX0_findFault_27 rfl cf_X6_isLetter nl_0_19 st_X6_isLetter rfl ⟨Nat.le_of_ble_eq_true rfl, Nat.le_of_ble_eq_true rfl, Nat.le_of_ble_eq_true rfl, Nat.le_of_ble_eq_true rfl⟩ cs0 (Nat.le_of_ble_eq_true rfl) (con_X6_isLetter (hI h (hR h a0 0) (ix a2)) h _ hV) rfl (kI (k := 0) (n := 0) (fun r1 h1 hV => ?_))
        refine r_istore_n (lo1 := [some (rv a0), some (.int a1), some (.int a2), some (.int r1), none]) hC dX0_findFault_30 (Nat.le_of_ble_eq_true rfl) rfl ?_
        refine r_aload_n hC dX0_findFault_31 rfl ?_
        obtain ⟨k9, hV⟩ := hV
        refine r_getR hC dX0_findFault_32 fl_0_9 rf_0_0 lq_0 k9 ?_
        refine r_iload_n hC dX0_findFault_35 rfl ?_
        obtain ⟨k9, k8, hV⟩ := hV
        refine r_cald (kd := 21) hC dX0_findFault_36 (by decide) rfl k9 k8 ?_
        refine r_bipush (v := 32) hC dX0_findFault_37 (by decide) ?_
        refine r_icmp_eq (tgt := 53) hC dX0_findFault_39 (by decide) (fun k9 => ?_) (fun k9 => ?_)
        · replace hV := hV.1 k9
          exact ok_X0_findFault_53 hC hQ ih a0 a1 a2 r1 h1 hV
        · replace hV := hV.2 k9
          refine r_aload_n hC dX0_findFault_42 rfl ?_
          obtain ⟨k9, hV⟩ := hV
          refine r_getR hC dX0_findFault_43 fl_0_9 rf_0_0 lq_0 k9 ?_
          refine r_iload_n hC dX0_findFault_46 rfl ?_
          obtain ⟨k9, k8, hV⟩ := hV
          refine r_cald (kd := 21) hC dX0_findFault_47 (by decide) rfl k9 k8 ?_
          refine r_bipush (v := 47) hC dX0_findFault_48 (by decide) ?_
          refine r_icmp_ne (tgt := 57) hC dX0_findFault_50 (by decide) (fun k9 => ?_) (fun k9 => ?_)
          · replace hV := hV.1 k9
            refine r_iconst (v := 0) hC dX0_findFault_57 (by decide) ?_
            exact ok_X0_findFault_58 hC hQ ih a0 a1 a2 r1 0 h1 hV
          · replace hV := hV.2 k9
            exact ok_X0_findFault_53 hC hQ ih a0 a1 a2 r1 h1 hV
set_option maxRecDepth 100000 in
set_option maxHeartbeats 4000000 in
theorem ok_X0_findFault_0 {E : Ev} {X : Xt} {l0 : Launch} {K : Int32 → Hp → Prop} (hC : Cx E X l0 RX0 cX0_findFault 5 rm_X0_findFault) (hQ : CQ E X "findFault" (some .int) rm_X0_findFault (KI K)) (a0 : Nat) (h : Hp) (hV : V_X0_findFault a0 h K) : WW E X h 0 0 0 [some (rv a0), none, none, none, none] [] := by
  unfold V_X0_findFault at hV
  refine r_iconst (v := 1) hC dX0_findFault_0 (by decide) ?_
  refine r_istore_n (lo1 := [some (rv a0), some (.int 1), none, none, none]) hC dX0_findFault_1 (Nat.le_of_ble_eq_true rfl) rfl ?_
  refine r_iconst (v := 0) hC dX0_findFault_2 (by decide) ?_
  refine r_istore_n (lo1 := [some (rv a0), some (.int 1), some (.int 0), none, none]) hC dX0_findFault_3 (Nat.le_of_ble_eq_true rfl) rfl ?_
  obtain ⟨n9, hV⟩ := hV
  exact ok_X0_findFault_4 hC hQ n9 a0 1 0 h hV
set_option maxRecDepth 100000 in
set_option maxHeartbeats 4000000 in
theorem con_X0_findFault {E : Ev} {l0 : Launch} (a0 : Nat) (h : Hp) (K : Int32 → Hp → Prop) (hV : V_X0_findFault a0 h K) : Con E l0 yX0_findFault cX0_findFault 5 (some .int) rm_X0_findFault [rv a0] h (KI K) := by
  refine Con.of (by decide +kernel) (cat_R cat_nil) (Nat.le_of_ble_eq_true rfl) (fun X hC hQ => ?_)
  refine r_sub (lo1 := [some (rv a0), none, none, none, none]) (show lsub [some (rv a0), none, none, none, none] _ from ⟨Or.inr rfl, ⟨Or.inr rfl, ⟨Or.inr rfl, ⟨Or.inr rfl, ⟨Or.inr rfl, trivial⟩⟩⟩⟩⟩) ?_
  exact ok_X0_findFault_0 hC hQ a0 h hV
theorem dX0_init_0 : decode cX0_init 0 = .ok (.aload_n 0, 1) := by decide +kernel
theorem dX0_init_1 : decode cX0_init 1 = .ok (.invokespecial 3, 3) := by decide +kernel
theorem dX0_init_4 : decode cX0_init 4 = .ok (.aload_n 0, 1) := by decide +kernel
theorem dX0_init_5 : decode cX0_init 5 = .ok (.bipush 60, 2) := by decide +kernel
theorem dX0_init_7 : decode cX0_init 7 = .ok (.newarray .char, 2) := by decide +kernel
theorem dX0_init_9 : decode cX0_init 9 = .ok (.putfield 9, 3) := by decide +kernel
theorem dX0_init_12 : decode cX0_init 12 = .ok (.aload_n 0, 1) := by decide +kernel
theorem dX0_init_13 : decode cX0_init 13 = .ok (.iconst 0, 1) := by decide +kernel
theorem dX0_init_14 : decode cX0_init 14 = .ok (.putfield 15, 3) := by decide +kernel
theorem dX0_init_17 : decode cX0_init 17 = .ok (.return_, 1) := by decide +kernel
def rm_X0_init : Room := { frames := 1, cells := 1, slots := 60, locals := 26 }
set_option maxRecDepth 100000 in
set_option maxHeartbeats 4000000 in
theorem ok_X0_init_0 {E : Ev} {X : Xt} {l0 : Launch} {K : Hp → Prop} (hC : Cx E X l0 RX0 cX0_init 1 rm_X0_init) (hQ : CQ E X "<init>" none rm_X0_init (KV K)) (a0 : Nat) (h : Hp) (hV : V_X0_init a0 h K) : WW E X h 0 0 0 [some (rv a0)] [] := by
  unfold V_X0_init at hV
  refine r_aload_n hC dX0_init_0 rfl ?_
  obtain ⟨k9, hV⟩ := hV
  refine r_obj hC dX0_init_1 rfl ml_0_3 obj_i obj_c k9 cs0 ⟨Nat.le_of_ble_eq_true rfl, Nat.le_of_ble_eq_true rfl⟩ ?_
  refine r_aload_n hC dX0_init_4 rfl ?_
  refine r_bipush (v := 60) hC dX0_init_5 (by decide) ?_
  refine r_newarr (kd := 21) (d := 1) (N := 60) hC dX0_init_7 (by decide) rfl (by decide) rfl ka_1 (by decide) (by decide) (by decide) ⟨Nat.le_of_ble_eq_true rfl, Nat.le_of_ble_eq_true rfl⟩ (fun q1 k9 k8 => nmH (fun h1 k7 => ?_))
  replace hV := hV q1 k9 k8 h1 k7
  obtain ⟨k9, hV⟩ := hV
  refine r_putFR hC hQ dX0_init_9 fl_0_9 ft_0 rfl rfl rf_0_0 ty_0_0 lq_0 k9 (nmH (fun h2 k9 => ?_))
  replace hV := hV h2 k9
  refine r_aload_n hC dX0_init_12 rfl ?_
  refine r_iconst (v := 0) hC dX0_init_13 (by decide) ?_
  obtain ⟨k9, hV⟩ := hV
  refine r_putI hC dX0_init_14 fl_0_15 ft_0 rfl rf_0_1 ty_0_1 lq_0 k9 (nmH (fun h3 k9 => ?_))
  replace hV := hV h3 k9
  exact r_vret hC hQ dX0_init_17 (Nat.le_of_ble_eq_true rfl) (Nat.le_of_ble_eq_true rfl) ⟨rfl, hV⟩
set_option maxRecDepth 100000 in
set_option maxHeartbeats 4000000 in
theorem con_X0_init {E : Ev} {l0 : Launch} (a0 : Nat) (h : Hp) (K : Hp → Prop) (hV : V_X0_init a0 h K) : Con E l0 yX0_init cX0_init 1 none rm_X0_init [rv a0] h (KV K) := by
  refine Con.of (by decide +kernel) (cat_R cat_nil) (Nat.le_of_ble_eq_true rfl) (fun X hC hQ => ?_)
  refine r_sub (lo1 := [some (rv a0)]) (show lsub [some (rv a0)] _ from ⟨Or.inr rfl, trivial⟩) ?_
  exact ok_X0_init_0 hC hQ a0 h hV
theorem dX1_formePieces_0 : decode cX1_formePieces 0 = .ok (.iconst 0, 1) := by decide +kernel
theorem dX1_formePieces_1 : decode cX1_formePieces 1 = .ok (.istore_n 1, 1) := by decide +kernel
theorem dX1_formePieces_2 : decode cX1_formePieces 2 = .ok (.iconst 0, 1) := by decide +kernel
theorem dX1_formePieces_3 : decode cX1_formePieces 3 = .ok (.istore_n 2, 1) := by decide +kernel
theorem dX1_formePieces_4 : decode cX1_formePieces 4 = .ok (.iload_n 2, 1) := by decide +kernel
theorem dX1_formePieces_5 : decode cX1_formePieces 5 = .ok (.aload_n 0, 1) := by decide +kernel
theorem dX1_formePieces_6 : decode cX1_formePieces 6 = .ok (.getfield 22, 3) := by decide +kernel
theorem dX1_formePieces_9 : decode cX1_formePieces 9 = .ok (.arraylength, 1) := by decide +kernel
theorem dX1_formePieces_10 : decode cX1_formePieces 10 = .ok (.if_icmp .ge 18, 3) := by decide +kernel
theorem dX1_formePieces_13 : decode cX1_formePieces 13 = .ok (.iload_n 1, 1) := by decide +kernel
theorem dX1_formePieces_14 : decode cX1_formePieces 14 = .ok (.aload_n 0, 1) := by decide +kernel
theorem dX1_formePieces_15 : decode cX1_formePieces 15 = .ok (.getfield 22, 3) := by decide +kernel
theorem dX1_formePieces_18 : decode cX1_formePieces 18 = .ok (.iload_n 2, 1) := by decide +kernel
theorem dX1_formePieces_19 : decode cX1_formePieces 19 = .ok (.iaload, 1) := by decide +kernel
theorem dX1_formePieces_20 : decode cX1_formePieces 20 = .ok (.iadd, 1) := by decide +kernel
theorem dX1_formePieces_21 : decode cX1_formePieces 21 = .ok (.istore_n 1, 1) := by decide +kernel
theorem dX1_formePieces_22 : decode cX1_formePieces 22 = .ok (.iinc 2 1, 3) := by decide +kernel
theorem dX1_formePieces_25 : decode cX1_formePieces 25 = .ok (.goto (-21), 3) := by decide +kernel
theorem dX1_formePieces_28 : decode cX1_formePieces 28 = .ok (.iload_n 1, 1) := by decide +kernel
theorem dX1_formePieces_29 : decode cX1_formePieces 29 = .ok (.ireturn, 1) := by decide +kernel
def rm_X1_formePieces : Room := { frames := 0, cells := 0, slots := 0, locals := 0 }
set_option maxRecDepth 100000 in
set_option maxHeartbeats 4000000 in
theorem ok_X1_formePieces_4 {E : Ev} {X : Xt} {l0 : Launch} {K : Int32 → Hp → Prop} (hC : Cx E X l0 RX1 cX1_formePieces 3 rm_X1_formePieces) (hQ : CQ E X "formePieces" (some .int) rm_X1_formePieces (KI K)) : ∀ (n : Nat) (a0 : Nat) (a1 : Int32) (a2 : Int32) (h : Hp), V_X1_formePieces_4 K n a0 a1 a2 h → WW E X h 0 0 4 [some (rv a0), some (.int a1), some (.int a2)] [] := by
  intro n
  induction n with
  | zero => intro a0 a1 a2 h hV; exact hV.elim
  | succ n ih =>
    intro a0 a1 a2 h hV
    unfold V_X1_formePieces_4 at hV
    refine r_iload_n hC dX1_formePieces_4 rfl ?_
    refine r_aload_n hC dX1_formePieces_5 rfl ?_
    obtain ⟨k9, hV⟩ := hV
    refine r_getR hC dX1_formePieces_6 fl_1_22 rf_1_3 lq_1 k9 ?_
    obtain ⟨k9, hV⟩ := hV
    refine r_alen (kd := 20) hC dX1_formePieces_9 (by decide) k9 ?_
    refine r_icmp_ge (tgt := 28) hC dX1_formePieces_10 (by decide) (fun k9 => ?_) (fun k9 => ?_)
    · replace hV := hV.1 k9
      refine r_iload_n hC dX1_formePieces_28 rfl ?_
      exact r_iret hC hQ dX1_formePieces_29 (Nat.le_of_ble_eq_true rfl) (Nat.le_of_ble_eq_true rfl) ⟨_, rfl, hV⟩
    · replace hV := hV.2 k9
      refine r_iload_n hC dX1_formePieces_13 rfl ?_
      refine r_aload_n hC dX1_formePieces_14 rfl ?_
      obtain ⟨k9, hV⟩ := hV
      refine r_getR hC dX1_formePieces_15 fl_1_22 rf_1_3 lq_1 k9 ?_
      refine r_iload_n hC dX1_formePieces_18 rfl ?_
      obtain ⟨k9, k8, hV⟩ := hV
      refine r_iald (kd := 20) hC dX1_formePieces_19 (by decide) rfl k9 k8 ?_
      refine r_iadd hC dX1_formePieces_20 ?_
      refine r_istore_n (lo1 := [some (rv a0), some (.int (a1 + (hI h (hR h a0 3) (ix a2)))), some (.int a2)]) hC dX1_formePieces_21 (Nat.le_of_ble_eq_true rfl) rfl ?_
      refine r_iinc (v := 1) (lo1 := [some (rv a0), some (.int (a1 + (hI h (hR h a0 3) (ix a2)))), some (.int (a2 + 1))]) hC dX1_formePieces_22 rfl (by decide) rfl ?_
      refine r_goto (tgt := 4) hC dX1_formePieces_25 (by decide) ?_
      exact ih a0 (a1 + (hI h (hR h a0 3) (ix a2))) (a2 + 1) h hV
set_option maxRecDepth 100000 in
set_option maxHeartbeats 4000000 in
theorem ok_X1_formePieces_0 {E : Ev} {X : Xt} {l0 : Launch} {K : Int32 → Hp → Prop} (hC : Cx E X l0 RX1 cX1_formePieces 3 rm_X1_formePieces) (hQ : CQ E X "formePieces" (some .int) rm_X1_formePieces (KI K)) (a0 : Nat) (h : Hp) (hV : V_X1_formePieces a0 h K) : WW E X h 0 0 0 [some (rv a0), none, none] [] := by
  unfold V_X1_formePieces at hV
  refine r_iconst (v := 0) hC dX1_formePieces_0 (by decide) ?_
  refine r_istore_n (lo1 := [some (rv a0), some (.int 0), none]) hC dX1_formePieces_1 (Nat.le_of_ble_eq_true rfl) rfl ?_
  refine r_iconst (v := 0) hC dX1_formePieces_2 (by decide) ?_
  refine r_istore_n (lo1 := [some (rv a0), some (.int 0), some (.int 0)]) hC dX1_formePieces_3 (Nat.le_of_ble_eq_true rfl) rfl ?_
  obtain ⟨n9, hV⟩ := hV
  exact ok_X1_formePieces_4 hC hQ n9 a0 0 0 h hV
set_option maxRecDepth 100000 in
set_option maxHeartbeats 4000000 in
theorem con_X1_formePieces {E : Ev} {l0 : Launch} (a0 : Nat) (h : Hp) (K : Int32 → Hp → Prop) (hV : V_X1_formePieces a0 h K) : Con E l0 yX1_formePieces cX1_formePieces 3 (some .int) rm_X1_formePieces [rv a0] h (KI K) := by
  refine Con.of (by decide +kernel) (cat_R cat_nil) (Nat.le_of_ble_eq_true rfl) (fun X hC hQ => ?_)
  refine r_sub (lo1 := [some (rv a0), none, none]) (show lsub [some (rv a0), none, none] _ from ⟨Or.inr rfl, ⟨Or.inr rfl, ⟨Or.inr rfl, trivial⟩⟩⟩) ?_
  exact ok_X1_formePieces_0 hC hQ a0 h hV
theorem dX6_slotOf_0 : decode cX6_slotOf 0 = .ok (.iload_n 0, 1) := by decide +kernel
theorem dX6_slotOf_1 : decode cX6_slotOf 1 = .ok (.bipush 29, 2) := by decide +kernel
theorem dX6_slotOf_3 : decode cX6_slotOf 3 = .ok (.imul, 1) := by decide +kernel
theorem dX6_slotOf_4 : decode cX6_slotOf 4 = .ok (.iload_n 1, 1) := by decide +kernel
theorem dX6_slotOf_5 : decode cX6_slotOf 5 = .ok (.iadd, 1) := by decide +kernel
theorem dX6_slotOf_6 : decode cX6_slotOf 6 = .ok (.ireturn, 1) := by decide +kernel
def rm_X6_slotOf : Room := { frames := 0, cells := 0, slots := 0, locals := 0 }
set_option maxRecDepth 100000 in
set_option maxHeartbeats 4000000 in
theorem ok_X6_slotOf_0 {E : Ev} {X : Xt} {l0 : Launch} {K : Int32 → Hp → Prop} (hC : Cx E X l0 RX6 cX6_slotOf 2 rm_X6_slotOf) (hQ : CQ E X "slotOf" (some .int) rm_X6_slotOf (KI K)) (a0 : Int32) (a1 : Int32) (h : Hp) (hV : V_X6_slotOf a0 a1 h K) : WW E X h 0 0 0 [some (.int a0), some (.int a1)] [] := by
  unfold V_X6_slotOf at hV
  refine r_iload_n hC dX6_slotOf_0 rfl ?_
  refine r_bipush (v := 29) hC dX6_slotOf_1 (by decide) ?_
  refine r_imul hC dX6_slotOf_3 ?_
  refine r_iload_n hC dX6_slotOf_4 rfl ?_
  refine r_iadd hC dX6_slotOf_5 ?_
  exact r_iret hC hQ dX6_slotOf_6 (Nat.le_of_ble_eq_true rfl) (Nat.le_of_ble_eq_true rfl) ⟨_, rfl, hV⟩
set_option maxRecDepth 100000 in
set_option maxHeartbeats 4000000 in
theorem con_X6_slotOf {E : Ev} {l0 : Launch} (a0 : Int32) (a1 : Int32) (h : Hp) (K : Int32 → Hp → Prop) (hV : V_X6_slotOf a0 a1 h K) : Con E l0 yX6_slotOf cX6_slotOf 2 (some .int) rm_X6_slotOf [.int a0, .int a1] h (KI K) := by
  refine Con.of (by decide +kernel) (cat_I (cat_I cat_nil)) (Nat.le_of_ble_eq_true rfl) (fun X hC hQ => ?_)
  refine r_sub (lo1 := [some (.int a0), some (.int a1)]) (show lsub [some (.int a0), some (.int a1)] _ from ⟨Or.inr rfl, ⟨Or.inr rfl, trivial⟩⟩) ?_
  exact ok_X6_slotOf_0 hC hQ a0 a1 h hV
theorem dX1_takenFrom_0 : decode cX1_takenFrom 0 = .ok (.iload_n 1, 1) := by decide +kernel
theorem dX1_takenFrom_1 : decode cX1_takenFrom 1 = .ok (.iload_n 2, 1) := by decide +kernel
theorem dX1_takenFrom_2 : decode cX1_takenFrom 2 = .ok (.invokestatic 37, 3) := by decide +kernel
theorem dX1_takenFrom_5 : decode cX1_takenFrom 5 = .ok (.istore_n 3, 1) := by decide +kernel
theorem dX1_takenFrom_6 : decode cX1_takenFrom 6 = .ok (.iload_n 3, 1) := by decide +kernel
theorem dX1_takenFrom_7 : decode cX1_takenFrom 7 = .ok (.ifCond .lt 21, 3) := by decide +kernel
theorem dX1_takenFrom_10 : decode cX1_takenFrom 10 = .ok (.iload_n 3, 1) := by decide +kernel
theorem dX1_takenFrom_11 : decode cX1_takenFrom 11 = .ok (.aload_n 0, 1) := by decide +kernel
theorem dX1_takenFrom_12 : decode cX1_takenFrom 12 = .ok (.getfield 22, 3) := by decide +kernel
theorem dX1_takenFrom_15 : decode cX1_takenFrom 15 = .ok (.arraylength, 1) := by decide +kernel
theorem dX1_takenFrom_16 : decode cX1_takenFrom 16 = .ok (.if_icmp .ge 12, 3) := by decide +kernel
theorem dX1_takenFrom_19 : decode cX1_takenFrom 19 = .ok (.aload_n 0, 1) := by decide +kernel
theorem dX1_takenFrom_20 : decode cX1_takenFrom 20 = .ok (.getfield 22, 3) := by decide +kernel
theorem dX1_takenFrom_23 : decode cX1_takenFrom 23 = .ok (.iload_n 3, 1) := by decide +kernel
theorem dX1_takenFrom_24 : decode cX1_takenFrom 24 = .ok (.iaload, 1) := by decide +kernel
theorem dX1_takenFrom_25 : decode cX1_takenFrom 25 = .ok (.goto 4, 3) := by decide +kernel
theorem dX1_takenFrom_28 : decode cX1_takenFrom 28 = .ok (.iconst 0, 1) := by decide +kernel
theorem dX1_takenFrom_29 : decode cX1_takenFrom 29 = .ok (.ireturn, 1) := by decide +kernel
def rm_X1_takenFrom : Room := { frames := 1, cells := 0, slots := 0, locals := 21 }
set_option maxRecDepth 100000 in
set_option maxHeartbeats 4000000 in
theorem ok_X1_takenFrom_29 {E : Ev} {X : Xt} {l0 : Launch} {K : Int32 → Hp → Prop} (hC : Cx E X l0 RX1 cX1_takenFrom 4 rm_X1_takenFrom) (hQ : CQ E X "takenFrom" (some .int) rm_X1_takenFrom (KI K)) (s0 : Int32) (h : Hp) (hV : V_X1_takenFrom_29 K s0 h) : WW E X h 0 0 29 [none, none, none, none] [.int s0] := by
  unfold V_X1_takenFrom_29 at hV
  exact r_iret hC hQ dX1_takenFrom_29 (Nat.le_of_ble_eq_true rfl) (Nat.le_of_ble_eq_true rfl) ⟨_, rfl, hV⟩
set_option maxRecDepth 100000 in
set_option maxHeartbeats 4000000 in
theorem ok_X1_takenFrom_28 {E : Ev} {X : Xt} {l0 : Launch} {K : Int32 → Hp → Prop} (hC : Cx E X l0 RX1 cX1_takenFrom 4 rm_X1_takenFrom) (hQ : CQ E X "takenFrom" (some .int) rm_X1_takenFrom (KI K)) (h : Hp) (hV : V_X1_takenFrom_28 K  h) : WW E X h 0 0 28 [none, none, none, none] [] := by
  unfold V_X1_takenFrom_28 at hV
  refine r_iconst (v := 0) hC dX1_takenFrom_28 (by decide) ?_
  exact ok_X1_takenFrom_29 hC hQ 0 h hV
set_option maxRecDepth 100000 in
set_option maxHeartbeats 4000000 in
theorem ok_X1_takenFrom_0 {E : Ev} {X : Xt} {l0 : Launch} {K : Int32 → Hp → Prop} (hC : Cx E X l0 RX1 cX1_takenFrom 4 rm_X1_takenFrom) (hQ : CQ E X "takenFrom" (some .int) rm_X1_takenFrom (KI K)) (a0 : Nat) (a1 : Int32) (a2 : Int32) (h : Hp) (hV : V_X1_takenFrom a0 a1 a2 h K) : WW E X h 0 0 0 [some (rv a0), some (.int a1), some (.int a2), none] [] := by
  unfold V_X1_takenFrom at hV
  refine r_iload_n hC dX1_takenFrom_0 rfl ?_
  refine r_iload_n hC dX1_takenFrom_1 rfl ?_
  refine r_callSN (As := [.int a1, .int a2]) hC dX1_takenFrom_2 rfl cf_X6_slotOf nl_1_37 st_X6_slotOf rfl ⟨Nat.le_of_ble_eq_true rfl, Nat.le_of_ble_eq_true rfl, Nat.le_of_ble_eq_true rfl, Nat.le_of_ble_eq_true rfl⟩ cs0 (Nat.le_of_ble_eq_true rfl) (con_X6_slotOf a1 a2 h _ hV) rfl (kI (k := 0) (n := 0) (fun r1 h1 hV => ?_))
  refine r_istore_n (lo1 := [some (rv a0), some (.int a1), some (.int a2), some (.int r1)]) hC dX1_takenFrom_5 (Nat.le_of_ble_eq_true rfl) rfl ?_
  refine r_iload_n hC dX1_takenFrom_6 rfl ?_
  refine r_if_lt (tgt := 28) hC dX1_takenFrom_7 (by decide) (fun k9 => ?_) (fun k9 => ?_)
  · replace hV := hV.1 k9
    refine r_sub (lo1 := [none, none, none, none]) ⟨Or.inl rfl, ⟨Or.inl rfl, ⟨Or.inl rfl, ⟨Or.inl rfl, trivial⟩⟩⟩⟩ ?_
    exact ok_X1_takenFrom_28 hC hQ  h1 hV
  · replace hV := hV.2 k9
    refine r_iload_n hC dX1_takenFrom_10 rfl ?_
    refine r_aload_n hC dX1_takenFrom_11 rfl ?_
    obtain ⟨k9, hV⟩ := hV
    refine r_getR hC dX1_takenFrom_12 fl_1_22 rf_1_3 lq_1 k9 ?_
    obtain ⟨k9, hV⟩ := hV
    refine r_alen (kd := 20) hC dX1_takenFrom_15 (by decide) k9 ?_
    refine r_icmp_ge (tgt := 28) hC dX1_takenFrom_16 (by decide) (fun k9 => ?_) (fun k9 => ?_)
    · replace hV := hV.1 k9
      refine r_sub (lo1 := [none, none, none, none]) ⟨Or.inl rfl, ⟨Or.inl rfl, ⟨Or.inl rfl, ⟨Or.inl rfl, trivial⟩⟩⟩⟩ ?_
      exact ok_X1_takenFrom_28 hC hQ  h1 hV
    · replace hV := hV.2 k9
      refine r_aload_n hC dX1_takenFrom_19 rfl ?_
      obtain ⟨k9, hV⟩ := hV
      refine r_getR hC dX1_takenFrom_20 fl_1_22 rf_1_3 lq_1 k9 ?_
      refine r_iload_n hC dX1_takenFrom_23 rfl ?_
      obtain ⟨k9, k8, hV⟩ := hV
      refine r_iald (kd := 20) hC dX1_takenFrom_24 (by decide) rfl k9 k8 ?_
      refine r_goto (tgt := 29) hC dX1_takenFrom_25 (by decide) ?_
      refine r_sub (lo1 := [none, none, none, none]) ⟨Or.inl rfl, ⟨Or.inl rfl, ⟨Or.inl rfl, ⟨Or.inl rfl, trivial⟩⟩⟩⟩ ?_
      exact ok_X1_takenFrom_29 hC hQ (hI h1 (hR h1 a0 3) (ix r1)) h1 hV
set_option maxRecDepth 100000 in
set_option maxHeartbeats 4000000 in
theorem con_X1_takenFrom {E : Ev} {l0 : Launch} (a0 : Nat) (a1 : Int32) (a2 : Int32) (h : Hp) (K : Int32 → Hp → Prop) (hV : V_X1_takenFrom a0 a1 a2 h K) : Con E l0 yX1_takenFrom cX1_takenFrom 4 (some .int) rm_X1_takenFrom [rv a0, .int a1, .int a2] h (KI K) := by
  refine Con.of (by decide +kernel) (cat_R (cat_I (cat_I cat_nil))) (Nat.le_of_ble_eq_true rfl) (fun X hC hQ => ?_)
  refine r_sub (lo1 := [some (rv a0), some (.int a1), some (.int a2), none]) (show lsub [some (rv a0), some (.int a1), some (.int a2), none] _ from ⟨Or.inr rfl, ⟨Or.inr rfl, ⟨Or.inr rfl, ⟨Or.inr rfl, trivial⟩⟩⟩⟩) ?_
  exact ok_X1_takenFrom_0 hC hQ a0 a1 a2 h hV
theorem dX1_borrowedPieces_0 : decode cX1_borrowedPieces 0 = .ok (.aload_n 0, 1) := by decide +kernel
theorem dX1_borrowedPieces_1 : decode cX1_borrowedPieces 1 = .ok (.invokevirtual 43, 3) := by decide +kernel
theorem dX1_borrowedPieces_4 : decode cX1_borrowedPieces 4 = .ok (.istore_n 1, 1) := by decide +kernel
theorem dX1_borrowedPieces_5 : decode cX1_borrowedPieces 5 = .ok (.iconst 0, 1) := by decide +kernel
theorem dX1_borrowedPieces_6 : decode cX1_borrowedPieces 6 = .ok (.istore_n 2, 1) := by decide +kernel
theorem dX1_borrowedPieces_7 : decode cX1_borrowedPieces 7 = .ok (.iload_n 2, 1) := by decide +kernel
theorem dX1_borrowedPieces_8 : decode cX1_borrowedPieces 8 = .ok (.bipush 29, 2) := by decide +kernel
theorem dX1_borrowedPieces_10 : decode cX1_borrowedPieces 10 = .ok (.if_icmp .ge 24, 3) := by decide +kernel
theorem dX1_borrowedPieces_13 : decode cX1_borrowedPieces 13 = .ok (.iload_n 1, 1) := by decide +kernel
theorem dX1_borrowedPieces_14 : decode cX1_borrowedPieces 14 = .ok (.aload_n 0, 1) := by decide +kernel
theorem dX1_borrowedPieces_15 : decode cX1_borrowedPieces 15 = .ok (.aload_n 0, 1) := by decide +kernel
theorem dX1_borrowedPieces_16 : decode cX1_borrowedPieces 16 = .ok (.getfield 9, 3) := by decide +kernel
theorem dX1_borrowedPieces_19 : decode cX1_borrowedPieces 19 = .ok (.getfield 47, 3) := by decide +kernel
theorem dX1_borrowedPieces_22 : decode cX1_borrowedPieces 22 = .ok (.iload_n 2, 1) := by decide +kernel
theorem dX1_borrowedPieces_23 : decode cX1_borrowedPieces 23 = .ok (.invokevirtual 40, 3) := by decide +kernel
theorem dX1_borrowedPieces_26 : decode cX1_borrowedPieces 26 = .ok (.isub, 1) := by decide +kernel
theorem dX1_borrowedPieces_27 : decode cX1_borrowedPieces 27 = .ok (.istore_n 1, 1) := by decide +kernel
theorem dX1_borrowedPieces_28 : decode cX1_borrowedPieces 28 = .ok (.iinc 2 1, 3) := by decide +kernel
theorem dX1_borrowedPieces_31 : decode cX1_borrowedPieces 31 = .ok (.goto (-24), 3) := by decide +kernel
theorem dX1_borrowedPieces_34 : decode cX1_borrowedPieces 34 = .ok (.iload_n 1, 1) := by decide +kernel
theorem dX1_borrowedPieces_35 : decode cX1_borrowedPieces 35 = .ok (.ireturn, 1) := by decide +kernel
def rm_X1_borrowedPieces : Room := { frames := 2, cells := 0, slots := 0, locals := 44 }
set_option maxRecDepth 100000 in
set_option maxHeartbeats 4000000 in
theorem ok_X1_borrowedPieces_7 {E : Ev} {X : Xt} {l0 : Launch} {K : Int32 → Hp → Prop} (hC : Cx E X l0 RX1 cX1_borrowedPieces 3 rm_X1_borrowedPieces) (hQ : CQ E X "borrowedPieces" (some .int) rm_X1_borrowedPieces (KI K)) : ∀ (n : Nat) (a0 : Nat) (a1 : Int32) (a2 : Int32) (h : Hp), V_X1_borrowedPieces_7 K n a0 a1 a2 h → WW E X h 0 0 7 [some (rv a0), some (.int a1), some (.int a2)] [] := by
  intro n
  induction n with
  | zero => intro a0 a1 a2 h hV; exact hV.elim
  | succ n ih =>
    intro a0 a1 a2 h hV
    unfold V_X1_borrowedPieces_7 at hV
    refine r_iload_n hC dX1_borrowedPieces_7 rfl ?_
    refine r_bipush (v := 29) hC dX1_borrowedPieces_8 (by decide) ?_
    refine r_icmp_ge (tgt := 34) hC dX1_borrowedPieces_10 (by decide) (fun k9 => ?_) (fun k9 => ?_)
    · replace hV := hV.1 k9
      refine r_iload_n hC dX1_borrowedPieces_34 rfl ?_
      exact r_iret hC hQ dX1_borrowedPieces_35 (Nat.le_of_ble_eq_true rfl) (Nat.le_of_ble_eq_true rfl) ⟨_, rfl, hV⟩
    · replace hV := hV.2 k9
      refine r_iload_n hC dX1_borrowedPieces_13 rfl ?_
      refine r_aload_n hC dX1_borrowedPieces_14 rfl ?_
      refine r_aload_n hC dX1_borrowedPieces_15 rfl ?_
      obtain ⟨k9, hV⟩ := hV
      refine r_getR hC dX1_borrowedPieces_16 fl_1_9 rf_1_0 lq_1 k9 ?_
      obtain ⟨k9, hV⟩ := hV
      refine r_getI hC dX1_borrowedPieces_19 fl_1_47 rf_3_0 lq_3 k9 ?_
      refine r_iload_n hC dX1_borrowedPieces_22 rfl ?_
      obtain ⟨k9, hV⟩ := hV
      refine r_callV (ci := 1) (As := [.int (hI h (hR h a0 0) 0), .int a2]) hC dX1_borrowedPieces_23 rfl cf_X1_takenFrom ml_1_40 im_X1_takenFrom sl_X1_takenFrom lq_1 rfl rfl k9 rfl ⟨Nat.le_of_ble_eq_true rfl, Nat.le_of_ble_eq_true rfl, Nat.le_of_ble_eq_true rfl, Nat.le_of_ble_eq_true rfl⟩ (csI cs0) (Nat.le_of_ble_eq_true rfl) (con_X1_takenFrom a0 (hI h (hR h a0 0) 0) a2 h _ hV) rfl (kI (k := 0) (n := 0) (fun r1 h1 hV => ?_))
      refine r_isub hC dX1_borrowedPieces_26 ?_
      refine r_istore_n (lo1 := [some (rv a0), some (.int (a1 - r1)), some (.int a2)]) hC dX1_borrowedPieces_27 (Nat.le_of_ble_eq_true rfl) rfl ?_
      refine r_iinc (v := 1) (lo1 := [some (rv a0), some (.int (a1 - r1)), some (.int (a2 + 1))]) hC dX1_borrowedPieces_28 rfl (by decide) rfl ?_
      refine r_goto (tgt := 7) hC dX1_borrowedPieces_31 (by decide) ?_
      exact ih a0 (a1 - r1) (a2 + 1) h1 hV
set_option maxRecDepth 100000 in
set_option maxHeartbeats 4000000 in
theorem ok_X1_borrowedPieces_0 {E : Ev} {X : Xt} {l0 : Launch} {K : Int32 → Hp → Prop} (hC : Cx E X l0 RX1 cX1_borrowedPieces 3 rm_X1_borrowedPieces) (hQ : CQ E X "borrowedPieces" (some .int) rm_X1_borrowedPieces (KI K)) (a0 : Nat) (h : Hp) (hV : V_X1_borrowedPieces a0 h K) : WW E X h 0 0 0 [some (rv a0), none, none] [] := by
  unfold V_X1_borrowedPieces at hV
  refine r_aload_n hC dX1_borrowedPieces_0 rfl ?_
  obtain ⟨k9, hV⟩ := hV
  refine r_callV (ci := 1) (As := []) hC dX1_borrowedPieces_1 rfl cf_X1_formePieces ml_1_43 im_X1_formePieces sl_X1_formePieces lq_1 rfl rfl k9 rfl ⟨Nat.le_of_ble_eq_true rfl, Nat.le_of_ble_eq_true rfl, Nat.le_of_ble_eq_true rfl, Nat.le_of_ble_eq_true rfl⟩ cs0 (Nat.le_of_ble_eq_true rfl) (con_X1_formePieces a0 h _ hV) rfl (kI (k := 0) (n := 0) (fun r1 h1 hV => ?_))
  refine r_istore_n (lo1 := [some (rv a0), some (.int r1), none]) hC dX1_borrowedPieces_4 (Nat.le_of_ble_eq_true rfl) rfl ?_
  refine r_iconst (v := 0) hC dX1_borrowedPieces_5 (by decide) ?_
  refine r_istore_n (lo1 := [some (rv a0), some (.int r1), some (.int 0)]) hC dX1_borrowedPieces_6 (Nat.le_of_ble_eq_true rfl) rfl ?_
  obtain ⟨n9, hV⟩ := hV
  exact ok_X1_borrowedPieces_7 hC hQ n9 a0 r1 0 h1 hV
set_option maxRecDepth 100000 in
set_option maxHeartbeats 4000000 in
theorem con_X1_borrowedPieces {E : Ev} {l0 : Launch} (a0 : Nat) (h : Hp) (K : Int32 → Hp → Prop) (hV : V_X1_borrowedPieces a0 h K) : Con E l0 yX1_borrowedPieces cX1_borrowedPieces 3 (some .int) rm_X1_borrowedPieces [rv a0] h (KI K) := by
  refine Con.of (by decide +kernel) (cat_R cat_nil) (Nat.le_of_ble_eq_true rfl) (fun X hC hQ => ?_)
  refine r_sub (lo1 := [some (rv a0), none, none]) (show lsub [some (rv a0), none, none] _ from ⟨Or.inr rfl, ⟨Or.inr rfl, ⟨Or.inr rfl, trivial⟩⟩⟩) ?_
  exact ok_X1_borrowedPieces_0 hC hQ a0 h hV
theorem dX1_daysLate_0 : decode cX1_daysLate 0 = .ok (.aload_n 0, 1) := by decide +kernel
theorem dX1_daysLate_1 : decode cX1_daysLate 1 = .ok (.getfield 19, 3) := by decide +kernel
theorem dX1_daysLate_4 : decode cX1_daysLate 4 = .ok (.bipush (-5), 2) := by decide +kernel
theorem dX1_daysLate_6 : decode cX1_daysLate 6 = .ok (.if_icmp .ne 8, 3) := by decide +kernel
theorem dX1_daysLate_9 : decode cX1_daysLate 9 = .ok (.bipush (-5), 2) := by decide +kernel
theorem dX1_daysLate_11 : decode cX1_daysLate 11 = .ok (.goto 19, 3) := by decide +kernel
theorem dX1_daysLate_14 : decode cX1_daysLate 14 = .ok (.iconst 0, 1) := by decide +kernel
theorem dX1_daysLate_15 : decode cX1_daysLate 15 = .ok (.aload_n 0, 1) := by decide +kernel
theorem dX1_daysLate_16 : decode cX1_daysLate 16 = .ok (.getfield 19, 3) := by decide +kernel
theorem dX1_daysLate_19 : decode cX1_daysLate 19 = .ok (.aload_n 0, 1) := by decide +kernel
theorem dX1_daysLate_20 : decode cX1_daysLate 20 = .ok (.getfield 9, 3) := by decide +kernel
theorem dX1_daysLate_23 : decode cX1_daysLate 23 = .ok (.getfield 26, 3) := by decide +kernel
theorem dX1_daysLate_26 : decode cX1_daysLate 26 = .ok (.isub, 1) := by decide +kernel
theorem dX1_daysLate_27 : decode cX1_daysLate 27 = .ok (.invokestatic 31, 3) := by decide +kernel
theorem dX1_daysLate_30 : decode cX1_daysLate 30 = .ok (.ireturn, 1) := by decide +kernel
def rm_X1_daysLate : Room := { frames := 1, cells := 0, slots := 0, locals := 26 }
set_option maxRecDepth 100000 in
set_option maxHeartbeats 4000000 in
theorem ok_X1_daysLate_30 {E : Ev} {X : Xt} {l0 : Launch} {K : Int32 → Hp → Prop} (hC : Cx E X l0 RX1 cX1_daysLate 1 rm_X1_daysLate) (hQ : CQ E X "daysLate" (some .int) rm_X1_daysLate (KI K)) (s0 : Int32) (h : Hp) (hV : V_X1_daysLate_30 K s0 h) : WW E X h 0 0 30 [none] [.int s0] := by
  unfold V_X1_daysLate_30 at hV
  exact r_iret hC hQ dX1_daysLate_30 (Nat.le_of_ble_eq_true rfl) (Nat.le_of_ble_eq_true rfl) ⟨_, rfl, hV⟩
set_option maxRecDepth 100000 in
set_option maxHeartbeats 4000000 in
theorem ok_X1_daysLate_0 {E : Ev} {X : Xt} {l0 : Launch} {K : Int32 → Hp → Prop} (hC : Cx E X l0 RX1 cX1_daysLate 1 rm_X1_daysLate) (hQ : CQ E X "daysLate" (some .int) rm_X1_daysLate (KI K)) (a0 : Nat) (h : Hp) (hV : V_X1_daysLate a0 h K) : WW E X h 0 0 0 [some (rv a0)] [] := by
  unfold V_X1_daysLate at hV
  refine r_aload_n hC dX1_daysLate_0 rfl ?_
  obtain ⟨k9, hV⟩ := hV
  refine r_getI hC dX1_daysLate_1 fl_1_19 rf_1_2 lq_1 k9 ?_
  refine r_bipush (v := (-5)) hC dX1_daysLate_4 (by decide) ?_
  refine r_icmp_ne (tgt := 14) hC dX1_daysLate_6 (by decide) (fun k9 => ?_) (fun k9 => ?_)
  · replace hV := hV.1 k9
    refine r_iconst (v := 0) hC dX1_daysLate_14 (by decide) ?_
    refine r_aload_n hC dX1_daysLate_15 rfl ?_
    obtain ⟨k9, hV⟩ := hV
    refine r_getI hC dX1_daysLate_16 fl_1_19 rf_1_2 lq_1 k9 ?_
    refine r_aload_n hC dX1_daysLate_19 rfl ?_
    obtain ⟨k9, hV⟩ := hV
    refine r_getR hC dX1_daysLate_20 fl_1_9 rf_1_0 lq_1 k9 ?_
    obtain ⟨k9, hV⟩ := hV
    refine r_getI hC dX1_daysLate_23 fl_1_26 rf_3_2 lq_3 k9 ?_
    refine r_isub hC dX1_daysLate_26 ?_
    refine r_max hC dX1_daysLate_27 rfl ml_1_31 mmax_s mth_i mmax_c cs0 ⟨Nat.le_of_ble_eq_true rfl, Nat.le_of_ble_eq_true rfl, Nat.le_of_ble_eq_true rfl, Nat.le_of_ble_eq_true rfl⟩ ?_
    refine r_sub (lo1 := [none]) ⟨Or.inl rfl, trivial⟩ ?_
    exact ok_X1_daysLate_30 hC hQ (if 0 < (hI h a0 2) - (hI h (hR h a0 0) 2) then (hI h a0 2) - (hI h (hR h a0 0) 2) else 0) h hV
  · replace hV := hV.2 k9
    refine r_bipush (v := (-5)) hC dX1_daysLate_9 (by decide) ?_
    refine r_goto (tgt := 30) hC dX1_daysLate_11 (by decide) ?_
    refine r_sub (lo1 := [none]) ⟨Or.inl rfl, trivial⟩ ?_
    exact ok_X1_daysLate_30 hC hQ (-5) h hV
set_option maxRecDepth 100000 in
set_option maxHeartbeats 4000000 in
theorem con_X1_daysLate {E : Ev} {l0 : Launch} (a0 : Nat) (h : Hp) (K : Int32 → Hp → Prop) (hV : V_X1_daysLate a0 h K) : Con E l0 yX1_daysLate cX1_daysLate 1 (some .int) rm_X1_daysLate [rv a0] h (KI K) := by
  refine Con.of (by decide +kernel) (cat_R cat_nil) (Nat.le_of_ble_eq_true rfl) (fun X hC hQ => ?_)
  refine r_sub (lo1 := [some (rv a0)]) (show lsub [some (rv a0)] _ from ⟨Or.inr rfl, trivial⟩) ?_
  exact ok_X1_daysLate_0 hC hQ a0 h hV
theorem dX1_takenInAll_0 : decode cX1_takenInAll 0 = .ok (.iconst 0, 1) := by decide +kernel
theorem dX1_takenInAll_1 : decode cX1_takenInAll 1 = .ok (.istore_n 2, 1) := by decide +kernel
theorem dX1_takenInAll_2 : decode cX1_takenInAll 2 = .ok (.iconst 0, 1) := by decide +kernel
theorem dX1_takenInAll_3 : decode cX1_takenInAll 3 = .ok (.istore_n 3, 1) := by decide +kernel
theorem dX1_takenInAll_4 : decode cX1_takenInAll 4 = .ok (.iload_n 3, 1) := by decide +kernel
theorem dX1_takenInAll_5 : decode cX1_takenInAll 5 = .ok (.bipush 6, 2) := by decide +kernel
theorem dX1_takenInAll_7 : decode cX1_takenInAll 7 = .ok (.if_icmp .ge 18, 3) := by decide +kernel
theorem dX1_takenInAll_10 : decode cX1_takenInAll 10 = .ok (.iload_n 2, 1) := by decide +kernel
theorem dX1_takenInAll_11 : decode cX1_takenInAll 11 = .ok (.aload_n 0, 1) := by decide +kernel
theorem dX1_takenInAll_12 : decode cX1_takenInAll 12 = .ok (.iload_n 3, 1) := by decide +kernel
theorem dX1_takenInAll_13 : decode cX1_takenInAll 13 = .ok (.iload_n 1, 1) := by decide +kernel
theorem dX1_takenInAll_14 : decode cX1_takenInAll 14 = .ok (.invokevirtual 40, 3) := by decide +kernel
theorem dX1_takenInAll_17 : decode cX1_takenInAll 17 = .ok (.iadd, 1) := by decide +kernel
theorem dX1_takenInAll_18 : decode cX1_takenInAll 18 = .ok (.istore_n 2, 1) := by decide +kernel
theorem dX1_takenInAll_19 : decode cX1_takenInAll 19 = .ok (.iinc 3 1, 3) := by decide +kernel
theorem dX1_takenInAll_22 : decode cX1_takenInAll 22 = .ok (.goto (-18), 3) := by decide +kernel
theorem dX1_takenInAll_25 : decode cX1_takenInAll 25 = .ok (.iload_n 2, 1) := by decide +kernel
theorem dX1_takenInAll_26 : decode cX1_takenInAll 26 = .ok (.ireturn, 1) := by decide +kernel
def rm_X1_takenInAll : Room := { frames := 2, cells := 0, slots := 0, locals := 44 }
set_option maxRecDepth 100000 in
set_option maxHeartbeats 4000000 in
theorem ok_X1_takenInAll_4 {E : Ev} {X : Xt} {l0 : Launch} {K : Int32 → Hp → Prop} (hC : Cx E X l0 RX1 cX1_takenInAll 4 rm_X1_takenInAll) (hQ : CQ E X "takenInAll" (some .int) rm_X1_takenInAll (KI K)) : ∀ (n : Nat) (a0 : Nat) (a1 : Int32) (a2 : Int32) (a3 : Int32) (h : Hp), V_X1_takenInAll_4 K n a0 a1 a2 a3 h → WW E X h 0 0 4 [some (rv a0), some (.int a1), some (.int a2), some (.int a3)] [] := by
  intro n
  induction n with
  | zero => intro a0 a1 a2 a3 h hV; exact hV.elim
  | succ n ih =>
    intro a0 a1 a2 a3 h hV
    unfold V_X1_takenInAll_4 at hV
    refine r_iload_n hC dX1_takenInAll_4 rfl ?_
    refine r_bipush (v := 6) hC dX1_takenInAll_5 (by decide) ?_
    refine r_icmp_ge (tgt := 25) hC dX1_takenInAll_7 (by decide) (fun k9 => ?_) (fun k9 => ?_)
    · replace hV := hV.1 k9
      refine r_iload_n hC dX1_takenInAll_25 rfl ?_
      exact r_iret hC hQ dX1_takenInAll_26 (Nat.le_of_ble_eq_true rfl) (Nat.le_of_ble_eq_true rfl) ⟨_, rfl, hV⟩
    · replace hV := hV.2 k9
      refine r_iload_n hC dX1_takenInAll_10 rfl ?_
      refine r_aload_n hC dX1_takenInAll_11 rfl ?_
      refine r_iload_n hC dX1_takenInAll_12 rfl ?_
      refine r_iload_n hC dX1_takenInAll_13 rfl ?_
      obtain ⟨k9, hV⟩ := hV
      refine r_callV (ci := 1) (As := [.int a3, .int a1]) hC dX1_takenInAll_14 rfl cf_X1_takenFrom ml_1_40 im_X1_takenFrom sl_X1_takenFrom lq_1 rfl rfl k9 rfl ⟨Nat.le_of_ble_eq_true rfl, Nat.le_of_ble_eq_true rfl, Nat.le_of_ble_eq_true rfl, Nat.le_of_ble_eq_true rfl⟩ (csI cs0) (Nat.le_of_ble_eq_true rfl) (con_X1_takenFrom a0 a3 a1 h _ hV) rfl (kI (k := 0) (n := 0) (fun r1 h1 hV => ?_))
      refine r_iadd hC dX1_takenInAll_17 ?_
      refine r_istore_n (lo1 := [some (rv a0), some (.int a1), some (.int (a2 + r1)), some (.int a3)]) hC dX1_takenInAll_18 (Nat.le_of_ble_eq_true rfl) rfl ?_
      refine r_iinc (v := 1) (lo1 := [some (rv a0), some (.int a1), some (.int (a2 + r1)), some (.int (a3 + 1))]) hC dX1_takenInAll_19 rfl (by decide) rfl ?_
      refine r_goto (tgt := 4) hC dX1_takenInAll_22 (by decide) ?_
      exact ih a0 a1 (a2 + r1) (a3 + 1) h1 hV
set_option maxRecDepth 100000 in
set_option maxHeartbeats 4000000 in
theorem ok_X1_takenInAll_0 {E : Ev} {X : Xt} {l0 : Launch} {K : Int32 → Hp → Prop} (hC : Cx E X l0 RX1 cX1_takenInAll 4 rm_X1_takenInAll) (hQ : CQ E X "takenInAll" (some .int) rm_X1_takenInAll (KI K)) (a0 : Nat) (a1 : Int32) (h : Hp) (hV : V_X1_takenInAll a0 a1 h K) : WW E X h 0 0 0 [some (rv a0), some (.int a1), none, none] [] := by
  unfold V_X1_takenInAll at hV
  refine r_iconst (v := 0) hC dX1_takenInAll_0 (by decide) ?_
  refine r_istore_n (lo1 := [some (rv a0), some (.int a1), some (.int 0), none]) hC dX1_takenInAll_1 (Nat.le_of_ble_eq_true rfl) rfl ?_
  refine r_iconst (v := 0) hC dX1_takenInAll_2 (by decide) ?_
  refine r_istore_n (lo1 := [some (rv a0), some (.int a1), some (.int 0), some (.int 0)]) hC dX1_takenInAll_3 (Nat.le_of_ble_eq_true rfl) rfl ?_
  obtain ⟨n9, hV⟩ := hV
  exact ok_X1_takenInAll_4 hC hQ n9 a0 a1 0 0 h hV
set_option maxRecDepth 100000 in
set_option maxHeartbeats 4000000 in
theorem con_X1_takenInAll {E : Ev} {l0 : Launch} (a0 : Nat) (a1 : Int32) (h : Hp) (K : Int32 → Hp → Prop) (hV : V_X1_takenInAll a0 a1 h K) : Con E l0 yX1_takenInAll cX1_takenInAll 4 (some .int) rm_X1_takenInAll [rv a0, .int a1] h (KI K) := by
  refine Con.of (by decide +kernel) (cat_R (cat_I cat_nil)) (Nat.le_of_ble_eq_true rfl) (fun X hC hQ => ?_)
  refine r_sub (lo1 := [some (rv a0), some (.int a1), none, none]) (show lsub [some (rv a0), some (.int a1), none, none] _ from ⟨Or.inr rfl, ⟨Or.inr rfl, ⟨Or.inr rfl, ⟨Or.inr rfl, trivial⟩⟩⟩⟩) ?_
  exact ok_X1_takenInAll_0 hC hQ a0 a1 h hV
theorem dX6_widthOf_0 : decode cX6_widthOf 0 = .ok (.iload_n 0, 1) := by decide +kernel
theorem dX6_widthOf_1 : decode cX6_widthOf 1 = .ok (.tableswitch 33 26 28 #[27, 29, 31], 27) := by decide +kernel
theorem dX6_widthOf_28 : decode cX6_widthOf 28 = .ok (.iconst 4, 1) := by decide +kernel
theorem dX6_widthOf_29 : decode cX6_widthOf 29 = .ok (.ireturn, 1) := by decide +kernel
theorem dX6_widthOf_30 : decode cX6_widthOf 30 = .ok (.iconst 2, 1) := by decide +kernel
theorem dX6_widthOf_31 : decode cX6_widthOf 31 = .ok (.ireturn, 1) := by decide +kernel
theorem dX6_widthOf_32 : decode cX6_widthOf 32 = .ok (.iconst 1, 1) := by decide +kernel
theorem dX6_widthOf_33 : decode cX6_widthOf 33 = .ok (.ireturn, 1) := by decide +kernel
theorem dX6_widthOf_34 : decode cX6_widthOf 34 = .ok (.iconst 2, 1) := by decide +kernel
theorem dX6_widthOf_35 : decode cX6_widthOf 35 = .ok (.iload_n 0, 1) := by decide +kernel
theorem dX6_widthOf_36 : decode cX6_widthOf 36 = .ok (.iconst 5, 1) := by decide +kernel
theorem dX6_widthOf_37 : decode cX6_widthOf 37 = .ok (.irem, 1) := by decide +kernel
theorem dX6_widthOf_38 : decode cX6_widthOf 38 = .ok (.iadd, 1) := by decide +kernel
theorem dX6_widthOf_39 : decode cX6_widthOf 39 = .ok (.ireturn, 1) := by decide +kernel
def rm_X6_widthOf : Room := { frames := 0, cells := 0, slots := 0, locals := 0 }
set_option maxRecDepth 100000 in
set_option maxHeartbeats 4000000 in
theorem ok_X6_widthOf_0 {E : Ev} {X : Xt} {l0 : Launch} {K : Int32 → Hp → Prop} (hC : Cx E X l0 RX6 cX6_widthOf 1 rm_X6_widthOf) (hQ : CQ E X "widthOf" (some .int) rm_X6_widthOf (KI K)) (a0 : Int32) (h : Hp) (hV : V_X6_widthOf a0 h K) : WW E X h 0 0 0 [some (.int a0)] [] := by
  unfold V_X6_widthOf at hV
  refine r_iload_n hC dX6_widthOf_0 rfl ?_
  rcases (show a0.toInt = 26 ∨ a0.toInt = 27 ∨ a0.toInt = 28 ∨ (a0.toInt < 26 ∨ 28 < a0.toInt) by omega) with k9 | k9 | k9 | k9
  · replace hV := hV.1 k9
    refine r_tabIn (tgt := 28) hC dX6_widthOf_1 0 (by omega) (by decide) rfl (by decide) ?_
    refine r_iconst (v := 4) hC dX6_widthOf_28 (by decide) ?_
    exact r_iret hC hQ dX6_widthOf_29 (Nat.le_of_ble_eq_true rfl) (Nat.le_of_ble_eq_true rfl) ⟨_, rfl, hV⟩
  · replace hV := hV.2.1 k9
    refine r_tabIn (tgt := 30) hC dX6_widthOf_1 1 (by omega) (by decide) rfl (by decide) ?_
    refine r_iconst (v := 2) hC dX6_widthOf_30 (by decide) ?_
    exact r_iret hC hQ dX6_widthOf_31 (Nat.le_of_ble_eq_true rfl) (Nat.le_of_ble_eq_true rfl) ⟨_, rfl, hV⟩
  · replace hV := hV.2.2.1 k9
    refine r_tabIn (tgt := 32) hC dX6_widthOf_1 2 (by omega) (by decide) rfl (by decide) ?_
    refine r_iconst (v := 1) hC dX6_widthOf_32 (by decide) ?_
    exact r_iret hC hQ dX6_widthOf_33 (Nat.le_of_ble_eq_true rfl) (Nat.le_of_ble_eq_true rfl) ⟨_, rfl, hV⟩
  · replace hV := hV.2.2.2 k9
    refine r_tabOut (tgt := 34) hC dX6_widthOf_1 k9 (by decide) ?_
    refine r_iconst (v := 2) hC dX6_widthOf_34 (by decide) ?_
    refine r_iload_n hC dX6_widthOf_35 rfl ?_
    refine r_iconst (v := 5) hC dX6_widthOf_36 (by decide) ?_
    refine r_irem hC dX6_widthOf_37 (by decide) ?_
    refine r_iadd hC dX6_widthOf_38 ?_
    exact r_iret hC hQ dX6_widthOf_39 (Nat.le_of_ble_eq_true rfl) (Nat.le_of_ble_eq_true rfl) ⟨_, rfl, hV⟩
set_option maxRecDepth 100000 in
set_option maxHeartbeats 4000000 in
theorem con_X6_widthOf {E : Ev} {l0 : Launch} (a0 : Int32) (h : Hp) (K : Int32 → Hp → Prop) (hV : V_X6_widthOf a0 h K) : Con E l0 yX6_widthOf cX6_widthOf 1 (some .int) rm_X6_widthOf [.int a0] h (KI K) := by
  refine Con.of (by decide +kernel) (cat_I cat_nil) (Nat.le_of_ble_eq_true rfl) (fun X hC hQ => ?_)
  refine r_sub (lo1 := [some (.int a0)]) (show lsub [some (.int a0)] _ from ⟨Or.inr rfl, trivial⟩) ?_
  exact ok_X6_widthOf_0 hC hQ a0 h hV
theorem dX1_formeMetal_0 : decode cX1_formeMetal 0 = .ok (.iconst 0, 1) := by decide +kernel
theorem dX1_formeMetal_1 : decode cX1_formeMetal 1 = .ok (.istore_n 1, 1) := by decide +kernel
theorem dX1_formeMetal_2 : decode cX1_formeMetal 2 = .ok (.iconst 0, 1) := by decide +kernel
theorem dX1_formeMetal_3 : decode cX1_formeMetal 3 = .ok (.istore_n 2, 1) := by decide +kernel
theorem dX1_formeMetal_4 : decode cX1_formeMetal 4 = .ok (.iload_n 2, 1) := by decide +kernel
theorem dX1_formeMetal_5 : decode cX1_formeMetal 5 = .ok (.bipush 29, 2) := by decide +kernel
theorem dX1_formeMetal_7 : decode cX1_formeMetal 7 = .ok (.if_icmp .ge 22, 3) := by decide +kernel
theorem dX1_formeMetal_10 : decode cX1_formeMetal 10 = .ok (.iload_n 1, 1) := by decide +kernel
theorem dX1_formeMetal_11 : decode cX1_formeMetal 11 = .ok (.aload_n 0, 1) := by decide +kernel
theorem dX1_formeMetal_12 : decode cX1_formeMetal 12 = .ok (.iload_n 2, 1) := by decide +kernel
theorem dX1_formeMetal_13 : decode cX1_formeMetal 13 = .ok (.invokevirtual 50, 3) := by decide +kernel
theorem dX1_formeMetal_16 : decode cX1_formeMetal 16 = .ok (.iload_n 2, 1) := by decide +kernel
theorem dX1_formeMetal_17 : decode cX1_formeMetal 17 = .ok (.invokestatic 54, 3) := by decide +kernel
theorem dX1_formeMetal_20 : decode cX1_formeMetal 20 = .ok (.imul, 1) := by decide +kernel
theorem dX1_formeMetal_21 : decode cX1_formeMetal 21 = .ok (.iadd, 1) := by decide +kernel
theorem dX1_formeMetal_22 : decode cX1_formeMetal 22 = .ok (.istore_n 1, 1) := by decide +kernel
theorem dX1_formeMetal_23 : decode cX1_formeMetal 23 = .ok (.iinc 2 1, 3) := by decide +kernel
theorem dX1_formeMetal_26 : decode cX1_formeMetal 26 = .ok (.goto (-22), 3) := by decide +kernel
theorem dX1_formeMetal_29 : decode cX1_formeMetal 29 = .ok (.iload_n 1, 1) := by decide +kernel
theorem dX1_formeMetal_30 : decode cX1_formeMetal 30 = .ok (.ireturn, 1) := by decide +kernel
def rm_X1_formeMetal : Room := { frames := 3, cells := 0, slots := 0, locals := 67 }
set_option maxRecDepth 100000 in
set_option maxHeartbeats 4000000 in
theorem ok_X1_formeMetal_4 {E : Ev} {X : Xt} {l0 : Launch} {K : Int32 → Hp → Prop} (hC : Cx E X l0 RX1 cX1_formeMetal 3 rm_X1_formeMetal) (hQ : CQ E X "formeMetal" (some .int) rm_X1_formeMetal (KI K)) : ∀ (n : Nat) (a0 : Nat) (a1 : Int32) (a2 : Int32) (h : Hp), V_X1_formeMetal_4 K n a0 a1 a2 h → WW E X h 0 0 4 [some (rv a0), some (.int a1), some (.int a2)] [] := by
  intro n
  induction n with
  | zero => intro a0 a1 a2 h hV; exact hV.elim
  | succ n ih =>
    intro a0 a1 a2 h hV
    unfold V_X1_formeMetal_4 at hV
    refine r_iload_n hC dX1_formeMetal_4 rfl ?_
    refine r_bipush (v := 29) hC dX1_formeMetal_5 (by decide) ?_
    refine r_icmp_ge (tgt := 29) hC dX1_formeMetal_7 (by decide) (fun k9 => ?_) (fun k9 => ?_)
    · replace hV := hV.1 k9
      refine r_iload_n hC dX1_formeMetal_29 rfl ?_
      exact r_iret hC hQ dX1_formeMetal_30 (Nat.le_of_ble_eq_true rfl) (Nat.le_of_ble_eq_true rfl) ⟨_, rfl, hV⟩
    · replace hV := hV.2 k9
      refine r_iload_n hC dX1_formeMetal_10 rfl ?_
      refine r_aload_n hC dX1_formeMetal_11 rfl ?_
      refine r_iload_n hC dX1_formeMetal_12 rfl ?_
      obtain ⟨k9, hV⟩ := hV
      refine r_callV (ci := 1) (As := [.int a2]) hC dX1_formeMetal_13 rfl cf_X1_takenInAll ml_1_50 im_X1_takenInAll sl_X1_takenInAll lq_1 rfl rfl k9 rfl ⟨Nat.le_of_ble_eq_true rfl, Nat.le_of_ble_eq_true rfl, Nat.le_of_ble_eq_true rfl, Nat.le_of_ble_eq_true rfl⟩ (csI cs0) (Nat.le_of_ble_eq_true rfl) (con_X1_takenInAll a0 a2 h _ hV) rfl (kI (k := 0) (n := 0) (fun r1 h1 hV => ?_))
      refine r_iload_n hC dX1_formeMetal_16 rfl ?_
      refine r_callSN (As := [.int a2]) hC dX1_formeMetal_17 rfl cf_X6_widthOf nl_1_54 st_X6_widthOf rfl ⟨Nat.le_of_ble_eq_true rfl, Nat.le_of_ble_eq_true rfl, Nat.le_of_ble_eq_true rfl, Nat.le_of_ble_eq_true rfl⟩ (csI (csI cs0)) (Nat.le_of_ble_eq_true rfl) (con_X6_widthOf a2 h1 _ hV) rfl (kI (k := 0) (n := 0) (fun r2 h2 hV => ?_))
      refine r_imul hC dX1_formeMetal_20 ?_
      refine r_iadd hC dX1_formeMetal_21 ?_
      refine r_istore_n (lo1 := [some (rv a0), some (.int (a1 + (r1 * r2))), some (.int a2)]) hC dX1_formeMetal_22 (Nat.le_of_ble_eq_true rfl) rfl ?_
      refine r_iinc (v := 1) (lo1 := [some (rv a0), some (.int (a1 + (r1 * r2))), some (.int (a2 + 1))]) hC dX1_formeMetal_23 rfl (by decide) rfl ?_
      refine r_goto (tgt := 4) hC dX1_formeMetal_26 (by decide) ?_
      exact ih a0 (a1 + (r1 * r2)) (a2 + 1) h2 hV
set_option maxRecDepth 100000 in
set_option maxHeartbeats 4000000 in
theorem ok_X1_formeMetal_0 {E : Ev} {X : Xt} {l0 : Launch} {K : Int32 → Hp → Prop} (hC : Cx E X l0 RX1 cX1_formeMetal 3 rm_X1_formeMetal) (hQ : CQ E X "formeMetal" (some .int) rm_X1_formeMetal (KI K)) (a0 : Nat) (h : Hp) (hV : V_X1_formeMetal a0 h K) : WW E X h 0 0 0 [some (rv a0), none, none] [] := by
  unfold V_X1_formeMetal at hV
  refine r_iconst (v := 0) hC dX1_formeMetal_0 (by decide) ?_
  refine r_istore_n (lo1 := [some (rv a0), some (.int 0), none]) hC dX1_formeMetal_1 (Nat.le_of_ble_eq_true rfl) rfl ?_
  refine r_iconst (v := 0) hC dX1_formeMetal_2 (by decide) ?_
  refine r_istore_n (lo1 := [some (rv a0), some (.int 0), some (.int 0)]) hC dX1_formeMetal_3 (Nat.le_of_ble_eq_true rfl) rfl ?_
  obtain ⟨n9, hV⟩ := hV
  exact ok_X1_formeMetal_4 hC hQ n9 a0 0 0 h hV
set_option maxRecDepth 100000 in
set_option maxHeartbeats 4000000 in
theorem con_X1_formeMetal {E : Ev} {l0 : Launch} (a0 : Nat) (h : Hp) (K : Int32 → Hp → Prop) (hV : V_X1_formeMetal a0 h K) : Con E l0 yX1_formeMetal cX1_formeMetal 3 (some .int) rm_X1_formeMetal [rv a0] h (KI K) := by
  refine Con.of (by decide +kernel) (cat_R cat_nil) (Nat.le_of_ble_eq_true rfl) (fun X hC hQ => ?_)
  refine r_sub (lo1 := [some (rv a0), none, none]) (show lsub [some (rv a0), none, none] _ from ⟨Or.inr rfl, ⟨Or.inr rfl, ⟨Or.inr rfl, trivial⟩⟩⟩) ?_
  exact ok_X1_formeMetal_0 hC hQ a0 h hV
theorem dX1_hasForme_0 : decode cX1_hasForme 0 = .ok (.aload_n 0, 1) := by decide +kernel
theorem dX1_hasForme_1 : decode cX1_hasForme 1 = .ok (.getfield 15, 3) := by decide +kernel
theorem dX1_hasForme_4 : decode cX1_hasForme 4 = .ok (.iconst 1, 1) := by decide +kernel
theorem dX1_hasForme_5 : decode cX1_hasForme 5 = .ok (.if_icmp .eq 11, 3) := by decide +kernel
theorem dX1_hasForme_8 : decode cX1_hasForme 8 = .ok (.aload_n 0, 1) := by decide +kernel
theorem dX1_hasForme_9 : decode cX1_hasForme 9 = .ok (.getfield 15, 3) := by decide +kernel
theorem dX1_hasForme_12 : decode cX1_hasForme 12 = .ok (.iconst 2, 1) := by decide +kernel
theorem dX1_hasForme_13 : decode cX1_hasForme 13 = .ok (.if_icmp .ne 7, 3) := by decide +kernel
theorem dX1_hasForme_16 : decode cX1_hasForme 16 = .ok (.iconst 1, 1) := by decide +kernel
theorem dX1_hasForme_17 : decode cX1_hasForme 17 = .ok (.goto 4, 3) := by decide +kernel
theorem dX1_hasForme_20 : decode cX1_hasForme 20 = .ok (.iconst 0, 1) := by decide +kernel
theorem dX1_hasForme_21 : decode cX1_hasForme 21 = .ok (.ireturn, 1) := by decide +kernel
def rm_X1_hasForme : Room := { frames := 0, cells := 0, slots := 0, locals := 0 }
set_option maxRecDepth 100000 in
set_option maxHeartbeats 4000000 in
theorem ok_X1_hasForme_21 {E : Ev} {X : Xt} {l0 : Launch} {K : Int32 → Hp → Prop} (hC : Cx E X l0 RX1 cX1_hasForme 1 rm_X1_hasForme) (hQ : CQ E X "hasForme" (some .boolean) rm_X1_hasForme (KI K)) (s0 : Int32) (h : Hp) (hV : V_X1_hasForme_21 K s0 h) : WW E X h 0 0 21 [none] [.int s0] := by
  unfold V_X1_hasForme_21 at hV
  exact r_zret hC hQ dX1_hasForme_21 (Nat.le_of_ble_eq_true rfl) (Nat.le_of_ble_eq_true rfl) hV.1 ⟨_, rfl, hV.2⟩
set_option maxRecDepth 100000 in
set_option maxHeartbeats 4000000 in
theorem ok_X1_hasForme_16 {E : Ev} {X : Xt} {l0 : Launch} {K : Int32 → Hp → Prop} (hC : Cx E X l0 RX1 cX1_hasForme 1 rm_X1_hasForme) (hQ : CQ E X "hasForme" (some .boolean) rm_X1_hasForme (KI K)) (h : Hp) (hV : V_X1_hasForme_16 K  h) : WW E X h 0 0 16 [none] [] := by
  unfold V_X1_hasForme_16 at hV
  refine r_iconst (v := 1) hC dX1_hasForme_16 (by decide) ?_
  refine r_goto (tgt := 21) hC dX1_hasForme_17 (by decide) ?_
  exact ok_X1_hasForme_21 hC hQ 1 h hV
set_option maxRecDepth 100000 in
set_option maxHeartbeats 4000000 in
theorem ok_X1_hasForme_0 {E : Ev} {X : Xt} {l0 : Launch} {K : Int32 → Hp → Prop} (hC : Cx E X l0 RX1 cX1_hasForme 1 rm_X1_hasForme) (hQ : CQ E X "hasForme" (some .boolean) rm_X1_hasForme (KI K)) (a0 : Nat) (h : Hp) (hV : V_X1_hasForme a0 h K) : WW E X h 0 0 0 [some (rv a0)] [] := by
  unfold V_X1_hasForme at hV
  refine r_aload_n hC dX1_hasForme_0 rfl ?_
  obtain ⟨k9, hV⟩ := hV
  refine r_getI hC dX1_hasForme_1 fl_1_15 rf_1_1 lq_1 k9 ?_
  refine r_iconst (v := 1) hC dX1_hasForme_4 (by decide) ?_
  refine r_icmp_eq (tgt := 16) hC dX1_hasForme_5 (by decide) (fun k9 => ?_) (fun k9 => ?_)
  · replace hV := hV.1 k9
    refine r_sub (lo1 := [none]) ⟨Or.inl rfl, trivial⟩ ?_
    exact ok_X1_hasForme_16 hC hQ  h hV
  · replace hV := hV.2 k9
    refine r_aload_n hC dX1_hasForme_8 rfl ?_
    obtain ⟨k9, hV⟩ := hV
    refine r_getI hC dX1_hasForme_9 fl_1_15 rf_1_1 lq_1 k9 ?_
    refine r_iconst (v := 2) hC dX1_hasForme_12 (by decide) ?_
    refine r_icmp_ne (tgt := 20) hC dX1_hasForme_13 (by decide) (fun k9 => ?_) (fun k9 => ?_)
    · replace hV := hV.1 k9
      refine r_iconst (v := 0) hC dX1_hasForme_20 (by decide) ?_
      refine r_sub (lo1 := [none]) ⟨Or.inl rfl, trivial⟩ ?_
      exact ok_X1_hasForme_21 hC hQ 0 h hV
    · replace hV := hV.2 k9
      refine r_sub (lo1 := [none]) ⟨Or.inl rfl, trivial⟩ ?_
      exact ok_X1_hasForme_16 hC hQ  h hV
set_option maxRecDepth 100000 in
set_option maxHeartbeats 4000000 in
theorem con_X1_hasForme {E : Ev} {l0 : Launch} (a0 : Nat) (h : Hp) (K : Int32 → Hp → Prop) (hV : V_X1_hasForme a0 h K) : Con E l0 yX1_hasForme cX1_hasForme 1 (some .boolean) rm_X1_hasForme [rv a0] h (KI K) := by
  refine Con.of (by decide +kernel) (cat_R cat_nil) (Nat.le_of_ble_eq_true rfl) (fun X hC hQ => ?_)
  refine r_sub (lo1 := [some (rv a0)]) (show lsub [some (rv a0)] _ from ⟨Or.inr rfl, trivial⟩) ?_
  exact ok_X1_hasForme_0 hC hQ a0 h hV
theorem dX1_init_0 : decode cX1_init 0 = .ok (.aload_n 0, 1) := by decide +kernel
theorem dX1_init_1 : decode cX1_init 1 = .ok (.invokespecial 3, 3) := by decide +kernel
theorem dX1_init_4 : decode cX1_init 4 = .ok (.aload_n 0, 1) := by decide +kernel
theorem dX1_init_5 : decode cX1_init 5 = .ok (.aload_n 1, 1) := by decide +kernel
theorem dX1_init_6 : decode cX1_init 6 = .ok (.putfield 9, 3) := by decide +kernel
theorem dX1_init_9 : decode cX1_init 9 = .ok (.aload_n 0, 1) := by decide +kernel
theorem dX1_init_10 : decode cX1_init 10 = .ok (.iload_n 2, 1) := by decide +kernel
theorem dX1_init_11 : decode cX1_init 11 = .ok (.putfield 15, 3) := by decide +kernel
theorem dX1_init_14 : decode cX1_init 14 = .ok (.aload_n 0, 1) := by decide +kernel
theorem dX1_init_15 : decode cX1_init 15 = .ok (.iload_n 3, 1) := by decide +kernel
theorem dX1_init_16 : decode cX1_init 16 = .ok (.putfield 19, 3) := by decide +kernel
theorem dX1_init_19 : decode cX1_init 19 = .ok (.aload_n 0, 1) := by decide +kernel
theorem dX1_init_20 : decode cX1_init 20 = .ok (.aload 4, 2) := by decide +kernel
theorem dX1_init_22 : decode cX1_init 22 = .ok (.putfield 22, 3) := by decide +kernel
theorem dX1_init_25 : decode cX1_init 25 = .ok (.return_, 1) := by decide +kernel
def rm_X1_init : Room := { frames := 1, cells := 0, slots := 0, locals := 26 }
set_option maxRecDepth 100000 in
set_option maxHeartbeats 4000000 in
theorem ok_X1_init_0 {E : Ev} {X : Xt} {l0 : Launch} {K : Hp → Prop} (hC : Cx E X l0 RX1 cX1_init 5 rm_X1_init) (hQ : CQ E X "<init>" none rm_X1_init (KV K)) (a0 : Nat) (a1 : Nat) (a2 : Int32) (a3 : Int32) (a4 : Nat) (h : Hp) (hV : V_X1_init a0 a1 a2 a3 a4 h K) : WW E X h 0 0 0 [some (rv a0), some (rv a1), some (.int a2), some (.int a3), some (rv a4)] [] := by
  unfold V_X1_init at hV
  refine r_aload_n hC dX1_init_0 rfl ?_
  obtain ⟨k9, hV⟩ := hV
  refine r_obj hC dX1_init_1 rfl ml_1_3 obj_i obj_c k9 cs0 ⟨Nat.le_of_ble_eq_true rfl, Nat.le_of_ble_eq_true rfl⟩ ?_
  refine r_aload_n hC dX1_init_4 rfl ?_
  refine r_aload_n hC dX1_init_5 rfl ?_
  obtain ⟨k9, hV⟩ := hV
  refine r_putFR hC hQ dX1_init_6 fl_1_9 ft_1 rfl rfl rf_1_0 ty_1_0 lq_1 k9 (nmH (fun h1 k9 => ?_))
  replace hV := hV h1 k9
  refine r_aload_n hC dX1_init_9 rfl ?_
  refine r_iload_n hC dX1_init_10 rfl ?_
  obtain ⟨k9, hV⟩ := hV
  refine r_putFI hC hQ dX1_init_11 fl_1_15 ft_1 rfl rfl rf_1_1 ty_1_1 lq_1 k9 (nmH (fun h2 k9 => ?_))
  replace hV := hV h2 k9
  refine r_aload_n hC dX1_init_14 rfl ?_
  refine r_iload_n hC dX1_init_15 rfl ?_
  obtain ⟨k9, hV⟩ := hV
  refine r_putFI hC hQ dX1_init_16 fl_1_19 ft_1 rfl rfl rf_1_2 ty_1_2 lq_1 k9 (nmH (fun h3 k9 => ?_))
  replace hV := hV h3 k9
  refine r_aload_n hC dX1_init_19 rfl ?_
  refine r_aload hC dX1_init_20 rfl ?_
  obtain ⟨k9, hV⟩ := hV
  refine r_putFR hC hQ dX1_init_22 fl_1_22 ft_1 rfl rfl rf_1_3 ty_1_3 lq_1 k9 (nmH (fun h4 k9 => ?_))
  replace hV := hV h4 k9
  exact r_vret hC hQ dX1_init_25 (Nat.le_of_ble_eq_true rfl) (Nat.le_of_ble_eq_true rfl) ⟨rfl, hV⟩
set_option maxRecDepth 100000 in
set_option maxHeartbeats 4000000 in
theorem con_X1_init {E : Ev} {l0 : Launch} (a0 : Nat) (a1 : Nat) (a2 : Int32) (a3 : Int32) (a4 : Nat) (h : Hp) (K : Hp → Prop) (hV : V_X1_init a0 a1 a2 a3 a4 h K) : Con E l0 yX1_init cX1_init 5 none rm_X1_init [rv a0, rv a1, .int a2, .int a3, rv a4] h (KV K) := by
  refine Con.of (by decide +kernel) (cat_R (cat_R (cat_I (cat_I (cat_R cat_nil))))) (Nat.le_of_ble_eq_true rfl) (fun X hC hQ => ?_)
  refine r_sub (lo1 := [some (rv a0), some (rv a1), some (.int a2), some (.int a3), some (rv a4)]) (show lsub [some (rv a0), some (rv a1), some (.int a2), some (.int a3), some (rv a4)] _ from ⟨Or.inr rfl, ⟨Or.inr rfl, ⟨Or.inr rfl, ⟨Or.inr rfl, ⟨Or.inr rfl, trivial⟩⟩⟩⟩⟩) ?_
  exact ok_X1_init_0 hC hQ a0 a1 a2 a3 a4 h hV
theorem dX1_isOpen_0 : decode cX1_isOpen 0 = .ok (.aload_n 0, 1) := by decide +kernel
theorem dX1_isOpen_1 : decode cX1_isOpen 1 = .ok (.getfield 15, 3) := by decide +kernel
theorem dX1_isOpen_4 : decode cX1_isOpen 4 = .ok (.ifCond .eq 11, 3) := by decide +kernel
theorem dX1_isOpen_7 : decode cX1_isOpen 7 = .ok (.aload_n 0, 1) := by decide +kernel
theorem dX1_isOpen_8 : decode cX1_isOpen 8 = .ok (.getfield 15, 3) := by decide +kernel
theorem dX1_isOpen_11 : decode cX1_isOpen 11 = .ok (.iconst 1, 1) := by decide +kernel
theorem dX1_isOpen_12 : decode cX1_isOpen 12 = .ok (.if_icmp .ne 7, 3) := by decide +kernel
theorem dX1_isOpen_15 : decode cX1_isOpen 15 = .ok (.iconst 1, 1) := by decide +kernel
theorem dX1_isOpen_16 : decode cX1_isOpen 16 = .ok (.goto 4, 3) := by decide +kernel
theorem dX1_isOpen_19 : decode cX1_isOpen 19 = .ok (.iconst 0, 1) := by decide +kernel
theorem dX1_isOpen_20 : decode cX1_isOpen 20 = .ok (.ireturn, 1) := by decide +kernel
def rm_X1_isOpen : Room := { frames := 0, cells := 0, slots := 0, locals := 0 }
set_option maxRecDepth 100000 in
set_option maxHeartbeats 4000000 in
theorem ok_X1_isOpen_20 {E : Ev} {X : Xt} {l0 : Launch} {K : Int32 → Hp → Prop} (hC : Cx E X l0 RX1 cX1_isOpen 1 rm_X1_isOpen) (hQ : CQ E X "isOpen" (some .boolean) rm_X1_isOpen (KI K)) (s0 : Int32) (h : Hp) (hV : V_X1_isOpen_20 K s0 h) : WW E X h 0 0 20 [none] [.int s0] := by
  unfold V_X1_isOpen_20 at hV
  exact r_zret hC hQ dX1_isOpen_20 (Nat.le_of_ble_eq_true rfl) (Nat.le_of_ble_eq_true rfl) hV.1 ⟨_, rfl, hV.2⟩
set_option maxRecDepth 100000 in
set_option maxHeartbeats 4000000 in
theorem ok_X1_isOpen_15 {E : Ev} {X : Xt} {l0 : Launch} {K : Int32 → Hp → Prop} (hC : Cx E X l0 RX1 cX1_isOpen 1 rm_X1_isOpen) (hQ : CQ E X "isOpen" (some .boolean) rm_X1_isOpen (KI K)) (h : Hp) (hV : V_X1_isOpen_15 K  h) : WW E X h 0 0 15 [none] [] := by
  unfold V_X1_isOpen_15 at hV
  refine r_iconst (v := 1) hC dX1_isOpen_15 (by decide) ?_
  refine r_goto (tgt := 20) hC dX1_isOpen_16 (by decide) ?_
  exact ok_X1_isOpen_20 hC hQ 1 h hV
set_option maxRecDepth 100000 in
set_option maxHeartbeats 4000000 in
theorem ok_X1_isOpen_0 {E : Ev} {X : Xt} {l0 : Launch} {K : Int32 → Hp → Prop} (hC : Cx E X l0 RX1 cX1_isOpen 1 rm_X1_isOpen) (hQ : CQ E X "isOpen" (some .boolean) rm_X1_isOpen (KI K)) (a0 : Nat) (h : Hp) (hV : V_X1_isOpen a0 h K) : WW E X h 0 0 0 [some (rv a0)] [] := by
  unfold V_X1_isOpen at hV
  refine r_aload_n hC dX1_isOpen_0 rfl ?_
  obtain ⟨k9, hV⟩ := hV
  refine r_getI hC dX1_isOpen_1 fl_1_15 rf_1_1 lq_1 k9 ?_
  refine r_if_eq (tgt := 15) hC dX1_isOpen_4 (by decide) (fun k9 => ?_) (fun k9 => ?_)
  · replace hV := hV.1 k9
    refine r_sub (lo1 := [none]) ⟨Or.inl rfl, trivial⟩ ?_
    exact ok_X1_isOpen_15 hC hQ  h hV
  · replace hV := hV.2 k9
    refine r_aload_n hC dX1_isOpen_7 rfl ?_
    obtain ⟨k9, hV⟩ := hV
    refine r_getI hC dX1_isOpen_8 fl_1_15 rf_1_1 lq_1 k9 ?_
    refine r_iconst (v := 1) hC dX1_isOpen_11 (by decide) ?_
    refine r_icmp_ne (tgt := 19) hC dX1_isOpen_12 (by decide) (fun k9 => ?_) (fun k9 => ?_)
    · replace hV := hV.1 k9
      refine r_iconst (v := 0) hC dX1_isOpen_19 (by decide) ?_
      refine r_sub (lo1 := [none]) ⟨Or.inl rfl, trivial⟩ ?_
      exact ok_X1_isOpen_20 hC hQ 0 h hV
    · replace hV := hV.2 k9
      refine r_sub (lo1 := [none]) ⟨Or.inl rfl, trivial⟩ ?_
      exact ok_X1_isOpen_15 hC hQ  h hV
set_option maxRecDepth 100000 in
set_option maxHeartbeats 4000000 in
theorem con_X1_isOpen {E : Ev} {l0 : Launch} (a0 : Nat) (h : Hp) (K : Int32 → Hp → Prop) (hV : V_X1_isOpen a0 h K) : Con E l0 yX1_isOpen cX1_isOpen 1 (some .boolean) rm_X1_isOpen [rv a0] h (KI K) := by
  refine Con.of (by decide +kernel) (cat_R cat_nil) (Nat.le_of_ble_eq_true rfl) (fun X hC hQ => ?_)
  refine r_sub (lo1 := [some (rv a0)]) (show lsub [some (rv a0)] _ from ⟨Or.inr rfl, trivial⟩) ?_
  exact ok_X1_isOpen_0 hC hQ a0 h hV
theorem dX2_addGaps_0 : decode cX2_addGaps 0 = .ok (.iload_n 2, 1) := by decide +kernel
theorem dX2_addGaps_1 : decode cX2_addGaps 1 = .ok (.iconst 1, 1) := by decide +kernel
theorem dX2_addGaps_2 : decode cX2_addGaps 2 = .ok (.if_icmp .ge 4, 3) := by decide +kernel
theorem dX2_addGaps_5 : decode cX2_addGaps 5 = .ok (.return_, 1) := by decide +kernel
theorem dX2_addGaps_6 : decode cX2_addGaps 6 = .ok (.iconst 0, 1) := by decide +kernel
theorem dX2_addGaps_7 : decode cX2_addGaps 7 = .ok (.istore_n 3, 1) := by decide +kernel
theorem dX2_addGaps_8 : decode cX2_addGaps 8 = .ok (.iload_n 3, 1) := by decide +kernel
theorem dX2_addGaps_9 : decode cX2_addGaps 9 = .ok (.iload_n 2, 1) := by decide +kernel
theorem dX2_addGaps_10 : decode cX2_addGaps 10 = .ok (.if_icmp .ge 56, 3) := by decide +kernel
theorem dX2_addGaps_13 : decode cX2_addGaps 13 = .ok (.aload_n 0, 1) := by decide +kernel
theorem dX2_addGaps_14 : decode cX2_addGaps 14 = .ok (.getfield 35, 3) := by decide +kernel
theorem dX2_addGaps_17 : decode cX2_addGaps 17 = .ok (.aload_n 0, 1) := by decide +kernel
theorem dX2_addGaps_18 : decode cX2_addGaps 18 = .ok (.getfield 25, 3) := by decide +kernel
theorem dX2_addGaps_21 : decode cX2_addGaps 21 = .ok (.arraylength, 1) := by decide +kernel
theorem dX2_addGaps_22 : decode cX2_addGaps 22 = .ok (.if_icmp .ge 44, 3) := by decide +kernel
theorem dX2_addGaps_25 : decode cX2_addGaps 25 = .ok (.aload_n 0, 1) := by decide +kernel
theorem dX2_addGaps_26 : decode cX2_addGaps 26 = .ok (.getfield 25, 3) := by decide +kernel
theorem dX2_addGaps_29 : decode cX2_addGaps 29 = .ok (.aload_n 0, 1) := by decide +kernel
theorem dX2_addGaps_30 : decode cX2_addGaps 30 = .ok (.getfield 35, 3) := by decide +kernel
theorem dX2_addGaps_33 : decode cX2_addGaps 33 = .ok (.iload_n 1, 1) := by decide +kernel
theorem dX2_addGaps_34 : decode cX2_addGaps 34 = .ok (.iload_n 2, 1) := by decide +kernel
theorem dX2_addGaps_35 : decode cX2_addGaps 35 = .ok (.idiv, 1) := by decide +kernel
theorem dX2_addGaps_36 : decode cX2_addGaps 36 = .ok (.iload_n 3, 1) := by decide +kernel
theorem dX2_addGaps_37 : decode cX2_addGaps 37 = .ok (.iload_n 1, 1) := by decide +kernel
theorem dX2_addGaps_38 : decode cX2_addGaps 38 = .ok (.iload_n 2, 1) := by decide +kernel
theorem dX2_addGaps_39 : decode cX2_addGaps 39 = .ok (.irem, 1) := by decide +kernel
theorem dX2_addGaps_40 : decode cX2_addGaps 40 = .ok (.if_icmp .ge 7, 3) := by decide +kernel
theorem dX2_addGaps_43 : decode cX2_addGaps 43 = .ok (.iconst 1, 1) := by decide +kernel
theorem dX2_addGaps_44 : decode cX2_addGaps 44 = .ok (.goto 4, 3) := by decide +kernel
theorem dX2_addGaps_47 : decode cX2_addGaps 47 = .ok (.iconst 0, 1) := by decide +kernel
theorem dX2_addGaps_48 : decode cX2_addGaps 48 = .ok (.iadd, 1) := by decide +kernel
theorem dX2_addGaps_49 : decode cX2_addGaps 49 = .ok (.iastore, 1) := by decide +kernel
theorem dX2_addGaps_50 : decode cX2_addGaps 50 = .ok (.aload_n 0, 1) := by decide +kernel
theorem dX2_addGaps_51 : decode cX2_addGaps 51 = .ok (.dup, 1) := by decide +kernel
theorem dX2_addGaps_52 : decode cX2_addGaps 52 = .ok (.getfield 35, 3) := by decide +kernel
theorem dX2_addGaps_55 : decode cX2_addGaps 55 = .ok (.iconst 1, 1) := by decide +kernel
theorem dX2_addGaps_56 : decode cX2_addGaps 56 = .ok (.iadd, 1) := by decide +kernel
theorem dX2_addGaps_57 : decode cX2_addGaps 57 = .ok (.putfield 35, 3) := by decide +kernel
theorem dX2_addGaps_60 : decode cX2_addGaps 60 = .ok (.iinc 3 1, 3) := by decide +kernel
theorem dX2_addGaps_63 : decode cX2_addGaps 63 = .ok (.goto (-55), 3) := by decide +kernel
theorem dX2_addGaps_66 : decode cX2_addGaps 66 = .ok (.return_, 1) := by decide +kernel
def rm_X2_addGaps : Room := { frames := 0, cells := 0, slots := 0, locals := 0 }
set_option maxRecDepth 100000 in
set_option maxHeartbeats 4000000 in
theorem ok_X2_addGaps_48 {E : Ev} {X : Xt} {l0 : Launch} {K : Hp → Prop} {C8 : Nat → Int32 → Int32 → Int32 → Hp → Prop} (hC : Cx E X l0 RX2 cX2_addGaps 4 rm_X2_addGaps) (hQ : CQ E X "addGaps" none rm_X2_addGaps (KV K)) (hC8 : ∀ (a0 : Nat) (a1 : Int32) (a2 : Int32) (a3 : Int32) (h : Hp), C8 a0 a1 a2 a3 h → WW E X h 0 0 8 [some (rv a0), some (.int a1), some (.int a2), some (.int a3)] []) (a0 : Nat) (a1 : Int32) (a2 : Int32) (a3 : Int32) (s0 : Nat) (s1 : Int32) (s2 : Int32) (s3 : Int32) (h : Hp) (hV : V_X2_addGaps_48 K C8 a0 a1 a2 a3 s0 s1 s2 s3 h) : WW E X h 0 0 48 [some (rv a0), some (.int a1), some (.int a2), some (.int a3)] [.int s3, .int s2, .int s1, rv s0] := by
  unfold V_X2_addGaps_48 at hV
  refine r_iadd hC dX2_addGaps_48 ?_
  obtain ⟨k9, k8, hV⟩ := hV
  refine r_iast (kd := 20) hC dX2_addGaps_49 (by decide) rfl k9 k8 (nmH (fun h1 k9 => ?_))
  replace hV := hV h1 k9
  refine r_aload_n hC dX2_addGaps_50 rfl ?_
  refine r_dup hC dX2_addGaps_51 (rv_cat _) ?_
  obtain ⟨k9, hV⟩ := hV
  refine r_getI hC dX2_addGaps_52 fl_2_35 rf_2_7 lq_2 k9 ?_
  refine r_iconst (v := 1) hC dX2_addGaps_55 (by decide) ?_
  refine r_iadd hC dX2_addGaps_56 ?_
  obtain ⟨k9, hV⟩ := hV
  refine r_putI hC dX2_addGaps_57 fl_2_35 ft_2 rfl rf_2_7 ty_2_7 lq_2 k9 (nmH (fun h2 k9 => ?_))
  replace hV := hV h2 k9
  refine r_iinc (v := 1) (lo1 := [some (rv a0), some (.int a1), some (.int a2), some (.int (a3 + 1))]) hC dX2_addGaps_60 rfl (by decide) rfl ?_
  refine r_goto (tgt := 8) hC dX2_addGaps_63 (by decide) ?_
  exact hC8 a0 a1 a2 (a3 + 1) h2 hV
set_option maxRecDepth 100000 in
set_option maxHeartbeats 4000000 in
theorem ok_X2_addGaps_66 {E : Ev} {X : Xt} {l0 : Launch} {K : Hp → Prop} (hC : Cx E X l0 RX2 cX2_addGaps 4 rm_X2_addGaps) (hQ : CQ E X "addGaps" none rm_X2_addGaps (KV K)) (h : Hp) (hV : V_X2_addGaps_66 K  h) : WW E X h 0 0 66 [none, none, none, none] [] := by
  unfold V_X2_addGaps_66 at hV
  exact r_vret hC hQ dX2_addGaps_66 (Nat.le_of_ble_eq_true rfl) (Nat.le_of_ble_eq_true rfl) ⟨rfl, hV⟩
set_option maxRecDepth 100000 in
set_option maxHeartbeats 4000000 in
theorem ok_X2_addGaps_8 {E : Ev} {X : Xt} {l0 : Launch} {K : Hp → Prop} (hC : Cx E X l0 RX2 cX2_addGaps 4 rm_X2_addGaps) (hQ : CQ E X "addGaps" none rm_X2_addGaps (KV K)) : ∀ (n : Nat) (a0 : Nat) (a1 : Int32) (a2 : Int32) (a3 : Int32) (h : Hp), V_X2_addGaps_8 K n a0 a1 a2 a3 h → WW E X h 0 0 8 [some (rv a0), some (.int a1), some (.int a2), some (.int a3)] [] := by
  intro n
  induction n with
  | zero => intro a0 a1 a2 a3 h hV; exact hV.elim
  | succ n ih =>
    intro a0 a1 a2 a3 h hV
    unfold V_X2_addGaps_8 at hV
    refine r_iload_n hC dX2_addGaps_8 rfl ?_
    refine r_iload_n hC dX2_addGaps_9 rfl ?_
    refine r_icmp_ge (tgt := 66) hC dX2_addGaps_10 (by decide) (fun k9 => ?_) (fun k9 => ?_)
    · replace hV := hV.1 k9
      refine r_sub (lo1 := [none, none, none, none]) ⟨Or.inl rfl, ⟨Or.inl rfl, ⟨Or.inl rfl, ⟨Or.inl rfl, trivial⟩⟩⟩⟩ ?_
      exact ok_X2_addGaps_66 hC hQ  h hV
    · replace hV := hV.2 k9
      refine r_aload_n hC dX2_addGaps_13 rfl ?_
      obtain ⟨k9, hV⟩ := hV
      refine r_getI hC dX2_addGaps_14 fl_2_35 rf_2_7 lq_2 k9 ?_
      refine r_aload_n hC dX2_addGaps_17 rfl ?_
      obtain ⟨k9, hV⟩ := hV
      refine r_getR hC dX2_addGaps_18 fl_2_25 rf_2_4 lq_2 k9 ?_
      obtain ⟨k9, hV⟩ := hV
      refine r_alen (kd := 20) hC dX2_addGaps_21 (by decide) k9 ?_
      refine r_icmp_ge (tgt := 66) hC dX2_addGaps_22 (by decide) (fun k9 => ?_) (fun k9 => ?_)
      · replace hV := hV.1 k9
        refine r_sub (lo1 := [none, none, none, none]) ⟨Or.inl rfl, ⟨Or.inl rfl, ⟨Or.inl rfl, ⟨Or.inl rfl, trivial⟩⟩⟩⟩ ?_
        exact ok_X2_addGaps_66 hC hQ  h hV
      · replace hV := hV.2 k9
        refine r_aload_n hC dX2_addGaps_25 rfl ?_
        obtain ⟨k9, hV⟩ := hV
        refine r_getR hC dX2_addGaps_26 fl_2_25 rf_2_4 lq_2 k9 ?_
        refine r_aload_n hC dX2_addGaps_29 rfl ?_
        obtain ⟨k9, hV⟩ := hV
        refine r_getI hC dX2_addGaps_30 fl_2_35 rf_2_7 lq_2 k9 ?_
        refine r_iload_n hC dX2_addGaps_33 rfl ?_
        refine r_iload_n hC dX2_addGaps_34 rfl ?_
        obtain ⟨k9, hV⟩ := hV
        refine r_idiv hC dX2_addGaps_35 k9 ?_
        refine r_iload_n hC dX2_addGaps_36 rfl ?_
        refine r_iload_n hC dX2_addGaps_37 rfl ?_
        refine r_iload_n hC dX2_addGaps_38 rfl ?_
        obtain ⟨k9, hV⟩ := hV
        refine r_irem hC dX2_addGaps_39 k9 ?_
        refine r_icmp_ge (tgt := 47) hC dX2_addGaps_40 (by decide) (fun k9 => ?_) (fun k9 => ?_)
        · replace hV := hV.1 k9
          refine r_iconst (v := 0) hC dX2_addGaps_47 (by decide) ?_
          exact ok_X2_addGaps_48 hC hQ ih a0 a1 a2 a3 (hR h a0 4) (hI h a0 7) (a1 / a2) 0 h hV
        · replace hV := hV.2 k9
          refine r_iconst (v := 1) hC dX2_addGaps_43 (by decide) ?_
          refine r_goto (tgt := 48) hC dX2_addGaps_44 (by decide) ?_
          exact ok_X2_addGaps_48 hC hQ ih a0 a1 a2 a3 (hR h a0 4) (hI h a0 7) (a1 / a2) 1 h hV
set_option maxRecDepth 100000 in
set_option maxHeartbeats 4000000 in
theorem ok_X2_addGaps_0 {E : Ev} {X : Xt} {l0 : Launch} {K : Hp → Prop} (hC : Cx E X l0 RX2 cX2_addGaps 4 rm_X2_addGaps) (hQ : CQ E X "addGaps" none rm_X2_addGaps (KV K)) (a0 : Nat) (a1 : Int32) (a2 : Int32) (h : Hp) (hV : V_X2_addGaps a0 a1 a2 h K) : WW E X h 0 0 0 [some (rv a0), some (.int a1), some (.int a2), none] [] := by
  unfold V_X2_addGaps at hV
  refine r_iload_n hC dX2_addGaps_0 rfl ?_
  refine r_iconst (v := 1) hC dX2_addGaps_1 (by decide) ?_
  refine r_icmp_ge (tgt := 6) hC dX2_addGaps_2 (by decide) (fun k9 => ?_) (fun k9 => ?_)
  · replace hV := hV.1 k9
    refine r_iconst (v := 0) hC dX2_addGaps_6 (by decide) ?_
    refine r_istore_n (lo1 := [some (rv a0), some (.int a1), some (.int a2), some (.int 0)]) hC dX2_addGaps_7 (Nat.le_of_ble_eq_true rfl) rfl ?_
    obtain ⟨n9, hV⟩ := hV
    exact ok_X2_addGaps_8 hC hQ n9 a0 a1 a2 0 h hV
  · replace hV := hV.2 k9
    exact r_vret hC hQ dX2_addGaps_5 (Nat.le_of_ble_eq_true rfl) (Nat.le_of_ble_eq_true rfl) ⟨rfl, hV⟩
set_option maxRecDepth 100000 in
set_option maxHeartbeats 4000000 in
theorem con_X2_addGaps {E : Ev} {l0 : Launch} (a0 : Nat) (a1 : Int32) (a2 : Int32) (h : Hp) (K : Hp → Prop) (hV : V_X2_addGaps a0 a1 a2 h K) : Con E l0 yX2_addGaps cX2_addGaps 4 none rm_X2_addGaps [rv a0, .int a1, .int a2] h (KV K) := by
  refine Con.of (by decide +kernel) (cat_R (cat_I (cat_I cat_nil))) (Nat.le_of_ble_eq_true rfl) (fun X hC hQ => ?_)
  refine r_sub (lo1 := [some (rv a0), some (.int a1), some (.int a2), none]) (show lsub [some (rv a0), some (.int a1), some (.int a2), none] _ from ⟨Or.inr rfl, ⟨Or.inr rfl, ⟨Or.inr rfl, ⟨Or.inr rfl, trivial⟩⟩⟩⟩) ?_
  exact ok_X2_addGaps_0 hC hQ a0 a1 a2 h hV
theorem dX2_addLine_0 : decode cX2_addLine 0 = .ok (.iload_n 3, 1) := by decide +kernel
theorem dX2_addLine_1 : decode cX2_addLine 1 = .ok (.istore 4, 2) := by decide +kernel
theorem dX2_addLine_3 : decode cX2_addLine 3 = .ok (.iconst 0, 1) := by decide +kernel
theorem dX2_addLine_4 : decode cX2_addLine 4 = .ok (.istore 5, 2) := by decide +kernel
theorem dX2_addLine_6 : decode cX2_addLine 6 = .ok (.iload_n 1, 1) := by decide +kernel
theorem dX2_addLine_7 : decode cX2_addLine 7 = .ok (.istore 6, 2) := by decide +kernel
theorem dX2_addLine_9 : decode cX2_addLine 9 = .ok (.iload 6, 2) := by decide +kernel
theorem dX2_addLine_11 : decode cX2_addLine 11 = .ok (.iload_n 2, 1) := by decide +kernel
theorem dX2_addLine_12 : decode cX2_addLine 12 = .ok (.if_icmp .ge 85, 3) := by decide +kernel
theorem dX2_addLine_15 : decode cX2_addLine 15 = .ok (.iload 6, 2) := by decide +kernel
theorem dX2_addLine_17 : decode cX2_addLine 17 = .ok (.aload_n 0, 1) := by decide +kernel
theorem dX2_addLine_18 : decode cX2_addLine 18 = .ok (.getfield 9, 3) := by decide +kernel
theorem dX2_addLine_21 : decode cX2_addLine 21 = .ok (.arraylength, 1) := by decide +kernel
theorem dX2_addLine_22 : decode cX2_addLine 22 = .ok (.if_icmp .ge 75, 3) := by decide +kernel
theorem dX2_addLine_25 : decode cX2_addLine 25 = .ok (.aload_n 0, 1) := by decide +kernel
theorem dX2_addLine_26 : decode cX2_addLine 26 = .ok (.getfield 9, 3) := by decide +kernel
theorem dX2_addLine_29 : decode cX2_addLine 29 = .ok (.iload 6, 2) := by decide +kernel
theorem dX2_addLine_31 : decode cX2_addLine 31 = .ok (.caload, 1) := by decide +kernel
theorem dX2_addLine_32 : decode cX2_addLine 32 = .ok (.invokestatic 60, 3) := by decide +kernel
theorem dX2_addLine_35 : decode cX2_addLine 35 = .ok (.ifCond .eq 53, 3) := by decide +kernel
theorem dX2_addLine_38 : decode cX2_addLine 38 = .ok (.iload 4, 2) := by decide +kernel
theorem dX2_addLine_40 : decode cX2_addLine 40 = .ok (.aload_n 0, 1) := by decide +kernel
theorem dX2_addLine_41 : decode cX2_addLine 41 = .ok (.getfield 9, 3) := by decide +kernel
theorem dX2_addLine_44 : decode cX2_addLine 44 = .ok (.iload 6, 2) := by decide +kernel
theorem dX2_addLine_46 : decode cX2_addLine 46 = .ok (.caload, 1) := by decide +kernel
theorem dX2_addLine_47 : decode cX2_addLine 47 = .ok (.bipush 97, 2) := by decide +kernel
theorem dX2_addLine_49 : decode cX2_addLine 49 = .ok (.isub, 1) := by decide +kernel
theorem dX2_addLine_50 : decode cX2_addLine 50 = .ok (.invokestatic 64, 3) := by decide +kernel
theorem dX2_addLine_53 : decode cX2_addLine 53 = .ok (.isub, 1) := by decide +kernel
theorem dX2_addLine_54 : decode cX2_addLine 54 = .ok (.istore 4, 2) := by decide +kernel
theorem dX2_addLine_56 : decode cX2_addLine 56 = .ok (.aload_n 0, 1) := by decide +kernel
theorem dX2_addLine_57 : decode cX2_addLine 57 = .ok (.getfield 15, 3) := by decide +kernel
theorem dX2_addLine_60 : decode cX2_addLine 60 = .ok (.aload_n 0, 1) := by decide +kernel
theorem dX2_addLine_61 : decode cX2_addLine 61 = .ok (.getfield 9, 3) := by decide +kernel
theorem dX2_addLine_64 : decode cX2_addLine 64 = .ok (.iload 6, 2) := by decide +kernel
theorem dX2_addLine_66 : decode cX2_addLine 66 = .ok (.caload, 1) := by decide +kernel
theorem dX2_addLine_67 : decode cX2_addLine 67 = .ok (.bipush 97, 2) := by decide +kernel
theorem dX2_addLine_69 : decode cX2_addLine 69 = .ok (.isub, 1) := by decide +kernel
theorem dX2_addLine_70 : decode cX2_addLine 70 = .ok (.dup2, 1) := by decide +kernel
theorem dX2_addLine_71 : decode cX2_addLine 71 = .ok (.iaload, 1) := by decide +kernel
theorem dX2_addLine_72 : decode cX2_addLine 72 = .ok (.iconst 1, 1) := by decide +kernel
theorem dX2_addLine_73 : decode cX2_addLine 73 = .ok (.iadd, 1) := by decide +kernel
theorem dX2_addLine_74 : decode cX2_addLine 74 = .ok (.iastore, 1) := by decide +kernel
theorem dX2_addLine_75 : decode cX2_addLine 75 = .ok (.aload_n 0, 1) := by decide +kernel
theorem dX2_addLine_76 : decode cX2_addLine 76 = .ok (.dup, 1) := by decide +kernel
theorem dX2_addLine_77 : decode cX2_addLine 77 = .ok (.getfield 32, 3) := by decide +kernel
theorem dX2_addLine_80 : decode cX2_addLine 80 = .ok (.iconst 1, 1) := by decide +kernel
theorem dX2_addLine_81 : decode cX2_addLine 81 = .ok (.iadd, 1) := by decide +kernel
theorem dX2_addLine_82 : decode cX2_addLine 82 = .ok (.putfield 32, 3) := by decide +kernel
theorem dX2_addLine_85 : decode cX2_addLine 85 = .ok (.goto 6, 3) := by decide +kernel
theorem dX2_addLine_88 : decode cX2_addLine 88 = .ok (.iinc 5 1, 3) := by decide +kernel
theorem dX2_addLine_91 : decode cX2_addLine 91 = .ok (.iinc 6 1, 3) := by decide +kernel
theorem dX2_addLine_94 : decode cX2_addLine 94 = .ok (.goto (-85), 3) := by decide +kernel
theorem dX2_addLine_97 : decode cX2_addLine 97 = .ok (.iload 4, 2) := by decide +kernel
theorem dX2_addLine_99 : decode cX2_addLine 99 = .ok (.iload 5, 2) := by decide +kernel
theorem dX2_addLine_101 : decode cX2_addLine 101 = .ok (.if_icmp .ge 8, 3) := by decide +kernel
theorem dX2_addLine_104 : decode cX2_addLine 104 = .ok (.aload_n 0, 1) := by decide +kernel
theorem dX2_addLine_105 : decode cX2_addLine 105 = .ok (.iconst 1, 1) := by decide +kernel
theorem dX2_addLine_106 : decode cX2_addLine 106 = .ok (.putfield 38, 3) := by decide +kernel
theorem dX2_addLine_109 : decode cX2_addLine 109 = .ok (.aload_n 0, 1) := by decide +kernel
theorem dX2_addLine_110 : decode cX2_addLine 110 = .ok (.iload 4, 2) := by decide +kernel
theorem dX2_addLine_112 : decode cX2_addLine 112 = .ok (.iconst 0, 1) := by decide +kernel
theorem dX2_addLine_113 : decode cX2_addLine 113 = .ok (.invokestatic 68, 3) := by decide +kernel
theorem dX2_addLine_116 : decode cX2_addLine 116 = .ok (.iload 5, 2) := by decide +kernel
theorem dX2_addLine_118 : decode cX2_addLine 118 = .ok (.iconst 1, 1) := by decide +kernel
theorem dX2_addLine_119 : decode cX2_addLine 119 = .ok (.invokestatic 68, 3) := by decide +kernel
theorem dX2_addLine_122 : decode cX2_addLine 122 = .ok (.invokevirtual 71, 3) := by decide +kernel
theorem dX2_addLine_125 : decode cX2_addLine 125 = .ok (.aload_n 0, 1) := by decide +kernel
theorem dX2_addLine_126 : decode cX2_addLine 126 = .ok (.getfield 28, 3) := by decide +kernel
theorem dX2_addLine_129 : decode cX2_addLine 129 = .ok (.bipush 30, 2) := by decide +kernel
theorem dX2_addLine_131 : decode cX2_addLine 131 = .ok (.if_icmp .ge 36, 3) := by decide +kernel
theorem dX2_addLine_134 : decode cX2_addLine 134 = .ok (.aload_n 0, 1) := by decide +kernel
theorem dX2_addLine_135 : decode cX2_addLine 135 = .ok (.getfield 19, 3) := by decide +kernel
theorem dX2_addLine_138 : decode cX2_addLine 138 = .ok (.aload_n 0, 1) := by decide +kernel
theorem dX2_addLine_139 : decode cX2_addLine 139 = .ok (.getfield 28, 3) := by decide +kernel
theorem dX2_addLine_142 : decode cX2_addLine 142 = .ok (.iload_n 2, 1) := by decide +kernel
theorem dX2_addLine_143 : decode cX2_addLine 143 = .ok (.iastore, 1) := by decide +kernel
theorem dX2_addLine_144 : decode cX2_addLine 144 = .ok (.aload_n 0, 1) := by decide +kernel
theorem dX2_addLine_145 : decode cX2_addLine 145 = .ok (.getfield 22, 3) := by decide +kernel
theorem dX2_addLine_148 : decode cX2_addLine 148 = .ok (.aload_n 0, 1) := by decide +kernel
theorem dX2_addLine_149 : decode cX2_addLine 149 = .ok (.getfield 28, 3) := by decide +kernel
theorem dX2_addLine_152 : decode cX2_addLine 152 = .ok (.aload_n 0, 1) := by decide +kernel
theorem dX2_addLine_153 : decode cX2_addLine 153 = .ok (.getfield 35, 3) := by decide +kernel
theorem dX2_addLine_156 : decode cX2_addLine 156 = .ok (.iastore, 1) := by decide +kernel
theorem dX2_addLine_157 : decode cX2_addLine 157 = .ok (.aload_n 0, 1) := by decide +kernel
theorem dX2_addLine_158 : decode cX2_addLine 158 = .ok (.dup, 1) := by decide +kernel
theorem dX2_addLine_159 : decode cX2_addLine 159 = .ok (.getfield 28, 3) := by decide +kernel
theorem dX2_addLine_162 : decode cX2_addLine 162 = .ok (.iconst 1, 1) := by decide +kernel
theorem dX2_addLine_163 : decode cX2_addLine 163 = .ok (.iadd, 1) := by decide +kernel
theorem dX2_addLine_164 : decode cX2_addLine 164 = .ok (.putfield 28, 3) := by decide +kernel
theorem dX2_addLine_167 : decode cX2_addLine 167 = .ok (.return_, 1) := by decide +kernel
def rm_X2_addLine : Room := { frames := 1, cells := 0, slots := 0, locals := 26 }
set_option maxRecDepth 100000 in
set_option maxHeartbeats 4000000 in
theorem ok_X2_addLine_91 {E : Ev} {X : Xt} {l0 : Launch} {K : Hp → Prop} {C9 : Nat → Int32 → Int32 → Int32 → Int32 → Hp → Prop} (hC : Cx E X l0 RX2 cX2_addLine 7 rm_X2_addLine) (hQ : CQ E X "addLine" none rm_X2_addLine (KV K)) (hC9 : ∀ (a0 : Nat) (a2 : Int32) (a4 : Int32) (a5 : Int32) (a6 : Int32) (h : Hp), C9 a0 a2 a4 a5 a6 h → WW E X h 0 0 9 [some (rv a0), none, some (.int a2), none, some (.int a4), some (.int a5), some (.int a6)] []) (a0 : Nat) (a2 : Int32) (a4 : Int32) (a5 : Int32) (a6 : Int32) (h : Hp) (hV : V_X2_addLine_91 K C9 a0 a2 a4 a5 a6 h) : WW E X h 0 0 91 [some (rv a0), none, some (.int a2), none, some (.int a4), some (.int a5), some (.int a6)] [] := by
  unfold V_X2_addLine_91 at hV
  refine r_iinc (v := 1) (lo1 := [some (rv a0), none, some (.int a2), none, some (.int a4), some (.int a5), some (.int (a6 + 1))]) hC dX2_addLine_91 rfl (by decide) rfl ?_
  refine r_goto (tgt := 9) hC dX2_addLine_94 (by decide) ?_
  exact hC9 a0 a2 a4 a5 (a6 + 1) h hV
set_option maxRecDepth 100000 in
set_option maxHeartbeats 4000000 in
theorem ok_X2_addLine_167 {E : Ev} {X : Xt} {l0 : Launch} {K : Hp → Prop} (hC : Cx E X l0 RX2 cX2_addLine 7 rm_X2_addLine) (hQ : CQ E X "addLine" none rm_X2_addLine (KV K)) (h : Hp) (hV : V_X2_addLine_167 K  h) : WW E X h 0 0 167 [none, none, none, none, none, none, none] [] := by
  unfold V_X2_addLine_167 at hV
  exact r_vret hC hQ dX2_addLine_167 (Nat.le_of_ble_eq_true rfl) (Nat.le_of_ble_eq_true rfl) ⟨rfl, hV⟩
set_option maxRecDepth 100000 in
set_option maxHeartbeats 4000000 in
theorem ok_X2_addLine_109 {E : Ev} {X : Xt} {l0 : Launch} {K : Hp → Prop} (hC : Cx E X l0 RX2 cX2_addLine 7 rm_X2_addLine) (hQ : CQ E X "addLine" none rm_X2_addLine (KV K)) (a0 : Nat) (a2 : Int32) (a4 : Int32) (a5 : Int32) (h : Hp) (hV : V_X2_addLine_109 K a0 a2 a4 a5 h) : WW E X h 0 0 109 [some (rv a0), none, some (.int a2), none, some (.int a4), some (.int a5), none] [] := by
  unfold V_X2_addLine_109 at hV
  refine r_aload_n hC dX2_addLine_109 rfl ?_
  refine r_iload hC dX2_addLine_110 rfl ?_
  refine r_iconst (v := 0) hC dX2_addLine_112 (by decide) ?_
  refine r_max hC dX2_addLine_113 rfl ml_2_68 mmax_s mth_i mmax_c (csR cs0) ⟨Nat.le_of_ble_eq_true rfl, Nat.le_of_ble_eq_true rfl, Nat.le_of_ble_eq_true rfl, Nat.le_of_ble_eq_true rfl⟩ ?_
  refine r_iload hC dX2_addLine_116 rfl ?_
  refine r_iconst (v := 1) hC dX2_addLine_118 (by decide) ?_
  refine r_max hC dX2_addLine_119 rfl ml_2_68 mmax_s mth_i mmax_c (csI (csR cs0)) ⟨Nat.le_of_ble_eq_true rfl, Nat.le_of_ble_eq_true rfl, Nat.le_of_ble_eq_true rfl, Nat.le_of_ble_eq_true rfl⟩ ?_
  obtain ⟨k9, hV⟩ := hV
  refine r_callV (ci := 2) (As := [.int (if a4 < 0 then 0 else a4), .int (if a5 < 1 then 1 else a5)]) hC dX2_addLine_122 rfl cf_X2_addGaps ml_2_71 im_X2_addGaps sl_X2_addGaps lq_2 rfl rfl k9 rfl ⟨Nat.le_of_ble_eq_true rfl, Nat.le_of_ble_eq_true rfl, Nat.le_of_ble_eq_true rfl, Nat.le_of_ble_eq_true rfl⟩ cs0 (Nat.le_of_ble_eq_true rfl) (con_X2_addGaps a0 (if a4 < 0 then 0 else a4) (if a5 < 1 then 1 else a5) h _ hV) rfl (kV (k := 0) (n := 0) (fun h1 hV => ?_))
  refine r_aload_n hC dX2_addLine_125 rfl ?_
  obtain ⟨k9, hV⟩ := hV
  refine r_getI hC dX2_addLine_126 fl_2_28 rf_2_5 lq_2 k9 ?_
  refine r_bipush (v := 30) hC dX2_addLine_129 (by decide) ?_
  refine r_icmp_ge (tgt := 167) hC dX2_addLine_131 (by decide) (fun k9 => ?_) (fun k9 => ?_)
  · replace hV := hV.1 k9
    refine r_sub (lo1 := [none, none, none, none, none, none, none]) ⟨Or.inl rfl, ⟨Or.inl rfl, ⟨Or.inl rfl, ⟨Or.inl rfl, ⟨Or.inl rfl, ⟨Or.inl rfl, ⟨Or.inl rfl, trivial⟩⟩⟩⟩⟩⟩⟩ ?_
    exact ok_X2_addLine_167 hC hQ  h1 hV
  · replace hV := hV.2 k9
    refine r_aload_n hC dX2_addLine_134 rfl ?_
    obtain ⟨k9, hV⟩ := hV
    refine r_getR hC dX2_addLine_135 fl_2_19 rf_2_2 lq_2 k9 ?_
    refine r_aload_n hC dX2_addLine_138 rfl ?_
    obtain ⟨k9, hV⟩ := hV
    refine r_getI hC dX2_addLine_139 fl_2_28 rf_2_5 lq_2 k9 ?_
    refine r_iload_n hC dX2_addLine_142 rfl ?_
    obtain ⟨k9, k8, hV⟩ := hV
    refine r_iast (kd := 20) hC dX2_addLine_143 (by decide) rfl k9 k8 (nmH (fun h2 k9 => ?_))
    replace hV := hV h2 k9
    refine r_aload_n hC dX2_addLine_144 rfl ?_
    obtain ⟨k9, hV⟩ := hV
    refine r_getR hC dX2_addLine_145 fl_2_22 rf_2_3 lq_2 k9 ?_
    refine r_aload_n hC dX2_addLine_148 rfl ?_
    obtain ⟨k9, hV⟩ := hV
    refine r_getI hC dX2_addLine_149 fl_2_28 rf_2_5 lq_2 k9 ?_
    refine r_aload_n hC dX2_addLine_152 rfl ?_
    obtain ⟨k9, hV⟩ := hV
    refine r_getI hC dX2_addLine_153 fl_2_35 rf_2_7 lq_2 k9 ?_
    obtain ⟨k9, k8, hV⟩ := hV
    refine r_iast (kd := 20) hC dX2_addLine_156 (by decide) rfl k9 k8 (nmH (fun h3 k9 => ?_))
    replace hV := hV h3 k9
    refine r_aload_n hC dX2_addLine_157 rfl ?_
    refine r_dup hC dX2_addLine_158 (rv_cat _) ?_
    obtain ⟨k9, hV⟩ := hV
    refine r_getI hC dX2_addLine_159 fl_2_28 rf_2_5 lq_2 k9 ?_
    refine r_iconst (v := 1) hC dX2_addLine_162 (by decide) ?_
    refine r_iadd hC dX2_addLine_163 ?_
    obtain ⟨k9, hV⟩ := hV
    refine r_putI hC dX2_addLine_164 fl_2_28 ft_2 rfl rf_2_5 ty_2_5 lq_2 k9 (nmH (fun h4 k9 => ?_))
    replace hV := hV h4 k9
    refine r_sub (lo1 := [none, none, none, none, none, none, none]) ⟨Or.inl rfl, ⟨Or.inl rfl, ⟨Or.inl rfl, ⟨Or.inl rfl, ⟨Or.inl rfl, ⟨Or.inl rfl, ⟨Or.inl rfl, trivial⟩⟩⟩⟩⟩⟩⟩ ?_
    exact ok_X2_addLine_167 hC hQ  h4 hV
set_option maxRecDepth 100000 in
set_option maxHeartbeats 4000000 in
theorem ok_X2_addLine_97 {E : Ev} {X : Xt} {l0 : Launch} {K : Hp → Prop} (hC : Cx E X l0 RX2 cX2_addLine 7 rm_X2_addLine) (hQ : CQ E X "addLine" none rm_X2_addLine (KV K)) (a0 : Nat) (a2 : Int32) (a4 : Int32) (a5 : Int32) (h : Hp) (hV : V_X2_addLine_97 K a0 a2 a4 a5 h) : WW E X h 0 0 97 [some (rv a0), none, some (.int a2), none, some (.int a4), some (.int a5), none] [] := by
  unfold V_X2_addLine_97 at hV
  refine r_iload hC dX2_addLine_97 rfl ?_
  refine r_iload hC dX2_addLine_99 rfl ?_
  refine r_icmp_ge (tgt := 109) hC dX2_addLine_101 (by decide) (fun k9 => ?_) (fun k9 => ?_)
  · replace hV := hV.1 k9
    exact ok_X2_addLine_109 hC hQ a0 a2 a4 a5 h hV
  · replace hV := hV.2 k9
    refine r_aload_n hC dX2_addLine_104 rfl ?_
    refine r_iconst (v := 1) hC dX2_addLine_105 (by decide) ?_
    obtain ⟨k9, hV⟩ := hV
    obtain ⟨k8, hV⟩ := hV
    refine r_putZ hC dX2_addLine_106 fl_2_38 ft_2 rfl rf_2_8 ty_2_8 lq_2 k9 k8 (nmH (fun h1 k9 => ?_))
    replace hV := hV h1 k9
    exact ok_X2_addLine_109 hC hQ a0 a2 a4 a5 h1 hV
set_option maxRecDepth 100000 in
set_option maxHeartbeats 4000000 in
theorem ok_X2_addLine_9 {E : Ev} {X : Xt} {l0 : Launch} {K : Hp → Prop} (hC : Cx E X l0 RX2 cX2_addLine 7 rm_X2_addLine) (hQ : CQ E X "addLine" none rm_X2_addLine (KV K)) : ∀ (n : Nat) (a0 : Nat) (a2 : Int32) (a4 : Int32) (a5 : Int32) (a6 : Int32) (h : Hp), V_X2_addLine_9 K n a0 a2 a4 a5 a6 h → WW E X h 0 0 9 [some (rv a0), none, some (.int a2), none, some (.int a4), some (.int a5), some (.int a6)] [] := by
  intro n
  induction n with
  | zero => intro a0 a2 a4 a5 a6 h hV; exact hV.elim
  | succ n ih =>
    intro a0 a2 a4 a5 a6 h hV
    unfold V_X2_addLine_9 at hV
    refine r_iload hC dX2_addLine_9 rfl ?_
    refine r_iload_n hC dX2_addLine_11 rfl ?_
    refine r_icmp_ge (tgt := 97) hC dX2_addLine_12 (by decide) (fun k9 => ?_) (fun k9 => ?_)
    · replace hV := hV.1 k9
      refine r_sub (lo1 := [some (rv a0), none, some (.int a2), none, some (.int a4), some (.int a5), none]) ⟨Or.inr rfl, ⟨Or.inl rfl, ⟨Or.inr rfl, ⟨Or.inl rfl, ⟨Or.inr rfl, ⟨Or.inr rfl, ⟨Or.inl rfl, trivial⟩⟩⟩⟩⟩⟩⟩ ?_
      exact ok_X2_addLine_97 hC hQ a0 a2 a4 a5 h hV
    · replace hV := hV.2 k9
      refine r_iload hC dX2_addLine_15 rfl ?_
      refine r_aload_n hC dX2_addLine_17 rfl ?_
      obtain ⟨k9, hV⟩ := hV
      refine r_getR hC dX2_addLine_18 fl_2_9 rf_2_0 lq_2 k9 ?_
      obtain ⟨k9, hV⟩ := hV
      refine r_alen (kd := 21) hC dX2_addLine_21 (by decide) k9 ?_
      refine r_icmp_ge (tgt := 97) hC dX2_addLine_22 (by decide) (fun k9 => ?_) (fun k9 => ?_)
      · replace hV := hV.1 k9
        refine r_sub (lo1 := [some (rv a0), none, some (.int a2), none, some (.int a4), some (.int a5), none]) ⟨Or.inr rfl, ⟨Or.inl rfl, ⟨Or.inr rfl, ⟨Or.inl rfl, ⟨Or.inr rfl, ⟨Or.inr rfl, ⟨Or.inl rfl, trivial⟩⟩⟩⟩⟩⟩⟩ ?_
        exact ok_X2_addLine_97 hC hQ a0 a2 a4 a5 h hV
      · replace hV := hV.2 k9
        refine r_aload_n hC dX2_addLine_25 rfl ?_
        obtain ⟨k9, hV⟩ := hV
        refine r_getR hC dX2_addLine_26 fl_2_9 rf_2_0 lq_2 k9 ?_
        refine r_iload hC dX2_addLine_29 rfl ?_
        obtain ⟨k9, k8, hV⟩ := hV
        refine r_cald (kd := 21) hC dX2_addLine_31 (by decide) rfl k9 k8 ?_
        refine r_callSN (As := [.int (hI h (hR h a0 0) (ix a6))]) hC dX2_addLine_32 rfl cf_X6_isLetter nl_2_60 st_X6_isLetter rfl ⟨Nat.le_of_ble_eq_true rfl, Nat.le_of_ble_eq_true rfl, Nat.le_of_ble_eq_true rfl, Nat.le_of_ble_eq_true rfl⟩ cs0 (Nat.le_of_ble_eq_true rfl) (con_X6_isLetter (hI h (hR h a0 0) (ix a6)) h _ hV) rfl (kI (k := 0) (n := 0) (fun r1 h1 hV => ?_))
        refine r_if_eq (tgt := 88) hC dX2_addLine_35 (by decide) (fun k9 => ?_) (fun k9 => ?_)
        · replace hV := hV.1 k9
          refine r_iinc (v := 1) (lo1 := [some (rv a0), none, some (.int a2), none, some (.int a4), some (.int (a5 + 1)), some (.int a6)]) hC dX2_addLine_88 rfl (by decide) rfl ?_
          exact ok_X2_addLine_91 hC hQ ih a0 a2 a4 (a5 + 1) a6 h1 hV
        · replace hV := hV.2 k9
          refine r_iload hC dX2_addLine_38 rfl ?_
          refine r_aload_n hC dX2_addLine_40 rfl ?_
          obtain ⟨k9, hV⟩ := hV
          refine r_getR hC dX2_addLine_41 fl_2_9 rf_2_0 lq_2 k9 ?_
          refine r_iload hC dX2_addLine_44 rfl ?_
          obtain ⟨k9, k8, hV⟩ := hV
          refine r_cald (kd := 21) hC dX2_addLine_46 (by decide) rfl k9 k8 ?_
          refine r_bipush (v := 97) hC dX2_addLine_47 (by decide) ?_
          refine r_isub hC dX2_addLine_49 ?_
          refine r_callSN (As := [.int ((hI h1 (hR h1 a0 0) (ix a6)) - 97)]) hC dX2_addLine_50 rfl cf_X6_widthOf nl_2_64 st_X6_widthOf rfl ⟨Nat.le_of_ble_eq_true rfl, Nat.le_of_ble_eq_true rfl, Nat.le_of_ble_eq_true rfl, Nat.le_of_ble_eq_true rfl⟩ (csI cs0) (Nat.le_of_ble_eq_true rfl) (con_X6_widthOf ((hI h1 (hR h1 a0 0) (ix a6)) - 97) h1 _ hV) rfl (kI (k := 0) (n := 0) (fun r2 h2 hV => ?_))
          refine r_isub hC dX2_addLine_53 ?_
          refine r_istore (lo1 := [some (rv a0), none, some (.int a2), none, some (.int (a4 - r2)), some (.int a5), some (.int a6)]) hC dX2_addLine_54 (Nat.le_of_ble_eq_true rfl) rfl ?_
          refine r_aload_n hC dX2_addLine_56 rfl ?_
          obtain ⟨k9, hV⟩ := hV
          refine r_getR hC dX2_addLine_57 fl_2_15 rf_2_1 lq_2 k9 ?_
          refine r_aload_n hC dX2_addLine_60 rfl ?_
          obtain ⟨k9, hV⟩ := hV
          refine r_getR hC dX2_addLine_61 fl_2_9 rf_2_0 lq_2 k9 ?_
          refine r_iload hC dX2_addLine_64 rfl ?_
          obtain ⟨k9, k8, hV⟩ := hV
          refine r_cald (kd := 21) hC dX2_addLine_66 (by decide) rfl k9 k8 ?_
          refine r_bipush (v := 97) hC dX2_addLine_67 (by decide) ?_
          refine r_isub hC dX2_addLine_69 ?_
          refine r_dup2 hC dX2_addLine_70 rfl (rv_cat _) ?_
          obtain ⟨k9, k8, hV⟩ := hV
          refine r_iald (kd := 20) hC dX2_addLine_71 (by decide) rfl k9 k8 ?_
          refine r_iconst (v := 1) hC dX2_addLine_72 (by decide) ?_
          refine r_iadd hC dX2_addLine_73 ?_
          obtain ⟨k9, k8, hV⟩ := hV
          refine r_iast (kd := 20) hC dX2_addLine_74 (by decide) rfl k9 k8 (nmH (fun h3 k9 => ?_))
          replace hV := hV h3 k9
          refine r_aload_n hC dX2_addLine_75 rfl ?_
          refine r_dup hC dX2_addLine_76 (rv_cat _) ?_
          obtain ⟨k9, hV⟩ := hV
          refine r_getI hC dX2_addLine_77 fl_2_32 rf_2_6 lq_2 k9 ?_
          refine r_iconst (v := 1) hC dX2_addLine_80 (by decide) ?_
          refine r_iadd hC dX2_addLine_81 ?_
          obtain ⟨k9, hV⟩ := hV
          refine r_putI hC dX2_addLine_82 fl_2_32 ft_2 rfl rf_2_6 ty_2_6 lq_2 k9 (nmH (fun h4 k9 => ?_))
          replace hV := hV h4 k9
          refine r_goto (tgt := 91) hC dX2_addLine_85 (by decide) ?_
          exact ok_X2_addLine_91 hC hQ ih a0 a2 (a4 - r2) a5 a6 h4 hV
set_option maxRecDepth 100000 in
set_option maxHeartbeats 4000000 in
theorem ok_X2_addLine_0 {E : Ev} {X : Xt} {l0 : Launch} {K : Hp → Prop} (hC : Cx E X l0 RX2 cX2_addLine 7 rm_X2_addLine) (hQ : CQ E X "addLine" none rm_X2_addLine (KV K)) (a0 : Nat) (a1 : Int32) (a2 : Int32) (a3 : Int32) (h : Hp) (hV : V_X2_addLine a0 a1 a2 a3 h K) : WW E X h 0 0 0 [some (rv a0), some (.int a1), some (.int a2), some (.int a3), none, none, none] [] := by
  unfold V_X2_addLine at hV
  refine r_iload_n hC dX2_addLine_0 rfl ?_
  refine r_istore (lo1 := [some (rv a0), some (.int a1), some (.int a2), some (.int a3), some (.int a3), none, none]) hC dX2_addLine_1 (Nat.le_of_ble_eq_true rfl) rfl ?_
  refine r_iconst (v := 0) hC dX2_addLine_3 (by decide) ?_
  refine r_istore (lo1 := [some (rv a0), some (.int a1), some (.int a2), some (.int a3), some (.int a3), some (.int 0), none]) hC dX2_addLine_4 (Nat.le_of_ble_eq_true rfl) rfl ?_
  refine r_iload_n hC dX2_addLine_6 rfl ?_
  refine r_istore (lo1 := [some (rv a0), some (.int a1), some (.int a2), some (.int a3), some (.int a3), some (.int 0), some (.int a1)]) hC dX2_addLine_7 (Nat.le_of_ble_eq_true rfl) rfl ?_
  refine r_sub (lo1 := [some (rv a0), none, some (.int a2), none, some (.int a3), some (.int 0), some (.int a1)]) ⟨Or.inr rfl, ⟨Or.inl rfl, ⟨Or.inr rfl, ⟨Or.inl rfl, ⟨Or.inr rfl, ⟨Or.inr rfl, ⟨Or.inr rfl, trivial⟩⟩⟩⟩⟩⟩⟩ ?_
  obtain ⟨n9, hV⟩ := hV
  exact ok_X2_addLine_9 hC hQ n9 a0 a2 a3 0 a1 h hV
set_option maxRecDepth 100000 in
set_option maxHeartbeats 4000000 in
theorem con_X2_addLine {E : Ev} {l0 : Launch} (a0 : Nat) (a1 : Int32) (a2 : Int32) (a3 : Int32) (h : Hp) (K : Hp → Prop) (hV : V_X2_addLine a0 a1 a2 a3 h K) : Con E l0 yX2_addLine cX2_addLine 7 none rm_X2_addLine [rv a0, .int a1, .int a2, .int a3] h (KV K) := by
  refine Con.of (by decide +kernel) (cat_R (cat_I (cat_I (cat_I cat_nil)))) (Nat.le_of_ble_eq_true rfl) (fun X hC hQ => ?_)
  refine r_sub (lo1 := [some (rv a0), some (.int a1), some (.int a2), some (.int a3), none, none, none]) (show lsub [some (rv a0), some (.int a1), some (.int a2), some (.int a3), none, none, none] _ from ⟨Or.inr rfl, ⟨Or.inr rfl, ⟨Or.inr rfl, ⟨Or.inr rfl, ⟨Or.inr rfl, ⟨Or.inr rfl, ⟨Or.inr rfl, trivial⟩⟩⟩⟩⟩⟩⟩) ?_
  exact ok_X2_addLine_0 hC hQ a0 a1 a2 a3 h hV
theorem dX2_firstGap_0 : decode cX2_firstGap 0 = .ok (.iload_n 1, 1) := by decide +kernel
theorem dX2_firstGap_1 : decode cX2_firstGap 1 = .ok (.ifCond .le 23, 3) := by decide +kernel
theorem dX2_firstGap_4 : decode cX2_firstGap 4 = .ok (.iload_n 1, 1) := by decide +kernel
theorem dX2_firstGap_5 : decode cX2_firstGap 5 = .ok (.aload_n 0, 1) := by decide +kernel
theorem dX2_firstGap_6 : decode cX2_firstGap 6 = .ok (.getfield 22, 3) := by decide +kernel
theorem dX2_firstGap_9 : decode cX2_firstGap 9 = .ok (.arraylength, 1) := by decide +kernel
theorem dX2_firstGap_10 : decode cX2_firstGap 10 = .ok (.if_icmp .ge 14, 3) := by decide +kernel
theorem dX2_firstGap_13 : decode cX2_firstGap 13 = .ok (.aload_n 0, 1) := by decide +kernel
theorem dX2_firstGap_14 : decode cX2_firstGap 14 = .ok (.getfield 22, 3) := by decide +kernel
theorem dX2_firstGap_17 : decode cX2_firstGap 17 = .ok (.iload_n 1, 1) := by decide +kernel
theorem dX2_firstGap_18 : decode cX2_firstGap 18 = .ok (.iconst 1, 1) := by decide +kernel
theorem dX2_firstGap_19 : decode cX2_firstGap 19 = .ok (.isub, 1) := by decide +kernel
theorem dX2_firstGap_20 : decode cX2_firstGap 20 = .ok (.iaload, 1) := by decide +kernel
theorem dX2_firstGap_21 : decode cX2_firstGap 21 = .ok (.goto 4, 3) := by decide +kernel
theorem dX2_firstGap_24 : decode cX2_firstGap 24 = .ok (.iconst 0, 1) := by decide +kernel
theorem dX2_firstGap_25 : decode cX2_firstGap 25 = .ok (.ireturn, 1) := by decide +kernel
def rm_X2_firstGap : Room := { frames := 0, cells := 0, slots := 0, locals := 0 }
set_option maxRecDepth 100000 in
set_option maxHeartbeats 4000000 in
theorem ok_X2_firstGap_25 {E : Ev} {X : Xt} {l0 : Launch} {K : Int32 → Hp → Prop} (hC : Cx E X l0 RX2 cX2_firstGap 2 rm_X2_firstGap) (hQ : CQ E X "firstGap" (some .int) rm_X2_firstGap (KI K)) (s0 : Int32) (h : Hp) (hV : V_X2_firstGap_25 K s0 h) : WW E X h 0 0 25 [none, none] [.int s0] := by
  unfold V_X2_firstGap_25 at hV
  exact r_iret hC hQ dX2_firstGap_25 (Nat.le_of_ble_eq_true rfl) (Nat.le_of_ble_eq_true rfl) ⟨_, rfl, hV⟩
set_option maxRecDepth 100000 in
set_option maxHeartbeats 4000000 in
theorem ok_X2_firstGap_24 {E : Ev} {X : Xt} {l0 : Launch} {K : Int32 → Hp → Prop} (hC : Cx E X l0 RX2 cX2_firstGap 2 rm_X2_firstGap) (hQ : CQ E X "firstGap" (some .int) rm_X2_firstGap (KI K)) (h : Hp) (hV : V_X2_firstGap_24 K  h) : WW E X h 0 0 24 [none, none] [] := by
  unfold V_X2_firstGap_24 at hV
  refine r_iconst (v := 0) hC dX2_firstGap_24 (by decide) ?_
  exact ok_X2_firstGap_25 hC hQ 0 h hV
set_option maxRecDepth 100000 in
set_option maxHeartbeats 4000000 in
theorem ok_X2_firstGap_0 {E : Ev} {X : Xt} {l0 : Launch} {K : Int32 → Hp → Prop} (hC : Cx E X l0 RX2 cX2_firstGap 2 rm_X2_firstGap) (hQ : CQ E X "firstGap" (some .int) rm_X2_firstGap (KI K)) (a0 : Nat) (a1 : Int32) (h : Hp) (hV : V_X2_firstGap a0 a1 h K) : WW E X h 0 0 0 [some (rv a0), some (.int a1)] [] := by
  unfold V_X2_firstGap at hV
  refine r_iload_n hC dX2_firstGap_0 rfl ?_
  refine r_if_le (tgt := 24) hC dX2_firstGap_1 (by decide) (fun k9 => ?_) (fun k9 => ?_)
  · replace hV := hV.1 k9
    refine r_sub (lo1 := [none, none]) ⟨Or.inl rfl, ⟨Or.inl rfl, trivial⟩⟩ ?_
    exact ok_X2_firstGap_24 hC hQ  h hV
  · replace hV := hV.2 k9
    refine r_iload_n hC dX2_firstGap_4 rfl ?_
    refine r_aload_n hC dX2_firstGap_5 rfl ?_
    obtain ⟨k9, hV⟩ := hV
    refine r_getR hC dX2_firstGap_6 fl_2_22 rf_2_3 lq_2 k9 ?_
    obtain ⟨k9, hV⟩ := hV
    refine r_alen (kd := 20) hC dX2_firstGap_9 (by decide) k9 ?_
    refine r_icmp_ge (tgt := 24) hC dX2_firstGap_10 (by decide) (fun k9 => ?_) (fun k9 => ?_)
    · replace hV := hV.1 k9
      refine r_sub (lo1 := [none, none]) ⟨Or.inl rfl, ⟨Or.inl rfl, trivial⟩⟩ ?_
      exact ok_X2_firstGap_24 hC hQ  h hV
    · replace hV := hV.2 k9
      refine r_aload_n hC dX2_firstGap_13 rfl ?_
      obtain ⟨k9, hV⟩ := hV
      refine r_getR hC dX2_firstGap_14 fl_2_22 rf_2_3 lq_2 k9 ?_
      refine r_iload_n hC dX2_firstGap_17 rfl ?_
      refine r_iconst (v := 1) hC dX2_firstGap_18 (by decide) ?_
      refine r_isub hC dX2_firstGap_19 ?_
      obtain ⟨k9, k8, hV⟩ := hV
      refine r_iald (kd := 20) hC dX2_firstGap_20 (by decide) rfl k9 k8 ?_
      refine r_goto (tgt := 25) hC dX2_firstGap_21 (by decide) ?_
      refine r_sub (lo1 := [none, none]) ⟨Or.inl rfl, ⟨Or.inl rfl, trivial⟩⟩ ?_
      exact ok_X2_firstGap_25 hC hQ (hI h (hR h a0 3) (ix (a1 - 1))) h hV
set_option maxRecDepth 100000 in
set_option maxHeartbeats 4000000 in
theorem con_X2_firstGap {E : Ev} {l0 : Launch} (a0 : Nat) (a1 : Int32) (h : Hp) (K : Int32 → Hp → Prop) (hV : V_X2_firstGap a0 a1 h K) : Con E l0 yX2_firstGap cX2_firstGap 2 (some .int) rm_X2_firstGap [rv a0, .int a1] h (KI K) := by
  refine Con.of (by decide +kernel) (cat_R (cat_I cat_nil)) (Nat.le_of_ble_eq_true rfl) (fun X hC hQ => ?_)
  refine r_sub (lo1 := [some (rv a0), some (.int a1)]) (show lsub [some (rv a0), some (.int a1)] _ from ⟨Or.inr rfl, ⟨Or.inr rfl, trivial⟩⟩) ?_
  exact ok_X2_firstGap_0 hC hQ a0 a1 h hV
theorem dX2_gapWidth_0 : decode cX2_gapWidth 0 = .ok (.iload_n 1, 1) := by decide +kernel
theorem dX2_gapWidth_1 : decode cX2_gapWidth 1 = .ok (.ifCond .lt 21, 3) := by decide +kernel
theorem dX2_gapWidth_4 : decode cX2_gapWidth 4 = .ok (.iload_n 1, 1) := by decide +kernel
theorem dX2_gapWidth_5 : decode cX2_gapWidth 5 = .ok (.aload_n 0, 1) := by decide +kernel
theorem dX2_gapWidth_6 : decode cX2_gapWidth 6 = .ok (.getfield 25, 3) := by decide +kernel
theorem dX2_gapWidth_9 : decode cX2_gapWidth 9 = .ok (.arraylength, 1) := by decide +kernel
theorem dX2_gapWidth_10 : decode cX2_gapWidth 10 = .ok (.if_icmp .ge 12, 3) := by decide +kernel
theorem dX2_gapWidth_13 : decode cX2_gapWidth 13 = .ok (.aload_n 0, 1) := by decide +kernel
theorem dX2_gapWidth_14 : decode cX2_gapWidth 14 = .ok (.getfield 25, 3) := by decide +kernel
theorem dX2_gapWidth_17 : decode cX2_gapWidth 17 = .ok (.iload_n 1, 1) := by decide +kernel
theorem dX2_gapWidth_18 : decode cX2_gapWidth 18 = .ok (.iaload, 1) := by decide +kernel
theorem dX2_gapWidth_19 : decode cX2_gapWidth 19 = .ok (.goto 4, 3) := by decide +kernel
theorem dX2_gapWidth_22 : decode cX2_gapWidth 22 = .ok (.iconst 0, 1) := by decide +kernel
theorem dX2_gapWidth_23 : decode cX2_gapWidth 23 = .ok (.ireturn, 1) := by decide +kernel
def rm_X2_gapWidth : Room := { frames := 0, cells := 0, slots := 0, locals := 0 }
set_option maxRecDepth 100000 in
set_option maxHeartbeats 4000000 in
theorem ok_X2_gapWidth_23 {E : Ev} {X : Xt} {l0 : Launch} {K : Int32 → Hp → Prop} (hC : Cx E X l0 RX2 cX2_gapWidth 2 rm_X2_gapWidth) (hQ : CQ E X "gapWidth" (some .int) rm_X2_gapWidth (KI K)) (s0 : Int32) (h : Hp) (hV : V_X2_gapWidth_23 K s0 h) : WW E X h 0 0 23 [none, none] [.int s0] := by
  unfold V_X2_gapWidth_23 at hV
  exact r_iret hC hQ dX2_gapWidth_23 (Nat.le_of_ble_eq_true rfl) (Nat.le_of_ble_eq_true rfl) ⟨_, rfl, hV⟩
set_option maxRecDepth 100000 in
set_option maxHeartbeats 4000000 in
theorem ok_X2_gapWidth_22 {E : Ev} {X : Xt} {l0 : Launch} {K : Int32 → Hp → Prop} (hC : Cx E X l0 RX2 cX2_gapWidth 2 rm_X2_gapWidth) (hQ : CQ E X "gapWidth" (some .int) rm_X2_gapWidth (KI K)) (h : Hp) (hV : V_X2_gapWidth_22 K  h) : WW E X h 0 0 22 [none, none] [] := by
  unfold V_X2_gapWidth_22 at hV
  refine r_iconst (v := 0) hC dX2_gapWidth_22 (by decide) ?_
  exact ok_X2_gapWidth_23 hC hQ 0 h hV
set_option maxRecDepth 100000 in
set_option maxHeartbeats 4000000 in
theorem ok_X2_gapWidth_0 {E : Ev} {X : Xt} {l0 : Launch} {K : Int32 → Hp → Prop} (hC : Cx E X l0 RX2 cX2_gapWidth 2 rm_X2_gapWidth) (hQ : CQ E X "gapWidth" (some .int) rm_X2_gapWidth (KI K)) (a0 : Nat) (a1 : Int32) (h : Hp) (hV : V_X2_gapWidth a0 a1 h K) : WW E X h 0 0 0 [some (rv a0), some (.int a1)] [] := by
  unfold V_X2_gapWidth at hV
  refine r_iload_n hC dX2_gapWidth_0 rfl ?_
  refine r_if_lt (tgt := 22) hC dX2_gapWidth_1 (by decide) (fun k9 => ?_) (fun k9 => ?_)
  · replace hV := hV.1 k9
    refine r_sub (lo1 := [none, none]) ⟨Or.inl rfl, ⟨Or.inl rfl, trivial⟩⟩ ?_
    exact ok_X2_gapWidth_22 hC hQ  h hV
  · replace hV := hV.2 k9
    refine r_iload_n hC dX2_gapWidth_4 rfl ?_
    refine r_aload_n hC dX2_gapWidth_5 rfl ?_
    obtain ⟨k9, hV⟩ := hV
    refine r_getR hC dX2_gapWidth_6 fl_2_25 rf_2_4 lq_2 k9 ?_
    obtain ⟨k9, hV⟩ := hV
    refine r_alen (kd := 20) hC dX2_gapWidth_9 (by decide) k9 ?_
    refine r_icmp_ge (tgt := 22) hC dX2_gapWidth_10 (by decide) (fun k9 => ?_) (fun k9 => ?_)
    · replace hV := hV.1 k9
      refine r_sub (lo1 := [none, none]) ⟨Or.inl rfl, ⟨Or.inl rfl, trivial⟩⟩ ?_
      exact ok_X2_gapWidth_22 hC hQ  h hV
    · replace hV := hV.2 k9
      refine r_aload_n hC dX2_gapWidth_13 rfl ?_
      obtain ⟨k9, hV⟩ := hV
      refine r_getR hC dX2_gapWidth_14 fl_2_25 rf_2_4 lq_2 k9 ?_
      refine r_iload_n hC dX2_gapWidth_17 rfl ?_
      obtain ⟨k9, k8, hV⟩ := hV
      refine r_iald (kd := 20) hC dX2_gapWidth_18 (by decide) rfl k9 k8 ?_
      refine r_goto (tgt := 23) hC dX2_gapWidth_19 (by decide) ?_
      refine r_sub (lo1 := [none, none]) ⟨Or.inl rfl, ⟨Or.inl rfl, trivial⟩⟩ ?_
      exact ok_X2_gapWidth_23 hC hQ (hI h (hR h a0 4) (ix a1)) h hV
set_option maxRecDepth 100000 in
set_option maxHeartbeats 4000000 in
theorem con_X2_gapWidth {E : Ev} {l0 : Launch} (a0 : Nat) (a1 : Int32) (h : Hp) (K : Int32 → Hp → Prop) (hV : V_X2_gapWidth a0 a1 h K) : Con E l0 yX2_gapWidth cX2_gapWidth 2 (some .int) rm_X2_gapWidth [rv a0, .int a1] h (KI K) := by
  refine Con.of (by decide +kernel) (cat_R (cat_I cat_nil)) (Nat.le_of_ble_eq_true rfl) (fun X hC hQ => ?_)
  refine r_sub (lo1 := [some (rv a0), some (.int a1)]) (show lsub [some (rv a0), some (.int a1)] _ from ⟨Or.inr rfl, ⟨Or.inr rfl, trivial⟩⟩) ?_
  exact ok_X2_gapWidth_0 hC hQ a0 a1 h hV
theorem dX2_hasLine_0 : decode cX2_hasLine 0 = .ok (.iload_n 1, 1) := by decide +kernel
theorem dX2_hasLine_1 : decode cX2_hasLine 1 = .ok (.ifCond .lt 21, 3) := by decide +kernel
theorem dX2_hasLine_4 : decode cX2_hasLine 4 = .ok (.iload_n 1, 1) := by decide +kernel
theorem dX2_hasLine_5 : decode cX2_hasLine 5 = .ok (.aload_n 0, 1) := by decide +kernel
theorem dX2_hasLine_6 : decode cX2_hasLine 6 = .ok (.getfield 28, 3) := by decide +kernel
theorem dX2_hasLine_9 : decode cX2_hasLine 9 = .ok (.if_icmp .ge 13, 3) := by decide +kernel
theorem dX2_hasLine_12 : decode cX2_hasLine 12 = .ok (.iload_n 1, 1) := by decide +kernel
theorem dX2_hasLine_13 : decode cX2_hasLine 13 = .ok (.bipush 30, 2) := by decide +kernel
theorem dX2_hasLine_15 : decode cX2_hasLine 15 = .ok (.if_icmp .ge 7, 3) := by decide +kernel
theorem dX2_hasLine_18 : decode cX2_hasLine 18 = .ok (.iconst 1, 1) := by decide +kernel
theorem dX2_hasLine_19 : decode cX2_hasLine 19 = .ok (.goto 4, 3) := by decide +kernel
theorem dX2_hasLine_22 : decode cX2_hasLine 22 = .ok (.iconst 0, 1) := by decide +kernel
theorem dX2_hasLine_23 : decode cX2_hasLine 23 = .ok (.ireturn, 1) := by decide +kernel
def rm_X2_hasLine : Room := { frames := 0, cells := 0, slots := 0, locals := 0 }
set_option maxRecDepth 100000 in
set_option maxHeartbeats 4000000 in
theorem ok_X2_hasLine_23 {E : Ev} {X : Xt} {l0 : Launch} {K : Int32 → Hp → Prop} (hC : Cx E X l0 RX2 cX2_hasLine 2 rm_X2_hasLine) (hQ : CQ E X "hasLine" (some .boolean) rm_X2_hasLine (KI K)) (s0 : Int32) (h : Hp) (hV : V_X2_hasLine_23 K s0 h) : WW E X h 0 0 23 [none, none] [.int s0] := by
  unfold V_X2_hasLine_23 at hV
  exact r_zret hC hQ dX2_hasLine_23 (Nat.le_of_ble_eq_true rfl) (Nat.le_of_ble_eq_true rfl) hV.1 ⟨_, rfl, hV.2⟩
set_option maxRecDepth 100000 in
set_option maxHeartbeats 4000000 in
theorem ok_X2_hasLine_22 {E : Ev} {X : Xt} {l0 : Launch} {K : Int32 → Hp → Prop} (hC : Cx E X l0 RX2 cX2_hasLine 2 rm_X2_hasLine) (hQ : CQ E X "hasLine" (some .boolean) rm_X2_hasLine (KI K)) (h : Hp) (hV : V_X2_hasLine_22 K  h) : WW E X h 0 0 22 [none, none] [] := by
  unfold V_X2_hasLine_22 at hV
  refine r_iconst (v := 0) hC dX2_hasLine_22 (by decide) ?_
  exact ok_X2_hasLine_23 hC hQ 0 h hV
set_option maxRecDepth 100000 in
set_option maxHeartbeats 4000000 in
theorem ok_X2_hasLine_0 {E : Ev} {X : Xt} {l0 : Launch} {K : Int32 → Hp → Prop} (hC : Cx E X l0 RX2 cX2_hasLine 2 rm_X2_hasLine) (hQ : CQ E X "hasLine" (some .boolean) rm_X2_hasLine (KI K)) (a0 : Nat) (a1 : Int32) (h : Hp) (hV : V_X2_hasLine a0 a1 h K) : WW E X h 0 0 0 [some (rv a0), some (.int a1)] [] := by
  unfold V_X2_hasLine at hV
  refine r_iload_n hC dX2_hasLine_0 rfl ?_
  refine r_if_lt (tgt := 22) hC dX2_hasLine_1 (by decide) (fun k9 => ?_) (fun k9 => ?_)
  · replace hV := hV.1 k9
    refine r_sub (lo1 := [none, none]) ⟨Or.inl rfl, ⟨Or.inl rfl, trivial⟩⟩ ?_
    exact ok_X2_hasLine_22 hC hQ  h hV
  · replace hV := hV.2 k9
    refine r_iload_n hC dX2_hasLine_4 rfl ?_
    refine r_aload_n hC dX2_hasLine_5 rfl ?_
    obtain ⟨k9, hV⟩ := hV
    refine r_getI hC dX2_hasLine_6 fl_2_28 rf_2_5 lq_2 k9 ?_
    refine r_icmp_ge (tgt := 22) hC dX2_hasLine_9 (by decide) (fun k9 => ?_) (fun k9 => ?_)
    · replace hV := hV.1 k9
      refine r_sub (lo1 := [none, none]) ⟨Or.inl rfl, ⟨Or.inl rfl, trivial⟩⟩ ?_
      exact ok_X2_hasLine_22 hC hQ  h hV
    · replace hV := hV.2 k9
      refine r_iload_n hC dX2_hasLine_12 rfl ?_
      refine r_bipush (v := 30) hC dX2_hasLine_13 (by decide) ?_
      refine r_icmp_ge (tgt := 22) hC dX2_hasLine_15 (by decide) (fun k9 => ?_) (fun k9 => ?_)
      · replace hV := hV.1 k9
        refine r_sub (lo1 := [none, none]) ⟨Or.inl rfl, ⟨Or.inl rfl, trivial⟩⟩ ?_
        exact ok_X2_hasLine_22 hC hQ  h hV
      · replace hV := hV.2 k9
        refine r_iconst (v := 1) hC dX2_hasLine_18 (by decide) ?_
        refine r_goto (tgt := 23) hC dX2_hasLine_19 (by decide) ?_
        refine r_sub (lo1 := [none, none]) ⟨Or.inl rfl, ⟨Or.inl rfl, trivial⟩⟩ ?_
        exact ok_X2_hasLine_23 hC hQ 1 h hV
set_option maxRecDepth 100000 in
set_option maxHeartbeats 4000000 in
theorem con_X2_hasLine {E : Ev} {l0 : Launch} (a0 : Nat) (a1 : Int32) (h : Hp) (K : Int32 → Hp → Prop) (hV : V_X2_hasLine a0 a1 h K) : Con E l0 yX2_hasLine cX2_hasLine 2 (some .boolean) rm_X2_hasLine [rv a0, .int a1] h (KI K) := by
  refine Con.of (by decide +kernel) (cat_R (cat_I cat_nil)) (Nat.le_of_ble_eq_true rfl) (fun X hC hQ => ?_)
  refine r_sub (lo1 := [some (rv a0), some (.int a1)]) (show lsub [some (rv a0), some (.int a1)] _ from ⟨Or.inr rfl, ⟨Or.inr rfl, trivial⟩⟩) ?_
  exact ok_X2_hasLine_0 hC hQ a0 a1 h hV
theorem dX2_init_0 : decode cX2_init 0 = .ok (.aload_n 0, 1) := by decide +kernel
theorem dX2_init_1 : decode cX2_init 1 = .ok (.invokespecial 3, 3) := by decide +kernel
theorem dX2_init_4 : decode cX2_init 4 = .ok (.aload_n 0, 1) := by decide +kernel
theorem dX2_init_5 : decode cX2_init 5 = .ok (.bipush 60, 2) := by decide +kernel
theorem dX2_init_7 : decode cX2_init 7 = .ok (.newarray .char, 2) := by decide +kernel
theorem dX2_init_9 : decode cX2_init 9 = .ok (.putfield 9, 3) := by decide +kernel
theorem dX2_init_12 : decode cX2_init 12 = .ok (.aload_n 0, 1) := by decide +kernel
theorem dX2_init_13 : decode cX2_init 13 = .ok (.bipush 26, 2) := by decide +kernel
theorem dX2_init_15 : decode cX2_init 15 = .ok (.newarray .int, 2) := by decide +kernel
theorem dX2_init_17 : decode cX2_init 17 = .ok (.putfield 15, 3) := by decide +kernel
theorem dX2_init_20 : decode cX2_init 20 = .ok (.aload_n 0, 1) := by decide +kernel
theorem dX2_init_21 : decode cX2_init 21 = .ok (.bipush 30, 2) := by decide +kernel
theorem dX2_init_23 : decode cX2_init 23 = .ok (.newarray .int, 2) := by decide +kernel
theorem dX2_init_25 : decode cX2_init 25 = .ok (.putfield 19, 3) := by decide +kernel
theorem dX2_init_28 : decode cX2_init 28 = .ok (.aload_n 0, 1) := by decide +kernel
theorem dX2_init_29 : decode cX2_init 29 = .ok (.bipush 30, 2) := by decide +kernel
theorem dX2_init_31 : decode cX2_init 31 = .ok (.newarray .int, 2) := by decide +kernel
theorem dX2_init_33 : decode cX2_init 33 = .ok (.putfield 22, 3) := by decide +kernel
theorem dX2_init_36 : decode cX2_init 36 = .ok (.aload_n 0, 1) := by decide +kernel
theorem dX2_init_37 : decode cX2_init 37 = .ok (.bipush 30, 2) := by decide +kernel
theorem dX2_init_39 : decode cX2_init 39 = .ok (.newarray .int, 2) := by decide +kernel
theorem dX2_init_41 : decode cX2_init 41 = .ok (.putfield 25, 3) := by decide +kernel
theorem dX2_init_44 : decode cX2_init 44 = .ok (.aload_n 0, 1) := by decide +kernel
theorem dX2_init_45 : decode cX2_init 45 = .ok (.iconst 0, 1) := by decide +kernel
theorem dX2_init_46 : decode cX2_init 46 = .ok (.putfield 28, 3) := by decide +kernel
theorem dX2_init_49 : decode cX2_init 49 = .ok (.aload_n 0, 1) := by decide +kernel
theorem dX2_init_50 : decode cX2_init 50 = .ok (.iconst 0, 1) := by decide +kernel
theorem dX2_init_51 : decode cX2_init 51 = .ok (.putfield 32, 3) := by decide +kernel
theorem dX2_init_54 : decode cX2_init 54 = .ok (.aload_n 0, 1) := by decide +kernel
theorem dX2_init_55 : decode cX2_init 55 = .ok (.iconst 0, 1) := by decide +kernel
theorem dX2_init_56 : decode cX2_init 56 = .ok (.putfield 35, 3) := by decide +kernel
theorem dX2_init_59 : decode cX2_init 59 = .ok (.aload_n 0, 1) := by decide +kernel
theorem dX2_init_60 : decode cX2_init 60 = .ok (.iconst 0, 1) := by decide +kernel
theorem dX2_init_61 : decode cX2_init 61 = .ok (.putfield 38, 3) := by decide +kernel
theorem dX2_init_64 : decode cX2_init 64 = .ok (.iconst 0, 1) := by decide +kernel
theorem dX2_init_65 : decode cX2_init 65 = .ok (.istore_n 3, 1) := by decide +kernel
theorem dX2_init_66 : decode cX2_init 66 = .ok (.aload_n 1, 1) := by decide +kernel
theorem dX2_init_67 : decode cX2_init 67 = .ok (.getfield 42, 3) := by decide +kernel
theorem dX2_init_70 : decode cX2_init 70 = .ok (.bipush 60, 2) := by decide +kernel
theorem dX2_init_72 : decode cX2_init 72 = .ok (.invokestatic 47, 3) := by decide +kernel
theorem dX2_init_75 : decode cX2_init 75 = .ok (.istore 4, 2) := by decide +kernel
theorem dX2_init_77 : decode cX2_init 77 = .ok (.iconst 0, 1) := by decide +kernel
theorem dX2_init_78 : decode cX2_init 78 = .ok (.istore 5, 2) := by decide +kernel
theorem dX2_init_80 : decode cX2_init 80 = .ok (.iload 5, 2) := by decide +kernel
theorem dX2_init_82 : decode cX2_init 82 = .ok (.iload 4, 2) := by decide +kernel
theorem dX2_init_84 : decode cX2_init 84 = .ok (.if_icmp .ge 48, 3) := by decide +kernel
theorem dX2_init_87 : decode cX2_init 87 = .ok (.aload_n 0, 1) := by decide +kernel
theorem dX2_init_88 : decode cX2_init 88 = .ok (.getfield 9, 3) := by decide +kernel
theorem dX2_init_91 : decode cX2_init 91 = .ok (.iload 5, 2) := by decide +kernel
theorem dX2_init_93 : decode cX2_init 93 = .ok (.aload_n 1, 1) := by decide +kernel
theorem dX2_init_94 : decode cX2_init 94 = .ok (.getfield 53, 3) := by decide +kernel
theorem dX2_init_97 : decode cX2_init 97 = .ok (.iload 5, 2) := by decide +kernel
theorem dX2_init_99 : decode cX2_init 99 = .ok (.caload, 1) := by decide +kernel
theorem dX2_init_100 : decode cX2_init 100 = .ok (.castore, 1) := by decide +kernel
theorem dX2_init_101 : decode cX2_init 101 = .ok (.aload_n 0, 1) := by decide +kernel
theorem dX2_init_102 : decode cX2_init 102 = .ok (.getfield 9, 3) := by decide +kernel
theorem dX2_init_105 : decode cX2_init 105 = .ok (.iload 5, 2) := by decide +kernel
theorem dX2_init_107 : decode cX2_init 107 = .ok (.caload, 1) := by decide +kernel
theorem dX2_init_108 : decode cX2_init 108 = .ok (.bipush 47, 2) := by decide +kernel
theorem dX2_init_110 : decode cX2_init 110 = .ok (.if_icmp .ne 16, 3) := by decide +kernel
theorem dX2_init_113 : decode cX2_init 113 = .ok (.aload_n 0, 1) := by decide +kernel
theorem dX2_init_114 : decode cX2_init 114 = .ok (.iload_n 3, 1) := by decide +kernel
theorem dX2_init_115 : decode cX2_init 115 = .ok (.iload 5, 2) := by decide +kernel
theorem dX2_init_117 : decode cX2_init 117 = .ok (.iload_n 2, 1) := by decide +kernel
theorem dX2_init_118 : decode cX2_init 118 = .ok (.invokevirtual 56, 3) := by decide +kernel
theorem dX2_init_121 : decode cX2_init 121 = .ok (.iload 5, 2) := by decide +kernel
theorem dX2_init_123 : decode cX2_init 123 = .ok (.iconst 1, 1) := by decide +kernel
theorem dX2_init_124 : decode cX2_init 124 = .ok (.iadd, 1) := by decide +kernel
theorem dX2_init_125 : decode cX2_init 125 = .ok (.istore_n 3, 1) := by decide +kernel
theorem dX2_init_126 : decode cX2_init 126 = .ok (.iinc 5 1, 3) := by decide +kernel
theorem dX2_init_129 : decode cX2_init 129 = .ok (.goto (-49), 3) := by decide +kernel
theorem dX2_init_132 : decode cX2_init 132 = .ok (.aload_n 0, 1) := by decide +kernel
theorem dX2_init_133 : decode cX2_init 133 = .ok (.iload_n 3, 1) := by decide +kernel
theorem dX2_init_134 : decode cX2_init 134 = .ok (.iload 4, 2) := by decide +kernel
theorem dX2_init_136 : decode cX2_init 136 = .ok (.iload_n 2, 1) := by decide +kernel
theorem dX2_init_137 : decode cX2_init 137 = .ok (.invokevirtual 56, 3) := by decide +kernel
theorem dX2_init_140 : decode cX2_init 140 = .ok (.return_, 1) := by decide +kernel
def rm_X2_init : Room := { frames := 2, cells := 5, slots := 176, locals := 52 }
set_option maxRecDepth 100000 in
set_option maxHeartbeats 4000000 in
theorem ok_X2_init_126 {E : Ev} {X : Xt} {l0 : Launch} {K : Hp → Prop} {C80 : Nat → Nat → Int32 → Int32 → Int32 → Int32 → Hp → Prop} (hC : Cx E X l0 RX2 cX2_init 6 rm_X2_init) (hQ : CQ E X "<init>" none rm_X2_init (KV K)) (hC80 : ∀ (a0 : Nat) (a1 : Nat) (a2 : Int32) (a3 : Int32) (a4 : Int32) (a5 : Int32) (h : Hp), C80 a0 a1 a2 a3 a4 a5 h → WW E X h 5 176 80 [some (rv a0), some (rv a1), some (.int a2), some (.int a3), some (.int a4), some (.int a5)] []) (a0 : Nat) (a1 : Nat) (a2 : Int32) (a3 : Int32) (a4 : Int32) (a5 : Int32) (h : Hp) (hV : V_X2_init_126 K C80 a0 a1 a2 a3 a4 a5 h) : WW E X h 5 176 126 [some (rv a0), some (rv a1), some (.int a2), some (.int a3), some (.int a4), some (.int a5)] [] := by
  unfold V_X2_init_126 at hV
  refine r_iinc (v := 1) (lo1 := [some (rv a0), some (rv a1), some (.int a2), some (.int a3), some (.int a4), some (.int (a5 + 1))]) hC dX2_init_126 rfl (by decide) rfl ?_
  refine r_goto (tgt := 80) hC dX2_init_129 (by decide) ?_
  exact hC80 a0 a1 a2 a3 a4 (a5 + 1) h hV
set_option maxRecDepth 100000 in
set_option maxHeartbeats 4000000 in
theorem ok_X2_init_80 {E : Ev} {X : Xt} {l0 : Launch} {K : Hp → Prop} (hC : Cx E X l0 RX2 cX2_init 6 rm_X2_init) (hQ : CQ E X "<init>" none rm_X2_init (KV K)) : ∀ (n : Nat) (a0 : Nat) (a1 : Nat) (a2 : Int32) (a3 : Int32) (a4 : Int32) (a5 : Int32) (h : Hp), V_X2_init_80 K n a0 a1 a2 a3 a4 a5 h → WW E X h 5 176 80 [some (rv a0), some (rv a1), some (.int a2), some (.int a3), some (.int a4), some (.int a5)] [] := by
  intro n
  induction n with
  | zero => intro a0 a1 a2 a3 a4 a5 h hV; exact hV.elim
  | succ n ih =>
    intro a0 a1 a2 a3 a4 a5 h hV
    unfold V_X2_init_80 at hV
    refine r_iload hC dX2_init_80 rfl ?_
    refine r_iload hC dX2_init_82 rfl ?_
    refine r_icmp_ge (tgt := 132) hC dX2_init_84 (by decide) (fun k9 => ?_) (fun k9 => ?_)
    · replace hV := hV.1 k9
      refine r_aload_n hC dX2_init_132 rfl ?_
      refine r_iload_n hC dX2_init_133 rfl ?_
      refine r_iload hC dX2_init_134 rfl ?_
      refine r_iload_n hC dX2_init_136 rfl ?_
      obtain ⟨k9, hV⟩ := hV
      refine r_callV (ci := 2) (As := [.int a3, .int a4, .int a2]) hC dX2_init_137 rfl cf_X2_addLine ml_2_56 im_X2_addLine sl_X2_addLine lq_2 rfl rfl k9 rfl ⟨Nat.le_of_ble_eq_true rfl, Nat.le_of_ble_eq_true rfl, Nat.le_of_ble_eq_true rfl, Nat.le_of_ble_eq_true rfl⟩ cs0 (Nat.le_of_ble_eq_true rfl) (con_X2_addLine a0 a3 a4 a2 h _ hV) rfl (kV (k := 5) (n := 176) (fun h1 hV => ?_))
      exact r_vret hC hQ dX2_init_140 (Nat.le_of_ble_eq_true rfl) (Nat.le_of_ble_eq_true rfl) ⟨rfl, hV⟩
    · replace hV := hV.2 k9
      refine r_aload_n hC dX2_init_87 rfl ?_
      obtain ⟨k9, hV⟩ := hV
      refine r_getR hC dX2_init_88 fl_2_9 rf_2_0 lq_2 k9 ?_
      refine r_iload hC dX2_init_91 rfl ?_
      refine r_aload_n hC dX2_init_93 rfl ?_
      obtain ⟨k9, hV⟩ := hV
      refine r_getR hC dX2_init_94 fl_2_53 rf_0_0 lq_0 k9 ?_
      refine r_iload hC dX2_init_97 rfl ?_
      obtain ⟨k9, k8, hV⟩ := hV
      refine r_cald (kd := 21) hC dX2_init_99 (by decide) rfl k9 k8 ?_
      obtain ⟨k9, k8, hV⟩ := hV
      refine r_cast (kd := 21) hC dX2_init_100 (by decide) rfl k9 k8 (nmH (fun h1 k9 => ?_))
      replace hV := hV h1 k9
      refine r_aload_n hC dX2_init_101 rfl ?_
      obtain ⟨k9, hV⟩ := hV
      refine r_getR hC dX2_init_102 fl_2_9 rf_2_0 lq_2 k9 ?_
      refine r_iload hC dX2_init_105 rfl ?_
      obtain ⟨k9, k8, hV⟩ := hV
      refine r_cald (kd := 21) hC dX2_init_107 (by decide) rfl k9 k8 ?_
      refine r_bipush (v := 47) hC dX2_init_108 (by decide) ?_
      refine r_icmp_ne (tgt := 126) hC dX2_init_110 (by decide) (fun k9 => ?_) (fun k9 => ?_)
      · replace hV := hV.1 k9
        exact ok_X2_init_126 hC hQ ih a0 a1 a2 a3 a4 a5 h1 hV
      · replace hV := hV.2 k9
        refine r_aload_n hC dX2_init_113 rfl ?_
        refine r_iload_n hC dX2_init_114 rfl ?_
        refine r_iload hC dX2_init_115 rfl ?_
        refine r_iload_n hC dX2_init_117 rfl ?_
        obtain ⟨k9, hV⟩ := hV
        refine r_callV (ci := 2) (As := [.int a3, .int a5, .int a2]) hC dX2_init_118 rfl cf_X2_addLine ml_2_56 im_X2_addLine sl_X2_addLine lq_2 rfl rfl k9 rfl ⟨Nat.le_of_ble_eq_true rfl, Nat.le_of_ble_eq_true rfl, Nat.le_of_ble_eq_true rfl, Nat.le_of_ble_eq_true rfl⟩ cs0 (Nat.le_of_ble_eq_true rfl) (con_X2_addLine a0 a3 a5 a2 h1 _ hV) rfl (kV (k := 5) (n := 176) (fun h2 hV => ?_))
        refine r_iload hC dX2_init_121 rfl ?_
        refine r_iconst (v := 1) hC dX2_init_123 (by decide) ?_
        refine r_iadd hC dX2_init_124 ?_
        refine r_istore_n (lo1 := [some (rv a0), some (rv a1), some (.int a2), some (.int (a5 + 1)), some (.int a4), some (.int a5)]) hC dX2_init_125 (Nat.le_of_ble_eq_true rfl) rfl ?_
        exact ok_X2_init_126 hC hQ ih a0 a1 a2 (a5 + 1) a4 a5 h2 hV
set_option maxRecDepth 100000 in
set_option maxHeartbeats 4000000 in
theorem ok_X2_init_0 {E : Ev} {X : Xt} {l0 : Launch} {K : Hp → Prop} (hC : Cx E X l0 RX2 cX2_init 6 rm_X2_init) (hQ : CQ E X "<init>" none rm_X2_init (KV K)) (a0 : Nat) (a1 : Nat) (a2 : Int32) (h : Hp) (hV : V_X2_init a0 a1 a2 h K) : WW E X h 0 0 0 [some (rv a0), some (rv a1), some (.int a2), none, none, none] [] := by
  unfold V_X2_init at hV
  refine r_aload_n hC dX2_init_0 rfl ?_
  obtain ⟨k9, hV⟩ := hV
  refine r_obj hC dX2_init_1 rfl ml_2_3 obj_i obj_c k9 cs0 ⟨Nat.le_of_ble_eq_true rfl, Nat.le_of_ble_eq_true rfl⟩ ?_
  refine r_aload_n hC dX2_init_4 rfl ?_
  refine r_bipush (v := 60) hC dX2_init_5 (by decide) ?_
  refine r_newarr (kd := 21) (d := 1) (N := 60) hC dX2_init_7 (by decide) rfl (by decide) rfl ka_1 (by decide) (by decide) (by decide) ⟨Nat.le_of_ble_eq_true rfl, Nat.le_of_ble_eq_true rfl⟩ (fun q1 k9 k8 => nmH (fun h1 k7 => ?_))
  replace hV := hV q1 k9 k8 h1 k7
  obtain ⟨k9, hV⟩ := hV
  refine r_putFR hC hQ dX2_init_9 fl_2_9 ft_2 rfl rfl rf_2_0 ty_2_0 lq_2 k9 (nmH (fun h2 k9 => ?_))
  replace hV := hV h2 k9
  refine r_aload_n hC dX2_init_12 rfl ?_
  refine r_bipush (v := 26) hC dX2_init_13 (by decide) ?_
  refine r_newarr (kd := 20) (d := 0) (N := 26) hC dX2_init_15 (by decide) rfl (by decide) rfl ka_0 (by decide) (by decide) (by decide) ⟨Nat.le_of_ble_eq_true rfl, Nat.le_of_ble_eq_true rfl⟩ (fun q2 k9 k8 => nmH (fun h3 k7 => ?_))
  replace hV := hV q2 k9 k8 h3 k7
  obtain ⟨k9, hV⟩ := hV
  refine r_putFR hC hQ dX2_init_17 fl_2_15 ft_2 rfl rfl rf_2_1 ty_2_1 lq_2 k9 (nmH (fun h4 k9 => ?_))
  replace hV := hV h4 k9
  refine r_aload_n hC dX2_init_20 rfl ?_
  refine r_bipush (v := 30) hC dX2_init_21 (by decide) ?_
  refine r_newarr (kd := 20) (d := 0) (N := 30) hC dX2_init_23 (by decide) rfl (by decide) rfl ka_0 (by decide) (by decide) (by decide) ⟨Nat.le_of_ble_eq_true rfl, Nat.le_of_ble_eq_true rfl⟩ (fun q3 k9 k8 => nmH (fun h5 k7 => ?_))
  replace hV := hV q3 k9 k8 h5 k7
  obtain ⟨k9, hV⟩ := hV
  refine r_putFR hC hQ dX2_init_25 fl_2_19 ft_2 rfl rfl rf_2_2 ty_2_2 lq_2 k9 (nmH (fun h6 k9 => ?_))
  replace hV := hV h6 k9
  refine r_aload_n hC dX2_init_28 rfl ?_
  refine r_bipush (v := 30) hC dX2_init_29 (by decide) ?_
  refine r_newarr (kd := 20) (d := 0) (N := 30) hC dX2_init_31 (by decide) rfl (by decide) rfl ka_0 (by decide) (by decide) (by decide) ⟨Nat.le_of_ble_eq_true rfl, Nat.le_of_ble_eq_true rfl⟩ (fun q4 k9 k8 => nmH (fun h7 k7 => ?_))
  replace hV := hV q4 k9 k8 h7 k7
  obtain ⟨k9, hV⟩ := hV
  refine r_putFR hC hQ dX2_init_33 fl_2_22 ft_2 rfl rfl rf_2_3 ty_2_3 lq_2 k9 (nmH (fun h8 k9 => ?_))
  replace hV := hV h8 k9
  refine r_aload_n hC dX2_init_36 rfl ?_
  refine r_bipush (v := 30) hC dX2_init_37 (by decide) ?_
  refine r_newarr (kd := 20) (d := 0) (N := 30) hC dX2_init_39 (by decide) rfl (by decide) rfl ka_0 (by decide) (by decide) (by decide) ⟨Nat.le_of_ble_eq_true rfl, Nat.le_of_ble_eq_true rfl⟩ (fun q5 k9 k8 => nmH (fun h9 k7 => ?_))
  replace hV := hV q5 k9 k8 h9 k7
  obtain ⟨k9, hV⟩ := hV
  refine r_putFR hC hQ dX2_init_41 fl_2_25 ft_2 rfl rfl rf_2_4 ty_2_4 lq_2 k9 (nmH (fun h10 k9 => ?_))
  replace hV := hV h10 k9
  refine r_aload_n hC dX2_init_44 rfl ?_
  refine r_iconst (v := 0) hC dX2_init_45 (by decide) ?_
  obtain ⟨k9, hV⟩ := hV
  refine r_putI hC dX2_init_46 fl_2_28 ft_2 rfl rf_2_5 ty_2_5 lq_2 k9 (nmH (fun h11 k9 => ?_))
  replace hV := hV h11 k9
  refine r_aload_n hC dX2_init_49 rfl ?_
  refine r_iconst (v := 0) hC dX2_init_50 (by decide) ?_
  obtain ⟨k9, hV⟩ := hV
  refine r_putI hC dX2_init_51 fl_2_32 ft_2 rfl rf_2_6 ty_2_6 lq_2 k9 (nmH (fun h12 k9 => ?_))
  replace hV := hV h12 k9
  refine r_aload_n hC dX2_init_54 rfl ?_
  refine r_iconst (v := 0) hC dX2_init_55 (by decide) ?_
  obtain ⟨k9, hV⟩ := hV
  refine r_putI hC dX2_init_56 fl_2_35 ft_2 rfl rf_2_7 ty_2_7 lq_2 k9 (nmH (fun h13 k9 => ?_))
  replace hV := hV h13 k9
  refine r_aload_n hC dX2_init_59 rfl ?_
  refine r_iconst (v := 0) hC dX2_init_60 (by decide) ?_
  obtain ⟨k9, hV⟩ := hV
  obtain ⟨k8, hV⟩ := hV
  refine r_putZ hC dX2_init_61 fl_2_38 ft_2 rfl rf_2_8 ty_2_8 lq_2 k9 k8 (nmH (fun h14 k9 => ?_))
  replace hV := hV h14 k9
  refine r_iconst (v := 0) hC dX2_init_64 (by decide) ?_
  refine r_istore_n (lo1 := [some (rv a0), some (rv a1), some (.int a2), some (.int 0), none, none]) hC dX2_init_65 (Nat.le_of_ble_eq_true rfl) rfl ?_
  refine r_aload_n hC dX2_init_66 rfl ?_
  obtain ⟨k9, hV⟩ := hV
  refine r_getI hC dX2_init_67 fl_2_42 rf_0_1 lq_0 k9 ?_
  refine r_bipush (v := 60) hC dX2_init_70 (by decide) ?_
  refine r_min hC dX2_init_72 rfl ml_2_47 mmin_s mth_i mmin_c cs0 ⟨Nat.le_of_ble_eq_true rfl, Nat.le_of_ble_eq_true rfl, Nat.le_of_ble_eq_true rfl, Nat.le_of_ble_eq_true rfl⟩ ?_
  refine r_istore (lo1 := [some (rv a0), some (rv a1), some (.int a2), some (.int 0), some (.int (if 60 < hI h14 a1 1 then 60 else hI h14 a1 1)), none]) hC dX2_init_75 (Nat.le_of_ble_eq_true rfl) rfl ?_
  refine r_iconst (v := 0) hC dX2_init_77 (by decide) ?_
  refine r_istore (lo1 := [some (rv a0), some (rv a1), some (.int a2), some (.int 0), some (.int (if 60 < hI h14 a1 1 then 60 else hI h14 a1 1)), some (.int 0)]) hC dX2_init_78 (Nat.le_of_ble_eq_true rfl) rfl ?_
  obtain ⟨n9, hV⟩ := hV
  exact ok_X2_init_80 hC hQ n9 a0 a1 a2 0 (if 60 < hI h14 a1 1 then 60 else hI h14 a1 1) 0 h14 hV
set_option maxRecDepth 100000 in
set_option maxHeartbeats 4000000 in
theorem con_X2_init {E : Ev} {l0 : Launch} (a0 : Nat) (a1 : Nat) (a2 : Int32) (h : Hp) (K : Hp → Prop) (hV : V_X2_init a0 a1 a2 h K) : Con E l0 yX2_init cX2_init 6 none rm_X2_init [rv a0, rv a1, .int a2] h (KV K) := by
  refine Con.of (by decide +kernel) (cat_R (cat_R (cat_I cat_nil))) (Nat.le_of_ble_eq_true rfl) (fun X hC hQ => ?_)
  refine r_sub (lo1 := [some (rv a0), some (rv a1), some (.int a2), none, none, none]) (show lsub [some (rv a0), some (rv a1), some (.int a2), none, none, none] _ from ⟨Or.inr rfl, ⟨Or.inr rfl, ⟨Or.inr rfl, ⟨Or.inr rfl, ⟨Or.inr rfl, ⟨Or.inr rfl, trivial⟩⟩⟩⟩⟩⟩) ?_
  exact ok_X2_init_0 hC hQ a0 a1 a2 h hV
theorem dX2_lineStart_0 : decode cX2_lineStart 0 = .ok (.iload_n 1, 1) := by decide +kernel
theorem dX2_lineStart_1 : decode cX2_lineStart 1 = .ok (.ifCond .le 25, 3) := by decide +kernel
theorem dX2_lineStart_4 : decode cX2_lineStart 4 = .ok (.iload_n 1, 1) := by decide +kernel
theorem dX2_lineStart_5 : decode cX2_lineStart 5 = .ok (.aload_n 0, 1) := by decide +kernel
theorem dX2_lineStart_6 : decode cX2_lineStart 6 = .ok (.getfield 19, 3) := by decide +kernel
theorem dX2_lineStart_9 : decode cX2_lineStart 9 = .ok (.arraylength, 1) := by decide +kernel
theorem dX2_lineStart_10 : decode cX2_lineStart 10 = .ok (.if_icmp .ge 16, 3) := by decide +kernel
theorem dX2_lineStart_13 : decode cX2_lineStart 13 = .ok (.aload_n 0, 1) := by decide +kernel
theorem dX2_lineStart_14 : decode cX2_lineStart 14 = .ok (.getfield 19, 3) := by decide +kernel
theorem dX2_lineStart_17 : decode cX2_lineStart 17 = .ok (.iload_n 1, 1) := by decide +kernel
theorem dX2_lineStart_18 : decode cX2_lineStart 18 = .ok (.iconst 1, 1) := by decide +kernel
theorem dX2_lineStart_19 : decode cX2_lineStart 19 = .ok (.isub, 1) := by decide +kernel
theorem dX2_lineStart_20 : decode cX2_lineStart 20 = .ok (.iaload, 1) := by decide +kernel
theorem dX2_lineStart_21 : decode cX2_lineStart 21 = .ok (.iconst 1, 1) := by decide +kernel
theorem dX2_lineStart_22 : decode cX2_lineStart 22 = .ok (.iadd, 1) := by decide +kernel
theorem dX2_lineStart_23 : decode cX2_lineStart 23 = .ok (.goto 4, 3) := by decide +kernel
theorem dX2_lineStart_26 : decode cX2_lineStart 26 = .ok (.iconst 0, 1) := by decide +kernel
theorem dX2_lineStart_27 : decode cX2_lineStart 27 = .ok (.ireturn, 1) := by decide +kernel
def rm_X2_lineStart : Room := { frames := 0, cells := 0, slots := 0, locals := 0 }
set_option maxRecDepth 100000 in
set_option maxHeartbeats 4000000 in
theorem ok_X2_lineStart_27 {E : Ev} {X : Xt} {l0 : Launch} {K : Int32 → Hp → Prop} (hC : Cx E X l0 RX2 cX2_lineStart 2 rm_X2_lineStart) (hQ : CQ E X "lineStart" (some .int) rm_X2_lineStart (KI K)) (s0 : Int32) (h : Hp) (hV : V_X2_lineStart_27 K s0 h) : WW E X h 0 0 27 [none, none] [.int s0] := by
  unfold V_X2_lineStart_27 at hV
  exact r_iret hC hQ dX2_lineStart_27 (Nat.le_of_ble_eq_true rfl) (Nat.le_of_ble_eq_true rfl) ⟨_, rfl, hV⟩
set_option maxRecDepth 100000 in
set_option maxHeartbeats 4000000 in
theorem ok_X2_lineStart_26 {E : Ev} {X : Xt} {l0 : Launch} {K : Int32 → Hp → Prop} (hC : Cx E X l0 RX2 cX2_lineStart 2 rm_X2_lineStart) (hQ : CQ E X "lineStart" (some .int) rm_X2_lineStart (KI K)) (h : Hp) (hV : V_X2_lineStart_26 K  h) : WW E X h 0 0 26 [none, none] [] := by
  unfold V_X2_lineStart_26 at hV
  refine r_iconst (v := 0) hC dX2_lineStart_26 (by decide) ?_
  exact ok_X2_lineStart_27 hC hQ 0 h hV
set_option maxRecDepth 100000 in
set_option maxHeartbeats 4000000 in
theorem ok_X2_lineStart_0 {E : Ev} {X : Xt} {l0 : Launch} {K : Int32 → Hp → Prop} (hC : Cx E X l0 RX2 cX2_lineStart 2 rm_X2_lineStart) (hQ : CQ E X "lineStart" (some .int) rm_X2_lineStart (KI K)) (a0 : Nat) (a1 : Int32) (h : Hp) (hV : V_X2_lineStart a0 a1 h K) : WW E X h 0 0 0 [some (rv a0), some (.int a1)] [] := by
  unfold V_X2_lineStart at hV
  refine r_iload_n hC dX2_lineStart_0 rfl ?_
  refine r_if_le (tgt := 26) hC dX2_lineStart_1 (by decide) (fun k9 => ?_) (fun k9 => ?_)
  · replace hV := hV.1 k9
    refine r_sub (lo1 := [none, none]) ⟨Or.inl rfl, ⟨Or.inl rfl, trivial⟩⟩ ?_
    exact ok_X2_lineStart_26 hC hQ  h hV
  · replace hV := hV.2 k9
    refine r_iload_n hC dX2_lineStart_4 rfl ?_
    refine r_aload_n hC dX2_lineStart_5 rfl ?_
    obtain ⟨k9, hV⟩ := hV
    refine r_getR hC dX2_lineStart_6 fl_2_19 rf_2_2 lq_2 k9 ?_
    obtain ⟨k9, hV⟩ := hV
    refine r_alen (kd := 20) hC dX2_lineStart_9 (by decide) k9 ?_
    refine r_icmp_ge (tgt := 26) hC dX2_lineStart_10 (by decide) (fun k9 => ?_) (fun k9 => ?_)
    · replace hV := hV.1 k9
      refine r_sub (lo1 := [none, none]) ⟨Or.inl rfl, ⟨Or.inl rfl, trivial⟩⟩ ?_
      exact ok_X2_lineStart_26 hC hQ  h hV
    · replace hV := hV.2 k9
      refine r_aload_n hC dX2_lineStart_13 rfl ?_
      obtain ⟨k9, hV⟩ := hV
      refine r_getR hC dX2_lineStart_14 fl_2_19 rf_2_2 lq_2 k9 ?_
      refine r_iload_n hC dX2_lineStart_17 rfl ?_
      refine r_iconst (v := 1) hC dX2_lineStart_18 (by decide) ?_
      refine r_isub hC dX2_lineStart_19 ?_
      obtain ⟨k9, k8, hV⟩ := hV
      refine r_iald (kd := 20) hC dX2_lineStart_20 (by decide) rfl k9 k8 ?_
      refine r_iconst (v := 1) hC dX2_lineStart_21 (by decide) ?_
      refine r_iadd hC dX2_lineStart_22 ?_
      refine r_goto (tgt := 27) hC dX2_lineStart_23 (by decide) ?_
      refine r_sub (lo1 := [none, none]) ⟨Or.inl rfl, ⟨Or.inl rfl, trivial⟩⟩ ?_
      exact ok_X2_lineStart_27 hC hQ ((hI h (hR h a0 2) (ix (a1 - 1))) + 1) h hV
set_option maxRecDepth 100000 in
set_option maxHeartbeats 4000000 in
theorem con_X2_lineStart {E : Ev} {l0 : Launch} (a0 : Nat) (a1 : Int32) (h : Hp) (K : Int32 → Hp → Prop) (hV : V_X2_lineStart a0 a1 h K) : Con E l0 yX2_lineStart cX2_lineStart 2 (some .int) rm_X2_lineStart [rv a0, .int a1] h (KI K) := by
  refine Con.of (by decide +kernel) (cat_R (cat_I cat_nil)) (Nat.le_of_ble_eq_true rfl) (fun X hC hQ => ?_)
  refine r_sub (lo1 := [some (rv a0), some (.int a1)]) (show lsub [some (rv a0), some (.int a1)] _ from ⟨Or.inr rfl, ⟨Or.inr rfl, trivial⟩⟩) ?_
  exact ok_X2_lineStart_0 hC hQ a0 a1 h hV
theorem dX2_signAt_0 : decode cX2_signAt 0 = .ok (.iload_n 1, 1) := by decide +kernel
theorem dX2_signAt_1 : decode cX2_signAt 1 = .ok (.ifCond .lt 21, 3) := by decide +kernel
theorem dX2_signAt_4 : decode cX2_signAt 4 = .ok (.iload_n 1, 1) := by decide +kernel
theorem dX2_signAt_5 : decode cX2_signAt 5 = .ok (.aload_n 0, 1) := by decide +kernel
theorem dX2_signAt_6 : decode cX2_signAt 6 = .ok (.getfield 9, 3) := by decide +kernel
theorem dX2_signAt_9 : decode cX2_signAt 9 = .ok (.arraylength, 1) := by decide +kernel
theorem dX2_signAt_10 : decode cX2_signAt 10 = .ok (.if_icmp .ge 12, 3) := by decide +kernel
theorem dX2_signAt_13 : decode cX2_signAt 13 = .ok (.aload_n 0, 1) := by decide +kernel
theorem dX2_signAt_14 : decode cX2_signAt 14 = .ok (.getfield 9, 3) := by decide +kernel
theorem dX2_signAt_17 : decode cX2_signAt 17 = .ok (.iload_n 1, 1) := by decide +kernel
theorem dX2_signAt_18 : decode cX2_signAt 18 = .ok (.caload, 1) := by decide +kernel
theorem dX2_signAt_19 : decode cX2_signAt 19 = .ok (.goto 5, 3) := by decide +kernel
theorem dX2_signAt_22 : decode cX2_signAt 22 = .ok (.bipush 32, 2) := by decide +kernel
theorem dX2_signAt_24 : decode cX2_signAt 24 = .ok (.ireturn, 1) := by decide +kernel
def rm_X2_signAt : Room := { frames := 0, cells := 0, slots := 0, locals := 0 }
set_option maxRecDepth 100000 in
set_option maxHeartbeats 4000000 in
theorem ok_X2_signAt_24 {E : Ev} {X : Xt} {l0 : Launch} {K : Int32 → Hp → Prop} (hC : Cx E X l0 RX2 cX2_signAt 2 rm_X2_signAt) (hQ : CQ E X "signAt" (some .char) rm_X2_signAt (KI K)) (s0 : Int32) (h : Hp) (hV : V_X2_signAt_24 K s0 h) : WW E X h 0 0 24 [none, none] [.int s0] := by
  unfold V_X2_signAt_24 at hV
  exact r_cret hC hQ dX2_signAt_24 (Nat.le_of_ble_eq_true rfl) (Nat.le_of_ble_eq_true rfl) hV.1 ⟨_, rfl, hV.2⟩
set_option maxRecDepth 100000 in
set_option maxHeartbeats 4000000 in
theorem ok_X2_signAt_22 {E : Ev} {X : Xt} {l0 : Launch} {K : Int32 → Hp → Prop} (hC : Cx E X l0 RX2 cX2_signAt 2 rm_X2_signAt) (hQ : CQ E X "signAt" (some .char) rm_X2_signAt (KI K)) (h : Hp) (hV : V_X2_signAt_22 K  h) : WW E X h 0 0 22 [none, none] [] := by
  unfold V_X2_signAt_22 at hV
  refine r_bipush (v := 32) hC dX2_signAt_22 (by decide) ?_
  exact ok_X2_signAt_24 hC hQ 32 h hV
set_option maxRecDepth 100000 in
set_option maxHeartbeats 4000000 in
theorem ok_X2_signAt_0 {E : Ev} {X : Xt} {l0 : Launch} {K : Int32 → Hp → Prop} (hC : Cx E X l0 RX2 cX2_signAt 2 rm_X2_signAt) (hQ : CQ E X "signAt" (some .char) rm_X2_signAt (KI K)) (a0 : Nat) (a1 : Int32) (h : Hp) (hV : V_X2_signAt a0 a1 h K) : WW E X h 0 0 0 [some (rv a0), some (.int a1)] [] := by
  unfold V_X2_signAt at hV
  refine r_iload_n hC dX2_signAt_0 rfl ?_
  refine r_if_lt (tgt := 22) hC dX2_signAt_1 (by decide) (fun k9 => ?_) (fun k9 => ?_)
  · replace hV := hV.1 k9
    refine r_sub (lo1 := [none, none]) ⟨Or.inl rfl, ⟨Or.inl rfl, trivial⟩⟩ ?_
    exact ok_X2_signAt_22 hC hQ  h hV
  · replace hV := hV.2 k9
    refine r_iload_n hC dX2_signAt_4 rfl ?_
    refine r_aload_n hC dX2_signAt_5 rfl ?_
    obtain ⟨k9, hV⟩ := hV
    refine r_getR hC dX2_signAt_6 fl_2_9 rf_2_0 lq_2 k9 ?_
    obtain ⟨k9, hV⟩ := hV
    refine r_alen (kd := 21) hC dX2_signAt_9 (by decide) k9 ?_
    refine r_icmp_ge (tgt := 22) hC dX2_signAt_10 (by decide) (fun k9 => ?_) (fun k9 => ?_)
    · replace hV := hV.1 k9
      refine r_sub (lo1 := [none, none]) ⟨Or.inl rfl, ⟨Or.inl rfl, trivial⟩⟩ ?_
      exact ok_X2_signAt_22 hC hQ  h hV
    · replace hV := hV.2 k9
      refine r_aload_n hC dX2_signAt_13 rfl ?_
      obtain ⟨k9, hV⟩ := hV
      refine r_getR hC dX2_signAt_14 fl_2_9 rf_2_0 lq_2 k9 ?_
      refine r_iload_n hC dX2_signAt_17 rfl ?_
      obtain ⟨k9, k8, hV⟩ := hV
      refine r_cald (kd := 21) hC dX2_signAt_18 (by decide) rfl k9 k8 ?_
      refine r_goto (tgt := 24) hC dX2_signAt_19 (by decide) ?_
      refine r_sub (lo1 := [none, none]) ⟨Or.inl rfl, ⟨Or.inl rfl, trivial⟩⟩ ?_
      exact ok_X2_signAt_24 hC hQ (hI h (hR h a0 0) (ix a1)) h hV
set_option maxRecDepth 100000 in
set_option maxHeartbeats 4000000 in
theorem con_X2_signAt {E : Ev} {l0 : Launch} (a0 : Nat) (a1 : Int32) (h : Hp) (K : Int32 → Hp → Prop) (hV : V_X2_signAt a0 a1 h K) : Con E l0 yX2_signAt cX2_signAt 2 (some .char) rm_X2_signAt [rv a0, .int a1] h (KI K) := by
  refine Con.of (by decide +kernel) (cat_R (cat_I cat_nil)) (Nat.le_of_ble_eq_true rfl) (fun X hC hQ => ?_)
  refine r_sub (lo1 := [some (rv a0), some (.int a1)]) (show lsub [some (rv a0), some (.int a1)] _ from ⟨Or.inr rfl, ⟨Or.inr rfl, trivial⟩⟩) ?_
  exact ok_X2_signAt_0 hC hQ a0 a1 h hV
theorem dX3_init_0 : decode cX3_init 0 = .ok (.aload_n 0, 1) := by decide +kernel
theorem dX3_init_1 : decode cX3_init 1 = .ok (.invokespecial 1, 3) := by decide +kernel
theorem dX3_init_4 : decode cX3_init 4 = .ok (.aload_n 0, 1) := by decide +kernel
theorem dX3_init_5 : decode cX3_init 5 = .ok (.iload_n 1, 1) := by decide +kernel
theorem dX3_init_6 : decode cX3_init 6 = .ok (.putfield 7, 3) := by decide +kernel
theorem dX3_init_9 : decode cX3_init 9 = .ok (.aload_n 0, 1) := by decide +kernel
theorem dX3_init_10 : decode cX3_init 10 = .ok (.iload_n 2, 1) := by decide +kernel
theorem dX3_init_11 : decode cX3_init 11 = .ok (.putfield 13, 3) := by decide +kernel
theorem dX3_init_14 : decode cX3_init 14 = .ok (.aload_n 0, 1) := by decide +kernel
theorem dX3_init_15 : decode cX3_init 15 = .ok (.iload_n 3, 1) := by decide +kernel
theorem dX3_init_16 : decode cX3_init 16 = .ok (.putfield 16, 3) := by decide +kernel
theorem dX3_init_19 : decode cX3_init 19 = .ok (.aload_n 0, 1) := by decide +kernel
theorem dX3_init_20 : decode cX3_init 20 = .ok (.aload 4, 2) := by decide +kernel
theorem dX3_init_22 : decode cX3_init 22 = .ok (.putfield 19, 3) := by decide +kernel
theorem dX3_init_25 : decode cX3_init 25 = .ok (.return_, 1) := by decide +kernel
def rm_X3_init : Room := { frames := 1, cells := 0, slots := 0, locals := 26 }
set_option maxRecDepth 100000 in
set_option maxHeartbeats 4000000 in
theorem ok_X3_init_0 {E : Ev} {X : Xt} {l0 : Launch} {K : Hp → Prop} (hC : Cx E X l0 RX3 cX3_init 5 rm_X3_init) (hQ : CQ E X "<init>" none rm_X3_init (KV K)) (a0 : Nat) (a1 : Int32) (a2 : Int32) (a3 : Int32) (a4 : Nat) (h : Hp) (hV : V_X3_init a0 a1 a2 a3 a4 h K) : WW E X h 0 0 0 [some (rv a0), some (.int a1), some (.int a2), some (.int a3), some (rv a4)] [] := by
  unfold V_X3_init at hV
  refine r_aload_n hC dX3_init_0 rfl ?_
  obtain ⟨k9, hV⟩ := hV
  refine r_obj hC dX3_init_1 rfl ml_3_1 obj_i obj_c k9 cs0 ⟨Nat.le_of_ble_eq_true rfl, Nat.le_of_ble_eq_true rfl⟩ ?_
  refine r_aload_n hC dX3_init_4 rfl ?_
  refine r_iload_n hC dX3_init_5 rfl ?_
  obtain ⟨k9, hV⟩ := hV
  refine r_putFI hC hQ dX3_init_6 fl_3_7 ft_3 rfl rfl rf_3_0 ty_3_0 lq_3 k9 (nmH (fun h1 k9 => ?_))
  replace hV := hV h1 k9
  refine r_aload_n hC dX3_init_9 rfl ?_
  refine r_iload_n hC dX3_init_10 rfl ?_
  obtain ⟨k9, hV⟩ := hV
  refine r_putFI hC hQ dX3_init_11 fl_3_13 ft_3 rfl rfl rf_3_1 ty_3_1 lq_3 k9 (nmH (fun h2 k9 => ?_))
  replace hV := hV h2 k9
  refine r_aload_n hC dX3_init_14 rfl ?_
  refine r_iload_n hC dX3_init_15 rfl ?_
  obtain ⟨k9, hV⟩ := hV
  refine r_putFI hC hQ dX3_init_16 fl_3_16 ft_3 rfl rfl rf_3_2 ty_3_2 lq_3 k9 (nmH (fun h3 k9 => ?_))
  replace hV := hV h3 k9
  refine r_aload_n hC dX3_init_19 rfl ?_
  refine r_aload hC dX3_init_20 rfl ?_
  obtain ⟨k9, hV⟩ := hV
  refine r_putFR hC hQ dX3_init_22 fl_3_19 ft_3 rfl rfl rf_3_3 ty_3_3 lq_3 k9 (nmH (fun h4 k9 => ?_))
  replace hV := hV h4 k9
  exact r_vret hC hQ dX3_init_25 (Nat.le_of_ble_eq_true rfl) (Nat.le_of_ble_eq_true rfl) ⟨rfl, hV⟩
set_option maxRecDepth 100000 in
set_option maxHeartbeats 4000000 in
theorem con_X3_init {E : Ev} {l0 : Launch} (a0 : Nat) (a1 : Int32) (a2 : Int32) (a3 : Int32) (a4 : Nat) (h : Hp) (K : Hp → Prop) (hV : V_X3_init a0 a1 a2 a3 a4 h K) : Con E l0 yX3_init cX3_init 5 none rm_X3_init [rv a0, .int a1, .int a2, .int a3, rv a4] h (KV K) := by
  refine Con.of (by decide +kernel) (cat_R (cat_I (cat_I (cat_I (cat_R cat_nil))))) (Nat.le_of_ble_eq_true rfl) (fun X hC hQ => ?_)
  refine r_sub (lo1 := [some (rv a0), some (.int a1), some (.int a2), some (.int a3), some (rv a4)]) (show lsub [some (rv a0), some (.int a1), some (.int a2), some (.int a3), some (rv a4)] _ from ⟨Or.inr rfl, ⟨Or.inr rfl, ⟨Or.inr rfl, ⟨Or.inr rfl, ⟨Or.inr rfl, trivial⟩⟩⟩⟩⟩) ?_
  exact ok_X3_init_0 hC hQ a0 a1 a2 a3 a4 h hV
theorem dX4_begin_0 : decode cX4_begin 0 = .ok (.aload_n 0, 1) := by decide +kernel
theorem dX4_begin_1 : decode cX4_begin 1 = .ok (.iload_n 1, 1) := by decide +kernel
theorem dX4_begin_2 : decode cX4_begin 2 = .ok (.putfield 7, 3) := by decide +kernel
theorem dX4_begin_5 : decode cX4_begin 5 = .ok (.aload_n 0, 1) := by decide +kernel
theorem dX4_begin_6 : decode cX4_begin 6 = .ok (.iload_n 2, 1) := by decide +kernel
theorem dX4_begin_7 : decode cX4_begin 7 = .ok (.putfield 13, 3) := by decide +kernel
theorem dX4_begin_10 : decode cX4_begin 10 = .ok (.aload_n 0, 1) := by decide +kernel
theorem dX4_begin_11 : decode cX4_begin 11 = .ok (.iconst 0, 1) := by decide +kernel
theorem dX4_begin_12 : decode cX4_begin 12 = .ok (.putfield 25, 3) := by decide +kernel
theorem dX4_begin_15 : decode cX4_begin 15 = .ok (.aload_n 0, 1) := by decide +kernel
theorem dX4_begin_16 : decode cX4_begin 16 = .ok (.iconst 0, 1) := by decide +kernel
theorem dX4_begin_17 : decode cX4_begin 17 = .ok (.putfield 28, 3) := by decide +kernel
theorem dX4_begin_20 : decode cX4_begin 20 = .ok (.aload_n 0, 1) := by decide +kernel
theorem dX4_begin_21 : decode cX4_begin 21 = .ok (.iconst 0, 1) := by decide +kernel
theorem dX4_begin_22 : decode cX4_begin 22 = .ok (.putfield 31, 3) := by decide +kernel
theorem dX4_begin_25 : decode cX4_begin 25 = .ok (.return_, 1) := by decide +kernel
def rm_X4_begin : Room := { frames := 0, cells := 0, slots := 0, locals := 0 }
set_option maxRecDepth 100000 in
set_option maxHeartbeats 4000000 in
theorem ok_X4_begin_0 {E : Ev} {X : Xt} {l0 : Launch} {K : Hp → Prop} (hC : Cx E X l0 RX4 cX4_begin 3 rm_X4_begin) (hQ : CQ E X "begin" none rm_X4_begin (KV K)) (a0 : Nat) (a1 : Int32) (a2 : Int32) (h : Hp) (hV : V_X4_begin a0 a1 a2 h K) : WW E X h 0 0 0 [some (rv a0), some (.int a1), some (.int a2)] [] := by
  unfold V_X4_begin at hV
  refine r_aload_n hC dX4_begin_0 rfl ?_
  refine r_iload_n hC dX4_begin_1 rfl ?_
  obtain ⟨k9, hV⟩ := hV
  refine r_putI hC dX4_begin_2 fl_4_7 ft_4 rfl rf_4_0 ty_4_0 lq_4 k9 (nmH (fun h1 k9 => ?_))
  replace hV := hV h1 k9
  refine r_aload_n hC dX4_begin_5 rfl ?_
  refine r_iload_n hC dX4_begin_6 rfl ?_
  obtain ⟨k9, hV⟩ := hV
  refine r_putI hC dX4_begin_7 fl_4_13 ft_4 rfl rf_4_1 ty_4_1 lq_4 k9 (nmH (fun h2 k9 => ?_))
  replace hV := hV h2 k9
  refine r_aload_n hC dX4_begin_10 rfl ?_
  refine r_iconst (v := 0) hC dX4_begin_11 (by decide) ?_
  obtain ⟨k9, hV⟩ := hV
  refine r_putI hC dX4_begin_12 fl_4_25 ft_4 rfl rf_4_5 ty_4_5 lq_4 k9 (nmH (fun h3 k9 => ?_))
  replace hV := hV h3 k9
  refine r_aload_n hC dX4_begin_15 rfl ?_
  refine r_iconst (v := 0) hC dX4_begin_16 (by decide) ?_
  obtain ⟨k9, hV⟩ := hV
  refine r_putI hC dX4_begin_17 fl_4_28 ft_4 rfl rf_4_6 ty_4_6 lq_4 k9 (nmH (fun h4 k9 => ?_))
  replace hV := hV h4 k9
  refine r_aload_n hC dX4_begin_20 rfl ?_
  refine r_iconst (v := 0) hC dX4_begin_21 (by decide) ?_
  obtain ⟨k9, hV⟩ := hV
  refine r_putI hC dX4_begin_22 fl_4_31 ft_4 rfl rf_4_7 ty_4_7 lq_4 k9 (nmH (fun h5 k9 => ?_))
  replace hV := hV h5 k9
  exact r_vret hC hQ dX4_begin_25 (Nat.le_of_ble_eq_true rfl) (Nat.le_of_ble_eq_true rfl) ⟨rfl, hV⟩
set_option maxRecDepth 100000 in
set_option maxHeartbeats 4000000 in
theorem con_X4_begin {E : Ev} {l0 : Launch} (a0 : Nat) (a1 : Int32) (a2 : Int32) (h : Hp) (K : Hp → Prop) (hV : V_X4_begin a0 a1 a2 h K) : Con E l0 yX4_begin cX4_begin 3 none rm_X4_begin [rv a0, .int a1, .int a2] h (KV K) := by
  refine Con.of (by decide +kernel) (cat_R (cat_I (cat_I cat_nil))) (Nat.le_of_ble_eq_true rfl) (fun X hC hQ => ?_)
  refine r_sub (lo1 := [some (rv a0), some (.int a1), some (.int a2)]) (show lsub [some (rv a0), some (.int a1), some (.int a2)] _ from ⟨Or.inr rfl, ⟨Or.inr rfl, ⟨Or.inr rfl, trivial⟩⟩⟩) ?_
  exact ok_X4_begin_0 hC hQ a0 a1 a2 h hV
theorem dX4_digitAt_0 : decode cX4_digitAt 0 = .ok (.iload_n 1, 1) := by decide +kernel
theorem dX4_digitAt_1 : decode cX4_digitAt 1 = .ok (.aload_n 0, 1) := by decide +kernel
theorem dX4_digitAt_2 : decode cX4_digitAt 2 = .ok (.getfield 16, 3) := by decide +kernel
theorem dX4_digitAt_5 : decode cX4_digitAt 5 = .ok (.if_icmp .ge 6, 3) := by decide +kernel
theorem dX4_digitAt_8 : decode cX4_digitAt 8 = .ok (.bipush 52, 2) := by decide +kernel
theorem dX4_digitAt_10 : decode cX4_digitAt 10 = .ok (.ireturn, 1) := by decide +kernel
theorem dX4_digitAt_11 : decode cX4_digitAt 11 = .ok (.iload_n 1, 1) := by decide +kernel
theorem dX4_digitAt_12 : decode cX4_digitAt 12 = .ok (.aload_n 0, 1) := by decide +kernel
theorem dX4_digitAt_13 : decode cX4_digitAt 13 = .ok (.getfield 16, 3) := by decide +kernel
theorem dX4_digitAt_16 : decode cX4_digitAt 16 = .ok (.aload_n 0, 1) := by decide +kernel
theorem dX4_digitAt_17 : decode cX4_digitAt 17 = .ok (.getfield 19, 3) := by decide +kernel
theorem dX4_digitAt_20 : decode cX4_digitAt 20 = .ok (.iadd, 1) := by decide +kernel
theorem dX4_digitAt_21 : decode cX4_digitAt 21 = .ok (.if_icmp .ge 8, 3) := by decide +kernel
theorem dX4_digitAt_24 : decode cX4_digitAt 24 = .ok (.bipush 50, 2) := by decide +kernel
theorem dX4_digitAt_26 : decode cX4_digitAt 26 = .ok (.goto 5, 3) := by decide +kernel
theorem dX4_digitAt_29 : decode cX4_digitAt 29 = .ok (.bipush 49, 2) := by decide +kernel
theorem dX4_digitAt_31 : decode cX4_digitAt 31 = .ok (.ireturn, 1) := by decide +kernel
def rm_X4_digitAt : Room := { frames := 0, cells := 0, slots := 0, locals := 0 }
set_option maxRecDepth 100000 in
set_option maxHeartbeats 4000000 in
theorem ok_X4_digitAt_31 {E : Ev} {X : Xt} {l0 : Launch} {K : Int32 → Hp → Prop} (hC : Cx E X l0 RX4 cX4_digitAt 2 rm_X4_digitAt) (hQ : CQ E X "digitAt" (some .char) rm_X4_digitAt (KI K)) (s0 : Int32) (h : Hp) (hV : V_X4_digitAt_31 K s0 h) : WW E X h 0 0 31 [none, none] [.int s0] := by
  unfold V_X4_digitAt_31 at hV
  exact r_cret hC hQ dX4_digitAt_31 (Nat.le_of_ble_eq_true rfl) (Nat.le_of_ble_eq_true rfl) hV.1 ⟨_, rfl, hV.2⟩
set_option maxRecDepth 100000 in
set_option maxHeartbeats 4000000 in
theorem ok_X4_digitAt_0 {E : Ev} {X : Xt} {l0 : Launch} {K : Int32 → Hp → Prop} (hC : Cx E X l0 RX4 cX4_digitAt 2 rm_X4_digitAt) (hQ : CQ E X "digitAt" (some .char) rm_X4_digitAt (KI K)) (a0 : Nat) (a1 : Int32) (h : Hp) (hV : V_X4_digitAt a0 a1 h K) : WW E X h 0 0 0 [some (rv a0), some (.int a1)] [] := by
  unfold V_X4_digitAt at hV
  refine r_iload_n hC dX4_digitAt_0 rfl ?_
  refine r_aload_n hC dX4_digitAt_1 rfl ?_
  obtain ⟨k9, hV⟩ := hV
  refine r_getI hC dX4_digitAt_2 fl_4_16 rf_4_2 lq_4 k9 ?_
  refine r_icmp_ge (tgt := 11) hC dX4_digitAt_5 (by decide) (fun k9 => ?_) (fun k9 => ?_)
  · replace hV := hV.1 k9
    refine r_iload_n hC dX4_digitAt_11 rfl ?_
    refine r_aload_n hC dX4_digitAt_12 rfl ?_
    obtain ⟨k9, hV⟩ := hV
    refine r_getI hC dX4_digitAt_13 fl_4_16 rf_4_2 lq_4 k9 ?_
    refine r_aload_n hC dX4_digitAt_16 rfl ?_
    obtain ⟨k9, hV⟩ := hV
    refine r_getI hC dX4_digitAt_17 fl_4_19 rf_4_3 lq_4 k9 ?_
    refine r_iadd hC dX4_digitAt_20 ?_
    refine r_icmp_ge (tgt := 29) hC dX4_digitAt_21 (by decide) (fun k9 => ?_) (fun k9 => ?_)
    · replace hV := hV.1 k9
      refine r_bipush (v := 49) hC dX4_digitAt_29 (by decide) ?_
      refine r_sub (lo1 := [none, none]) ⟨Or.inl rfl, ⟨Or.inl rfl, trivial⟩⟩ ?_
      exact ok_X4_digitAt_31 hC hQ 49 h hV
    · replace hV := hV.2 k9
      refine r_bipush (v := 50) hC dX4_digitAt_24 (by decide) ?_
      refine r_goto (tgt := 31) hC dX4_digitAt_26 (by decide) ?_
      refine r_sub (lo1 := [none, none]) ⟨Or.inl rfl, ⟨Or.inl rfl, trivial⟩⟩ ?_
      exact ok_X4_digitAt_31 hC hQ 50 h hV
  · replace hV := hV.2 k9
    refine r_bipush (v := 52) hC dX4_digitAt_8 (by decide) ?_
    exact r_cret hC hQ dX4_digitAt_10 (Nat.le_of_ble_eq_true rfl) (Nat.le_of_ble_eq_true rfl) hV.1 ⟨_, rfl, hV.2⟩
set_option maxRecDepth 100000 in
set_option maxHeartbeats 4000000 in
theorem con_X4_digitAt {E : Ev} {l0 : Launch} (a0 : Nat) (a1 : Int32) (h : Hp) (K : Int32 → Hp → Prop) (hV : V_X4_digitAt a0 a1 h K) : Con E l0 yX4_digitAt cX4_digitAt 2 (some .char) rm_X4_digitAt [rv a0, .int a1] h (KI K) := by
  refine Con.of (by decide +kernel) (cat_R (cat_I cat_nil)) (Nat.le_of_ble_eq_true rfl) (fun X hC hQ => ?_)
  refine r_sub (lo1 := [some (rv a0), some (.int a1)]) (show lsub [some (rv a0), some (.int a1)] _ from ⟨Or.inr rfl, ⟨Or.inr rfl, trivial⟩⟩) ?_
  exact ok_X4_digitAt_0 hC hQ a0 a1 h hV
theorem dX4_fill_0 : decode cX4_fill 0 = .ok (.aload_n 0, 1) := by decide +kernel
theorem dX4_fill_1 : decode cX4_fill 1 = .ok (.iload_n 1, 1) := by decide +kernel
theorem dX4_fill_2 : decode cX4_fill 2 = .ok (.iconst 4, 1) := by decide +kernel
theorem dX4_fill_3 : decode cX4_fill 3 = .ok (.idiv, 1) := by decide +kernel
theorem dX4_fill_4 : decode cX4_fill 4 = .ok (.aload_n 0, 1) := by decide +kernel
theorem dX4_fill_5 : decode cX4_fill 5 = .ok (.getfield 7, 3) := by decide +kernel
theorem dX4_fill_8 : decode cX4_fill 8 = .ok (.invokestatic 34, 3) := by decide +kernel
theorem dX4_fill_11 : decode cX4_fill 11 = .ok (.putfield 16, 3) := by decide +kernel
theorem dX4_fill_14 : decode cX4_fill 14 = .ok (.iload_n 1, 1) := by decide +kernel
theorem dX4_fill_15 : decode cX4_fill 15 = .ok (.iconst 4, 1) := by decide +kernel
theorem dX4_fill_16 : decode cX4_fill 16 = .ok (.aload_n 0, 1) := by decide +kernel
theorem dX4_fill_17 : decode cX4_fill 17 = .ok (.getfield 16, 3) := by decide +kernel
theorem dX4_fill_20 : decode cX4_fill 20 = .ok (.imul, 1) := by decide +kernel
theorem dX4_fill_21 : decode cX4_fill 21 = .ok (.isub, 1) := by decide +kernel
theorem dX4_fill_22 : decode cX4_fill 22 = .ok (.istore_n 2, 1) := by decide +kernel
theorem dX4_fill_23 : decode cX4_fill 23 = .ok (.aload_n 0, 1) := by decide +kernel
theorem dX4_fill_24 : decode cX4_fill 24 = .ok (.iload_n 2, 1) := by decide +kernel
theorem dX4_fill_25 : decode cX4_fill 25 = .ok (.iconst 2, 1) := by decide +kernel
theorem dX4_fill_26 : decode cX4_fill 26 = .ok (.idiv, 1) := by decide +kernel
theorem dX4_fill_27 : decode cX4_fill 27 = .ok (.aload_n 0, 1) := by decide +kernel
theorem dX4_fill_28 : decode cX4_fill 28 = .ok (.getfield 13, 3) := by decide +kernel
theorem dX4_fill_31 : decode cX4_fill 31 = .ok (.invokestatic 34, 3) := by decide +kernel
theorem dX4_fill_34 : decode cX4_fill 34 = .ok (.putfield 19, 3) := by decide +kernel
theorem dX4_fill_37 : decode cX4_fill 37 = .ok (.aload_n 0, 1) := by decide +kernel
theorem dX4_fill_38 : decode cX4_fill 38 = .ok (.iload_n 2, 1) := by decide +kernel
theorem dX4_fill_39 : decode cX4_fill 39 = .ok (.iconst 2, 1) := by decide +kernel
theorem dX4_fill_40 : decode cX4_fill 40 = .ok (.aload_n 0, 1) := by decide +kernel
theorem dX4_fill_41 : decode cX4_fill 41 = .ok (.getfield 19, 3) := by decide +kernel
theorem dX4_fill_44 : decode cX4_fill 44 = .ok (.imul, 1) := by decide +kernel
theorem dX4_fill_45 : decode cX4_fill 45 = .ok (.isub, 1) := by decide +kernel
theorem dX4_fill_46 : decode cX4_fill 46 = .ok (.putfield 22, 3) := by decide +kernel
theorem dX4_fill_49 : decode cX4_fill 49 = .ok (.aload_n 0, 1) := by decide +kernel
theorem dX4_fill_50 : decode cX4_fill 50 = .ok (.dup, 1) := by decide +kernel
theorem dX4_fill_51 : decode cX4_fill 51 = .ok (.getfield 7, 3) := by decide +kernel
theorem dX4_fill_54 : decode cX4_fill 54 = .ok (.aload_n 0, 1) := by decide +kernel
theorem dX4_fill_55 : decode cX4_fill 55 = .ok (.getfield 16, 3) := by decide +kernel
theorem dX4_fill_58 : decode cX4_fill 58 = .ok (.isub, 1) := by decide +kernel
theorem dX4_fill_59 : decode cX4_fill 59 = .ok (.putfield 7, 3) := by decide +kernel
theorem dX4_fill_62 : decode cX4_fill 62 = .ok (.aload_n 0, 1) := by decide +kernel
theorem dX4_fill_63 : decode cX4_fill 63 = .ok (.dup, 1) := by decide +kernel
theorem dX4_fill_64 : decode cX4_fill 64 = .ok (.getfield 13, 3) := by decide +kernel
theorem dX4_fill_67 : decode cX4_fill 67 = .ok (.aload_n 0, 1) := by decide +kernel
theorem dX4_fill_68 : decode cX4_fill 68 = .ok (.getfield 19, 3) := by decide +kernel
theorem dX4_fill_71 : decode cX4_fill 71 = .ok (.isub, 1) := by decide +kernel
theorem dX4_fill_72 : decode cX4_fill 72 = .ok (.putfield 13, 3) := by decide +kernel
theorem dX4_fill_75 : decode cX4_fill 75 = .ok (.aload_n 0, 1) := by decide +kernel
theorem dX4_fill_76 : decode cX4_fill 76 = .ok (.dup, 1) := by decide +kernel
theorem dX4_fill_77 : decode cX4_fill 77 = .ok (.getfield 25, 3) := by decide +kernel
theorem dX4_fill_80 : decode cX4_fill 80 = .ok (.aload_n 0, 1) := by decide +kernel
theorem dX4_fill_81 : decode cX4_fill 81 = .ok (.getfield 16, 3) := by decide +kernel
theorem dX4_fill_84 : decode cX4_fill 84 = .ok (.iadd, 1) := by decide +kernel
theorem dX4_fill_85 : decode cX4_fill 85 = .ok (.putfield 25, 3) := by decide +kernel
theorem dX4_fill_88 : decode cX4_fill 88 = .ok (.aload_n 0, 1) := by decide +kernel
theorem dX4_fill_89 : decode cX4_fill 89 = .ok (.dup, 1) := by decide +kernel
theorem dX4_fill_90 : decode cX4_fill 90 = .ok (.getfield 28, 3) := by decide +kernel
theorem dX4_fill_93 : decode cX4_fill 93 = .ok (.aload_n 0, 1) := by decide +kernel
theorem dX4_fill_94 : decode cX4_fill 94 = .ok (.getfield 19, 3) := by decide +kernel
theorem dX4_fill_97 : decode cX4_fill 97 = .ok (.iadd, 1) := by decide +kernel
theorem dX4_fill_98 : decode cX4_fill 98 = .ok (.putfield 28, 3) := by decide +kernel
theorem dX4_fill_101 : decode cX4_fill 101 = .ok (.aload_n 0, 1) := by decide +kernel
theorem dX4_fill_102 : decode cX4_fill 102 = .ok (.dup, 1) := by decide +kernel
theorem dX4_fill_103 : decode cX4_fill 103 = .ok (.getfield 31, 3) := by decide +kernel
theorem dX4_fill_106 : decode cX4_fill 106 = .ok (.aload_n 0, 1) := by decide +kernel
theorem dX4_fill_107 : decode cX4_fill 107 = .ok (.getfield 22, 3) := by decide +kernel
theorem dX4_fill_110 : decode cX4_fill 110 = .ok (.iadd, 1) := by decide +kernel
theorem dX4_fill_111 : decode cX4_fill 111 = .ok (.putfield 31, 3) := by decide +kernel
theorem dX4_fill_114 : decode cX4_fill 114 = .ok (.return_, 1) := by decide +kernel
def rm_X4_fill : Room := { frames := 1, cells := 0, slots := 0, locals := 26 }
set_option maxRecDepth 100000 in
set_option maxHeartbeats 4000000 in
theorem ok_X4_fill_0 {E : Ev} {X : Xt} {l0 : Launch} {K : Hp → Prop} (hC : Cx E X l0 RX4 cX4_fill 3 rm_X4_fill) (hQ : CQ E X "fill" none rm_X4_fill (KV K)) (a0 : Nat) (a1 : Int32) (h : Hp) (hV : V_X4_fill a0 a1 h K) : WW E X h 0 0 0 [some (rv a0), some (.int a1), none] [] := by
  unfold V_X4_fill at hV
  refine r_aload_n hC dX4_fill_0 rfl ?_
  refine r_iload_n hC dX4_fill_1 rfl ?_
  refine r_iconst (v := 4) hC dX4_fill_2 (by decide) ?_
  refine r_idiv hC dX4_fill_3 (by decide) ?_
  refine r_aload_n hC dX4_fill_4 rfl ?_
  obtain ⟨k9, hV⟩ := hV
  refine r_getI hC dX4_fill_5 fl_4_7 rf_4_0 lq_4 k9 ?_
  refine r_min hC dX4_fill_8 rfl ml_4_34 mmin_s mth_i mmin_c (csR cs0) ⟨Nat.le_of_ble_eq_true rfl, Nat.le_of_ble_eq_true rfl, Nat.le_of_ble_eq_true rfl, Nat.le_of_ble_eq_true rfl⟩ ?_
  obtain ⟨k9, hV⟩ := hV
  refine r_putI hC dX4_fill_11 fl_4_16 ft_4 rfl rf_4_2 ty_4_2 lq_4 k9 (nmH (fun h1 k9 => ?_))
  replace hV := hV h1 k9
  refine r_iload_n hC dX4_fill_14 rfl ?_
  refine r_iconst (v := 4) hC dX4_fill_15 (by decide) ?_
  refine r_aload_n hC dX4_fill_16 rfl ?_
  obtain ⟨k9, hV⟩ := hV
  refine r_getI hC dX4_fill_17 fl_4_16 rf_4_2 lq_4 k9 ?_
  refine r_imul hC dX4_fill_20 ?_
  refine r_isub hC dX4_fill_21 ?_
  refine r_istore_n (lo1 := [some (rv a0), some (.int a1), some (.int (a1 - (4 * (hI h1 a0 2))))]) hC dX4_fill_22 (Nat.le_of_ble_eq_true rfl) rfl ?_
  refine r_aload_n hC dX4_fill_23 rfl ?_
  refine r_iload_n hC dX4_fill_24 rfl ?_
  refine r_iconst (v := 2) hC dX4_fill_25 (by decide) ?_
  refine r_idiv hC dX4_fill_26 (by decide) ?_
  refine r_aload_n hC dX4_fill_27 rfl ?_
  obtain ⟨k9, hV⟩ := hV
  refine r_getI hC dX4_fill_28 fl_4_13 rf_4_1 lq_4 k9 ?_
  refine r_min hC dX4_fill_31 rfl ml_4_34 mmin_s mth_i mmin_c (csR cs0) ⟨Nat.le_of_ble_eq_true rfl, Nat.le_of_ble_eq_true rfl, Nat.le_of_ble_eq_true rfl, Nat.le_of_ble_eq_true rfl⟩ ?_
  obtain ⟨k9, hV⟩ := hV
  refine r_putI hC dX4_fill_34 fl_4_19 ft_4 rfl rf_4_3 ty_4_3 lq_4 k9 (nmH (fun h2 k9 => ?_))
  replace hV := hV h2 k9
  refine r_aload_n hC dX4_fill_37 rfl ?_
  refine r_iload_n hC dX4_fill_38 rfl ?_
  refine r_iconst (v := 2) hC dX4_fill_39 (by decide) ?_
  refine r_aload_n hC dX4_fill_40 rfl ?_
  obtain ⟨k9, hV⟩ := hV
  refine r_getI hC dX4_fill_41 fl_4_19 rf_4_3 lq_4 k9 ?_
  refine r_imul hC dX4_fill_44 ?_
  refine r_isub hC dX4_fill_45 ?_
  obtain ⟨k9, hV⟩ := hV
  refine r_putI hC dX4_fill_46 fl_4_22 ft_4 rfl rf_4_4 ty_4_4 lq_4 k9 (nmH (fun h3 k9 => ?_))
  replace hV := hV h3 k9
  refine r_aload_n hC dX4_fill_49 rfl ?_
  refine r_dup hC dX4_fill_50 (rv_cat _) ?_
  obtain ⟨k9, hV⟩ := hV
  refine r_getI hC dX4_fill_51 fl_4_7 rf_4_0 lq_4 k9 ?_
  refine r_aload_n hC dX4_fill_54 rfl ?_
  obtain ⟨k9, hV⟩ := hV
  refine r_getI hC dX4_fill_55 fl_4_16 rf_4_2 lq_4 k9 ?_
  refine r_isub hC dX4_fill_58 ?_
  obtain ⟨k9, hV⟩ := hV
  refine r_putI hC dX4_fill_59 fl_4_7 ft_4 rfl rf_4_0 ty_4_0 lq_4 k9 (nmH (fun h4 k9 => ?_))
  replace hV := hV h4 k9
  refine r_aload_n hC dX4_fill_62 rfl ?_
  refine r_dup hC dX4_fill_63 (rv_cat _) ?_
  obtain ⟨k9, hV⟩ := hV
  refine r_getI hC dX4_fill_64 fl_4_13 rf_4_1 lq_4 k9 ?_
  refine r_aload_n hC dX4_fill_67 rfl ?_
  obtain ⟨k9, hV⟩ := hV
  refine r_getI hC dX4_fill_68 fl_4_19 rf_4_3 lq_4 k9 ?_
  refine r_isub hC dX4_fill_71 ?_
  obtain ⟨k9, hV⟩ := hV
  refine r_putI hC dX4_fill_72 fl_4_13 ft_4 rfl rf_4_1 ty_4_1 lq_4 k9 (nmH (fun h5 k9 => ?_))
  replace hV := hV h5 k9
  refine r_aload_n hC dX4_fill_75 rfl ?_
  refine r_dup hC dX4_fill_76 (rv_cat _) ?_
  obtain ⟨k9, hV⟩ := hV
  refine r_getI hC dX4_fill_77 fl_4_25 rf_4_5 lq_4 k9 ?_
  refine r_aload_n hC dX4_fill_80 rfl ?_
  obtain ⟨k9, hV⟩ := hV
  refine r_getI hC dX4_fill_81 fl_4_16 rf_4_2 lq_4 k9 ?_
  refine r_iadd hC dX4_fill_84 ?_
  obtain ⟨k9, hV⟩ := hV
  refine r_putI hC dX4_fill_85 fl_4_25 ft_4 rfl rf_4_5 ty_4_5 lq_4 k9 (nmH (fun h6 k9 => ?_))
  replace hV := hV h6 k9
  refine r_aload_n hC dX4_fill_88 rfl ?_
  refine r_dup hC dX4_fill_89 (rv_cat _) ?_
  obtain ⟨k9, hV⟩ := hV
  refine r_getI hC dX4_fill_90 fl_4_28 rf_4_6 lq_4 k9 ?_
  refine r_aload_n hC dX4_fill_93 rfl ?_
  obtain ⟨k9, hV⟩ := hV
  refine r_getI hC dX4_fill_94 fl_4_19 rf_4_3 lq_4 k9 ?_
  refine r_iadd hC dX4_fill_97 ?_
  obtain ⟨k9, hV⟩ := hV
  refine r_putI hC dX4_fill_98 fl_4_28 ft_4 rfl rf_4_6 ty_4_6 lq_4 k9 (nmH (fun h7 k9 => ?_))
  replace hV := hV h7 k9
  refine r_aload_n hC dX4_fill_101 rfl ?_
  refine r_dup hC dX4_fill_102 (rv_cat _) ?_
  obtain ⟨k9, hV⟩ := hV
  refine r_getI hC dX4_fill_103 fl_4_31 rf_4_7 lq_4 k9 ?_
  refine r_aload_n hC dX4_fill_106 rfl ?_
  obtain ⟨k9, hV⟩ := hV
  refine r_getI hC dX4_fill_107 fl_4_22 rf_4_4 lq_4 k9 ?_
  refine r_iadd hC dX4_fill_110 ?_
  obtain ⟨k9, hV⟩ := hV
  refine r_putI hC dX4_fill_111 fl_4_31 ft_4 rfl rf_4_7 ty_4_7 lq_4 k9 (nmH (fun h8 k9 => ?_))
  replace hV := hV h8 k9
  exact r_vret hC hQ dX4_fill_114 (Nat.le_of_ble_eq_true rfl) (Nat.le_of_ble_eq_true rfl) ⟨rfl, hV⟩
set_option maxRecDepth 100000 in
set_option maxHeartbeats 4000000 in
theorem con_X4_fill {E : Ev} {l0 : Launch} (a0 : Nat) (a1 : Int32) (h : Hp) (K : Hp → Prop) (hV : V_X4_fill a0 a1 h K) : Con E l0 yX4_fill cX4_fill 3 none rm_X4_fill [rv a0, .int a1] h (KV K) := by
  refine Con.of (by decide +kernel) (cat_R (cat_I cat_nil)) (Nat.le_of_ble_eq_true rfl) (fun X hC hQ => ?_)
  refine r_sub (lo1 := [some (rv a0), some (.int a1), none]) (show lsub [some (rv a0), some (.int a1), none] _ from ⟨Or.inr rfl, ⟨Or.inr rfl, ⟨Or.inr rfl, trivial⟩⟩⟩) ?_
  exact ok_X4_fill_0 hC hQ a0 a1 h hV
theorem dX4_init_0 : decode cX4_init 0 = .ok (.aload_n 0, 1) := by decide +kernel
theorem dX4_init_1 : decode cX4_init 1 = .ok (.invokespecial 1, 3) := by decide +kernel
theorem dX4_init_4 : decode cX4_init 4 = .ok (.aload_n 0, 1) := by decide +kernel
theorem dX4_init_5 : decode cX4_init 5 = .ok (.iconst 0, 1) := by decide +kernel
theorem dX4_init_6 : decode cX4_init 6 = .ok (.putfield 7, 3) := by decide +kernel
theorem dX4_init_9 : decode cX4_init 9 = .ok (.aload_n 0, 1) := by decide +kernel
theorem dX4_init_10 : decode cX4_init 10 = .ok (.iconst 0, 1) := by decide +kernel
theorem dX4_init_11 : decode cX4_init 11 = .ok (.putfield 13, 3) := by decide +kernel
theorem dX4_init_14 : decode cX4_init 14 = .ok (.aload_n 0, 1) := by decide +kernel
theorem dX4_init_15 : decode cX4_init 15 = .ok (.iconst 0, 1) := by decide +kernel
theorem dX4_init_16 : decode cX4_init 16 = .ok (.putfield 16, 3) := by decide +kernel
theorem dX4_init_19 : decode cX4_init 19 = .ok (.aload_n 0, 1) := by decide +kernel
theorem dX4_init_20 : decode cX4_init 20 = .ok (.iconst 0, 1) := by decide +kernel
theorem dX4_init_21 : decode cX4_init 21 = .ok (.putfield 19, 3) := by decide +kernel
theorem dX4_init_24 : decode cX4_init 24 = .ok (.aload_n 0, 1) := by decide +kernel
theorem dX4_init_25 : decode cX4_init 25 = .ok (.iconst 0, 1) := by decide +kernel
theorem dX4_init_26 : decode cX4_init 26 = .ok (.putfield 22, 3) := by decide +kernel
theorem dX4_init_29 : decode cX4_init 29 = .ok (.aload_n 0, 1) := by decide +kernel
theorem dX4_init_30 : decode cX4_init 30 = .ok (.iconst 0, 1) := by decide +kernel
theorem dX4_init_31 : decode cX4_init 31 = .ok (.putfield 25, 3) := by decide +kernel
theorem dX4_init_34 : decode cX4_init 34 = .ok (.aload_n 0, 1) := by decide +kernel
theorem dX4_init_35 : decode cX4_init 35 = .ok (.iconst 0, 1) := by decide +kernel
theorem dX4_init_36 : decode cX4_init 36 = .ok (.putfield 28, 3) := by decide +kernel
theorem dX4_init_39 : decode cX4_init 39 = .ok (.aload_n 0, 1) := by decide +kernel
theorem dX4_init_40 : decode cX4_init 40 = .ok (.iconst 0, 1) := by decide +kernel
theorem dX4_init_41 : decode cX4_init 41 = .ok (.putfield 31, 3) := by decide +kernel
theorem dX4_init_44 : decode cX4_init 44 = .ok (.return_, 1) := by decide +kernel
def rm_X4_init : Room := { frames := 1, cells := 0, slots := 0, locals := 26 }
set_option maxRecDepth 100000 in
set_option maxHeartbeats 4000000 in
theorem ok_X4_init_0 {E : Ev} {X : Xt} {l0 : Launch} {K : Hp → Prop} (hC : Cx E X l0 RX4 cX4_init 1 rm_X4_init) (hQ : CQ E X "<init>" none rm_X4_init (KV K)) (a0 : Nat) (h : Hp) (hV : V_X4_init a0 h K) : WW E X h 0 0 0 [some (rv a0)] [] := by
  unfold V_X4_init at hV
  refine r_aload_n hC dX4_init_0 rfl ?_
  obtain ⟨k9, hV⟩ := hV
  refine r_obj hC dX4_init_1 rfl ml_4_1 obj_i obj_c k9 cs0 ⟨Nat.le_of_ble_eq_true rfl, Nat.le_of_ble_eq_true rfl⟩ ?_
  refine r_aload_n hC dX4_init_4 rfl ?_
  refine r_iconst (v := 0) hC dX4_init_5 (by decide) ?_
  obtain ⟨k9, hV⟩ := hV
  refine r_putI hC dX4_init_6 fl_4_7 ft_4 rfl rf_4_0 ty_4_0 lq_4 k9 (nmH (fun h1 k9 => ?_))
  replace hV := hV h1 k9
  refine r_aload_n hC dX4_init_9 rfl ?_
  refine r_iconst (v := 0) hC dX4_init_10 (by decide) ?_
  obtain ⟨k9, hV⟩ := hV
  refine r_putI hC dX4_init_11 fl_4_13 ft_4 rfl rf_4_1 ty_4_1 lq_4 k9 (nmH (fun h2 k9 => ?_))
  replace hV := hV h2 k9
  refine r_aload_n hC dX4_init_14 rfl ?_
  refine r_iconst (v := 0) hC dX4_init_15 (by decide) ?_
  obtain ⟨k9, hV⟩ := hV
  refine r_putI hC dX4_init_16 fl_4_16 ft_4 rfl rf_4_2 ty_4_2 lq_4 k9 (nmH (fun h3 k9 => ?_))
  replace hV := hV h3 k9
  refine r_aload_n hC dX4_init_19 rfl ?_
  refine r_iconst (v := 0) hC dX4_init_20 (by decide) ?_
  obtain ⟨k9, hV⟩ := hV
  refine r_putI hC dX4_init_21 fl_4_19 ft_4 rfl rf_4_3 ty_4_3 lq_4 k9 (nmH (fun h4 k9 => ?_))
  replace hV := hV h4 k9
  refine r_aload_n hC dX4_init_24 rfl ?_
  refine r_iconst (v := 0) hC dX4_init_25 (by decide) ?_
  obtain ⟨k9, hV⟩ := hV
  refine r_putI hC dX4_init_26 fl_4_22 ft_4 rfl rf_4_4 ty_4_4 lq_4 k9 (nmH (fun h5 k9 => ?_))
  replace hV := hV h5 k9
  refine r_aload_n hC dX4_init_29 rfl ?_
  refine r_iconst (v := 0) hC dX4_init_30 (by decide) ?_
  obtain ⟨k9, hV⟩ := hV
  refine r_putI hC dX4_init_31 fl_4_25 ft_4 rfl rf_4_5 ty_4_5 lq_4 k9 (nmH (fun h6 k9 => ?_))
  replace hV := hV h6 k9
  refine r_aload_n hC dX4_init_34 rfl ?_
  refine r_iconst (v := 0) hC dX4_init_35 (by decide) ?_
  obtain ⟨k9, hV⟩ := hV
  refine r_putI hC dX4_init_36 fl_4_28 ft_4 rfl rf_4_6 ty_4_6 lq_4 k9 (nmH (fun h7 k9 => ?_))
  replace hV := hV h7 k9
  refine r_aload_n hC dX4_init_39 rfl ?_
  refine r_iconst (v := 0) hC dX4_init_40 (by decide) ?_
  obtain ⟨k9, hV⟩ := hV
  refine r_putI hC dX4_init_41 fl_4_31 ft_4 rfl rf_4_7 ty_4_7 lq_4 k9 (nmH (fun h8 k9 => ?_))
  replace hV := hV h8 k9
  exact r_vret hC hQ dX4_init_44 (Nat.le_of_ble_eq_true rfl) (Nat.le_of_ble_eq_true rfl) ⟨rfl, hV⟩
set_option maxRecDepth 100000 in
set_option maxHeartbeats 4000000 in
theorem con_X4_init {E : Ev} {l0 : Launch} (a0 : Nat) (h : Hp) (K : Hp → Prop) (hV : V_X4_init a0 h K) : Con E l0 yX4_init cX4_init 1 none rm_X4_init [rv a0] h (KV K) := by
  refine Con.of (by decide +kernel) (cat_R cat_nil) (Nat.le_of_ble_eq_true rfl) (fun X hC hQ => ?_)
  refine r_sub (lo1 := [some (rv a0)]) (show lsub [some (rv a0)] _ from ⟨Or.inr rfl, trivial⟩) ?_
  exact ok_X4_init_0 hC hQ a0 h hV
end
