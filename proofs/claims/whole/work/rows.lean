section
-- ===== PART A: goes FIRST, ahead of the names: the tables' words, and 'selects' of the private methods out of them =====
/-- a private method of a class that the tables say can be made, by its rows of tables_1 -/
def lw_okq (q : MethodName × Nat) : Prop := (q.1.cls ≠ "java/lang/invoke/MethodHandle" ∧ q.1.cls ≠ "java/lang/invoke/VarHandle") ∧ Cond.instantiable q.1.cls q.2 ∈ tables_1 ∧ Cond.privateMethod q.1 ∈ tables_1 ∧ Cond.instanceMethod q.1 ∈ tables_1
theorem lw_p0 : lw_okq (⟨"FileHouse", "judge", "(LFileHouse$StoredFile;I)V"⟩, 15) := ⟨⟨by decide +kernel, by decide +kernel⟩, List.mem_of_getElem? (i := 17) (by decide +kernel), List.mem_of_getElem? (i := 285) (by decide +kernel), List.mem_of_getElem? (i := 286) (by decide +kernel)⟩
theorem lw_p1 : lw_okq (⟨"FileHouse", "makeAt", "(I)LFileHouse$Make;"⟩, 15) := ⟨⟨by decide +kernel, by decide +kernel⟩, List.mem_of_getElem? (i := 17) (by decide +kernel), List.mem_of_getElem? (i := 289) (by decide +kernel), List.mem_of_getElem? (i := 290) (by decide +kernel)⟩
theorem lw_p2 : lw_okq (⟨"FileHouse$Reading", "readRecords", "(III)V"⟩, 7) := ⟨⟨by decide +kernel, by decide +kernel⟩, List.mem_of_getElem? (i := 132) (by decide +kernel), List.mem_of_getElem? (i := 308) (by decide +kernel), List.mem_of_getElem? (i := 309) (by decide +kernel)⟩
theorem lw_p3 : lw_okq (⟨"FileHouse$Reading", "addRecord", "(III)V"⟩, 7) := ⟨⟨by decide +kernel, by decide +kernel⟩, List.mem_of_getElem? (i := 132) (by decide +kernel), List.mem_of_getElem? (i := 315) (by decide +kernel), List.mem_of_getElem? (i := 316) (by decide +kernel)⟩
theorem lw_p4 : lw_okq (⟨"FileHouse", "store", "([III)I"⟩, 15) := ⟨⟨by decide +kernel, by decide +kernel⟩, List.mem_of_getElem? (i := 17) (by decide +kernel), List.mem_of_getElem? (i := 323) (by decide +kernel), List.mem_of_getElem? (i := 324) (by decide +kernel)⟩
theorem lw_p5 : lw_okq (⟨"FileHouse", "fileAt", "(I)LFileHouse$StoredFile;"⟩, 15) := ⟨⟨by decide +kernel, by decide +kernel⟩, List.mem_of_getElem? (i := 17) (by decide +kernel), List.mem_of_getElem? (i := 376) (by decide +kernel), List.mem_of_getElem? (i := 377) (by decide +kernel)⟩
theorem lw_p6 : lw_okq (⟨"FileHouse$Readers", "isTold", "(II)Z"⟩, 3) := ⟨⟨by decide +kernel, by decide +kernel⟩, List.mem_of_getElem? (i := 64) (by decide +kernel), List.mem_of_getElem? (i := 404) (by decide +kernel), List.mem_of_getElem? (i := 405) (by decide +kernel)⟩
theorem lw_p7 : lw_okq (⟨"FileHouse", "isYearToCome", "(I)Z"⟩, 15) := ⟨⟨by decide +kernel, by decide +kernel⟩, List.mem_of_getElem? (i := 17) (by decide +kernel), List.mem_of_getElem? (i := 452) (by decide +kernel), List.mem_of_getElem? (i := 453) (by decide +kernel)⟩
theorem lw_p8 : lw_okq (⟨"FileHouse", "readByOwnMake", "(LFileHouse$StoredFile;LFileHouse$Reading;)V"⟩, 15) := ⟨⟨by decide +kernel, by decide +kernel⟩, List.mem_of_getElem? (i := 17) (by decide +kernel), List.mem_of_getElem? (i := 468) (by decide +kernel), List.mem_of_getElem? (i := 469) (by decide +kernel)⟩
theorem lw_p9 : lw_okq (⟨"FileHouse", "draftTurned", "(LFileHouse$StoredFile;LFileHouse$Turner;)Z"⟩, 15) := ⟨⟨by decide +kernel, by decide +kernel⟩, List.mem_of_getElem? (i := 17) (by decide +kernel), List.mem_of_getElem? (i := 489) (by decide +kernel), List.mem_of_getElem? (i := 490) (by decide +kernel)⟩
theorem lw_p10 : lw_okq (⟨"FileHouse$Reading", "nextWith", "(II)I"⟩, 7) := ⟨⟨by decide +kernel, by decide +kernel⟩, List.mem_of_getElem? (i := 132) (by decide +kernel), List.mem_of_getElem? (i := 510) (by decide +kernel), List.mem_of_getElem? (i := 511) (by decide +kernel)⟩
theorem lw_p11 : lw_okq (⟨"FileHouse$Reading", "sameRecord", "(ILFileHouse$Reading;I)Z"⟩, 7) := ⟨⟨by decide +kernel, by decide +kernel⟩, List.mem_of_getElem? (i := 132) (by decide +kernel), List.mem_of_getElem? (i := 514) (by decide +kernel), List.mem_of_getElem? (i := 515) (by decide +kernel)⟩
theorem lw_p12 : lw_okq (⟨"FileHouse$Roads", "goOneStep", "(ILFileHouse$Turners;LFileHouse$Machines;I)V"⟩, 3) := ⟨⟨by decide +kernel, by decide +kernel⟩, List.mem_of_getElem? (i := 102) (by decide +kernel), List.mem_of_getElem? (i := 530) (by decide +kernel), List.mem_of_getElem? (i := 531) (by decide +kernel)⟩
theorem lw_p13 : lw_okq (⟨"FileHouse$Spans", "goOneStepBack", "(LFileHouse$Turners;LFileHouse$Machines;Z)V"⟩, 2) := ⟨⟨by decide +kernel, by decide +kernel⟩, List.mem_of_getElem? (i := 119) (by decide +kernel), List.mem_of_getElem? (i := 578) (by decide +kernel), List.mem_of_getElem? (i := 579) (by decide +kernel)⟩
theorem lw_p14 : lw_okq (⟨"FileHouse", "cheapestGoal", "(LFileHouse$StoredFile;I)I"⟩, 15) := ⟨⟨by decide +kernel, by decide +kernel⟩, List.mem_of_getElem? (i := 17) (by decide +kernel), List.mem_of_getElem? (i := 601) (by decide +kernel), List.mem_of_getElem? (i := 602) (by decide +kernel)⟩
theorem lw_p15 : lw_okq (⟨"FileHouse", "filesWithoutMake", "()I"⟩, 15) := ⟨⟨by decide +kernel, by decide +kernel⟩, List.mem_of_getElem? (i := 17) (by decide +kernel), List.mem_of_getElem? (i := 620) (by decide +kernel), List.mem_of_getElem? (i := 621) (by decide +kernel)⟩
def lw_privs_1 : List (MethodName × Nat) := [(⟨"FileHouse", "judge", "(LFileHouse$StoredFile;I)V"⟩, 15), (⟨"FileHouse", "makeAt", "(I)LFileHouse$Make;"⟩, 15), (⟨"FileHouse$Reading", "readRecords", "(III)V"⟩, 7), (⟨"FileHouse$Reading", "addRecord", "(III)V"⟩, 7), (⟨"FileHouse", "store", "([III)I"⟩, 15), (⟨"FileHouse", "fileAt", "(I)LFileHouse$StoredFile;"⟩, 15), (⟨"FileHouse$Readers", "isTold", "(II)Z"⟩, 3), (⟨"FileHouse", "isYearToCome", "(I)Z"⟩, 15), (⟨"FileHouse", "readByOwnMake", "(LFileHouse$StoredFile;LFileHouse$Reading;)V"⟩, 15), (⟨"FileHouse", "draftTurned", "(LFileHouse$StoredFile;LFileHouse$Turner;)Z"⟩, 15), (⟨"FileHouse$Reading", "nextWith", "(II)I"⟩, 7), (⟨"FileHouse$Reading", "sameRecord", "(ILFileHouse$Reading;I)Z"⟩, 7), (⟨"FileHouse$Roads", "goOneStep", "(ILFileHouse$Turners;LFileHouse$Machines;I)V"⟩, 3), (⟨"FileHouse$Spans", "goOneStepBack", "(LFileHouse$Turners;LFileHouse$Machines;Z)V"⟩, 2), (⟨"FileHouse", "cheapestGoal", "(LFileHouse$StoredFile;I)I"⟩, 15), (⟨"FileHouse", "filesWithoutMake", "()I"⟩, 15)]
theorem lw_r1 : ∀ q ∈ lw_privs_1, lw_okq q := List.forall_mem_cons.mpr ⟨lw_p0, List.forall_mem_cons.mpr ⟨lw_p1, List.forall_mem_cons.mpr ⟨lw_p2, List.forall_mem_cons.mpr ⟨lw_p3, List.forall_mem_cons.mpr ⟨lw_p4, List.forall_mem_cons.mpr ⟨lw_p5, List.forall_mem_cons.mpr ⟨lw_p6, List.forall_mem_cons.mpr ⟨lw_p7, List.forall_mem_cons.mpr ⟨lw_p8, List.forall_mem_cons.mpr ⟨lw_p9, List.forall_mem_cons.mpr ⟨lw_p10, List.forall_mem_cons.mpr ⟨lw_p11, List.forall_mem_cons.mpr ⟨lw_p12, List.forall_mem_cons.mpr ⟨lw_p13, List.forall_mem_cons.mpr ⟨lw_p14, List.forall_mem_cons.mpr ⟨lw_p15, fun _ h => absurd h List.not_mem_nil⟩⟩⟩⟩⟩⟩⟩⟩⟩⟩⟩⟩⟩⟩⟩⟩
theorem lw_p16 : lw_okq (⟨"FileHouse", "filesBeyondReading", "()I"⟩, 15) := ⟨⟨by decide +kernel, by decide +kernel⟩, List.mem_of_getElem? (i := 17) (by decide +kernel), List.mem_of_getElem? (i := 625) (by decide +kernel), List.mem_of_getElem? (i := 626) (by decide +kernel)⟩
theorem lw_p17 : lw_okq (⟨"FileHouseModel", "push", "(I)V"⟩, 43) := ⟨⟨by decide +kernel, by decide +kernel⟩, List.mem_of_getElem? (i := 629) (by decide +kernel), List.mem_of_getElem? (i := 771) (by decide +kernel), List.mem_of_getElem? (i := 772) (by decide +kernel)⟩
theorem lw_p18 : lw_okq (⟨"FileHouseModel", "isFile", "(I)Z"⟩, 43) := ⟨⟨by decide +kernel, by decide +kernel⟩, List.mem_of_getElem? (i := 629) (by decide +kernel), List.mem_of_getElem? (i := 790) (by decide +kernel), List.mem_of_getElem? (i := 791) (by decide +kernel)⟩
theorem lw_p19 : lw_okq (⟨"FileHouseModel", "isMake", "(I)Z"⟩, 43) := ⟨⟨by decide +kernel, by decide +kernel⟩, List.mem_of_getElem? (i := 629) (by decide +kernel), List.mem_of_getElem? (i := 805) (by decide +kernel), List.mem_of_getElem? (i := 806) (by decide +kernel)⟩
theorem lw_p20 : lw_okq (⟨"FileHouseModel", "reads", "(II)Z"⟩, 43) := ⟨⟨by decide +kernel, by decide +kernel⟩, List.mem_of_getElem? (i := 629) (by decide +kernel), List.mem_of_getElem? (i := 821) (by decide +kernel), List.mem_of_getElem? (i := 822) (by decide +kernel)⟩
theorem lw_p21 : lw_okq (⟨"FileHouseModel", "byteAt", "(II)I"⟩, 43) := ⟨⟨by decide +kernel, by decide +kernel⟩, List.mem_of_getElem? (i := 629) (by decide +kernel), List.mem_of_getElem? (i := 825) (by decide +kernel), List.mem_of_getElem? (i := 826) (by decide +kernel)⟩
theorem lw_p22 : lw_okq (⟨"FileHouseModel", "knows", "(I)I"⟩, 43) := ⟨⟨by decide +kernel, by decide +kernel⟩, List.mem_of_getElem? (i := 629) (by decide +kernel), List.mem_of_getElem? (i := 836) (by decide +kernel), List.mem_of_getElem? (i := 837) (by decide +kernel)⟩
theorem lw_p23 : lw_okq (⟨"FileHouseModel", "goes", "(II)Z"⟩, 43) := ⟨⟨by decide +kernel, by decide +kernel⟩, List.mem_of_getElem? (i := 629) (by decide +kernel), List.mem_of_getElem? (i := 848) (by decide +kernel), List.mem_of_getElem? (i := 849) (by decide +kernel)⟩
theorem lw_p24 : lw_okq (⟨"FileHouseModel", "isKept", "(III)Z"⟩, 43) := ⟨⟨by decide +kernel, by decide +kernel⟩, List.mem_of_getElem? (i := 629) (by decide +kernel), List.mem_of_getElem? (i := 856) (by decide +kernel), List.mem_of_getElem? (i := 857) (by decide +kernel)⟩
theorem lw_p25 : lw_okq (⟨"FileHouseModel", "areAlike", "(IIII)Z"⟩, 43) := ⟨⟨by decide +kernel, by decide +kernel⟩, List.mem_of_getElem? (i := 629) (by decide +kernel), List.mem_of_getElem? (i := 860) (by decide +kernel), List.mem_of_getElem? (i := 861) (by decide +kernel)⟩
theorem lw_p26 : lw_okq (⟨"FileHouseModel", "bestRoad", "(II)I"⟩, 43) := ⟨⟨by decide +kernel, by decide +kernel⟩, List.mem_of_getElem? (i := 629) (by decide +kernel), List.mem_of_getElem? (i := 868) (by decide +kernel), List.mem_of_getElem? (i := 869) (by decide +kernel)⟩
theorem lw_p27 : lw_okq (⟨"FileHouseModel", "properties", "(I)I"⟩, 43) := ⟨⟨by decide +kernel, by decide +kernel⟩, List.mem_of_getElem? (i := 629) (by decide +kernel), List.mem_of_getElem? (i := 872) (by decide +kernel), List.mem_of_getElem? (i := 873) (by decide +kernel)⟩
theorem lw_p28 : lw_okq (⟨"FileHouseModel", "measures", "(II)V"⟩, 43) := ⟨⟨by decide +kernel, by decide +kernel⟩, List.mem_of_getElem? (i := 629) (by decide +kernel), List.mem_of_getElem? (i := 876) (by decide +kernel), List.mem_of_getElem? (i := 877) (by decide +kernel)⟩
theorem lw_p29 : lw_okq (⟨"FileHouseModel", "mayTurn", "(II)Z"⟩, 43) := ⟨⟨by decide +kernel, by decide +kernel⟩, List.mem_of_getElem? (i := 629) (by decide +kernel), List.mem_of_getElem? (i := 881) (by decide +kernel), List.mem_of_getElem? (i := 882) (by decide +kernel)⟩
theorem lw_p30 : lw_okq (⟨"FileHouseModel", "lastOf", "(IZ)I"⟩, 43) := ⟨⟨by decide +kernel, by decide +kernel⟩, List.mem_of_getElem? (i := 629) (by decide +kernel), List.mem_of_getElem? (i := 893) (by decide +kernel), List.mem_of_getElem? (i := 894) (by decide +kernel)⟩
theorem lw_p31 : lw_okq (⟨"FileHouseModel", "lives", "(IZ)I"⟩, 43) := ⟨⟨by decide +kernel, by decide +kernel⟩, List.mem_of_getElem? (i := 629) (by decide +kernel), List.mem_of_getElem? (i := 897) (by decide +kernel), List.mem_of_getElem? (i := 898) (by decide +kernel)⟩
def lw_privs_2 : List (MethodName × Nat) := [(⟨"FileHouse", "filesBeyondReading", "()I"⟩, 15), (⟨"FileHouseModel", "push", "(I)V"⟩, 43), (⟨"FileHouseModel", "isFile", "(I)Z"⟩, 43), (⟨"FileHouseModel", "isMake", "(I)Z"⟩, 43), (⟨"FileHouseModel", "reads", "(II)Z"⟩, 43), (⟨"FileHouseModel", "byteAt", "(II)I"⟩, 43), (⟨"FileHouseModel", "knows", "(I)I"⟩, 43), (⟨"FileHouseModel", "goes", "(II)Z"⟩, 43), (⟨"FileHouseModel", "isKept", "(III)Z"⟩, 43), (⟨"FileHouseModel", "areAlike", "(IIII)Z"⟩, 43), (⟨"FileHouseModel", "bestRoad", "(II)I"⟩, 43), (⟨"FileHouseModel", "properties", "(I)I"⟩, 43), (⟨"FileHouseModel", "measures", "(II)V"⟩, 43), (⟨"FileHouseModel", "mayTurn", "(II)Z"⟩, 43), (⟨"FileHouseModel", "lastOf", "(IZ)I"⟩, 43), (⟨"FileHouseModel", "lives", "(IZ)I"⟩, 43)]
theorem lw_r2 : ∀ q ∈ lw_privs_2, lw_okq q := List.forall_mem_cons.mpr ⟨lw_p16, List.forall_mem_cons.mpr ⟨lw_p17, List.forall_mem_cons.mpr ⟨lw_p18, List.forall_mem_cons.mpr ⟨lw_p19, List.forall_mem_cons.mpr ⟨lw_p20, List.forall_mem_cons.mpr ⟨lw_p21, List.forall_mem_cons.mpr ⟨lw_p22, List.forall_mem_cons.mpr ⟨lw_p23, List.forall_mem_cons.mpr ⟨lw_p24, List.forall_mem_cons.mpr ⟨lw_p25, List.forall_mem_cons.mpr ⟨lw_p26, List.forall_mem_cons.mpr ⟨lw_p27, List.forall_mem_cons.mpr ⟨lw_p28, List.forall_mem_cons.mpr ⟨lw_p29, List.forall_mem_cons.mpr ⟨lw_p30, List.forall_mem_cons.mpr ⟨lw_p31, fun _ h => absurd h List.not_mem_nil⟩⟩⟩⟩⟩⟩⟩⟩⟩⟩⟩⟩⟩⟩⟩⟩
theorem lw_p32 : lw_okq (⟨"FileHouseModel", "isPlanned", "(I)Z"⟩, 43) := ⟨⟨by decide +kernel, by decide +kernel⟩, List.mem_of_getElem? (i := 629) (by decide +kernel), List.mem_of_getElem? (i := 905) (by decide +kernel), List.mem_of_getElem? (i := 906) (by decide +kernel)⟩
theorem lw_p33 : lw_okq (⟨"FileHouseModel", "goalOf", "(II)I"⟩, 43) := ⟨⟨by decide +kernel, by decide +kernel⟩, List.mem_of_getElem? (i := 629) (by decide +kernel), List.mem_of_getElem? (i := 909) (by decide +kernel), List.mem_of_getElem? (i := 910) (by decide +kernel)⟩
theorem lw_p34 : lw_okq (⟨"FileHouseModel", "isRead", "(II)Z"⟩, 43) := ⟨⟨by decide +kernel, by decide +kernel⟩, List.mem_of_getElem? (i := 629) (by decide +kernel), List.mem_of_getElem? (i := 913) (by decide +kernel), List.mem_of_getElem? (i := 914) (by decide +kernel)⟩
theorem lw_p35 : lw_okq (⟨"FileHouseModel", "isBetter", "(I)Z"⟩, 43) := ⟨⟨by decide +kernel, by decide +kernel⟩, List.mem_of_getElem? (i := 629) (by decide +kernel), List.mem_of_getElem? (i := 917) (by decide +kernel), List.mem_of_getElem? (i := 918) (by decide +kernel)⟩
def lw_privs_3 : List (MethodName × Nat) := [(⟨"FileHouseModel", "isPlanned", "(I)Z"⟩, 43), (⟨"FileHouseModel", "goalOf", "(II)I"⟩, 43), (⟨"FileHouseModel", "isRead", "(II)Z"⟩, 43), (⟨"FileHouseModel", "isBetter", "(I)Z"⟩, 43)]
theorem lw_r3 : ∀ q ∈ lw_privs_3, lw_okq q := List.forall_mem_cons.mpr ⟨lw_p32, List.forall_mem_cons.mpr ⟨lw_p33, List.forall_mem_cons.mpr ⟨lw_p34, List.forall_mem_cons.mpr ⟨lw_p35, fun _ h => absurd h List.not_mem_nil⟩⟩⟩⟩
def lw_privs : List (MethodName × Nat) := lw_privs_1 ++ (lw_privs_2 ++ (lw_privs_3))
def lw_tbl : List Cond := k2_sels lw_privs ++ tables_1
theorem lw_privs_ok : ∀ q ∈ lw_privs, lw_okq q := by
  show ∀ q ∈ lw_privs_1 ++ (lw_privs_2 ++ (lw_privs_3)), lw_okq q
  exact List.forall_mem_append.mpr ⟨lw_r1, List.forall_mem_append.mpr ⟨lw_r2, lw_r3⟩⟩
-- names
def RX0 : String := "FileHouse$ByteRow"
def TX0 : u_T := fun k => match k with
  | 0 => ("FileHouse$ByteRow", "bytes", "[I", true)
  | _ => ("FileHouse$ByteRow", "size", "I", false)
def tyX0 : Nat → FieldType := fun k => match k with
  | 0 => .array .int
  | _ => .int
theorem nmX0 : ∀ a, a < 2 → ∀ b, b < 2 → a ≠ b → (TX0 a).2.1 ≠ (TX0 b).2.1 := by decide +kernel
theorem tyX0_ok : ∀ k, k < 2 → parseFieldDescriptor (TX0 k).2.2.1 = some (tyX0 k) := by decide +kernel
abbrev cX0_init : ByteArray := prog_2_method_1_code
def yX0_init : MethodName := ⟨RX0, "<init>", "(I)V"⟩
abbrev cX0_clear : ByteArray := prog_2_method_2_code
def yX0_clear : MethodName := ⟨RX0, "clear", "()V"⟩
abbrev cX0_room : ByteArray := prog_2_method_3_code
def yX0_room : MethodName := ⟨RX0, "room", "()I"⟩
abbrev cX0_addByte : ByteArray := prog_2_method_4_code
def yX0_addByte : MethodName := ⟨RX0, "addByte", "(I)Z"⟩
abbrev cX0_addWord : ByteArray := prog_2_method_5_code
def yX0_addWord : MethodName := ⟨RX0, "addWord", "(I)V"⟩
abbrev cX0_addPart : ByteArray := prog_2_method_6_code
def yX0_addPart : MethodName := ⟨RX0, "addPart", "([III)Z"⟩
abbrev cX0_firstBytes : ByteArray := prog_2_method_7_code
def yX0_firstBytes : MethodName := ⟨RX0, "firstBytes", "(I)[I"⟩
def RX1 : String := "FileHouse$Machines"
def TX1 : u_T := fun k => match k with
  | 0 => ("FileHouse$Machines", "sureEnds", "[I", true)
  | _ => ("FileHouse$Machines", "doubtfulEnds", "[I", true)
def tyX1 : Nat → FieldType := fun k => match k with
  | 0 => .array .int
  | _ => .array .int
theorem nmX1 : ∀ a, a < 2 → ∀ b, b < 2 → a ≠ b → (TX1 a).2.1 ≠ (TX1 b).2.1 := by decide +kernel
theorem tyX1_ok : ∀ k, k < 2 → parseFieldDescriptor (TX1 k).2.2.1 = some (tyX1 k) := by decide +kernel
abbrev cX1_init : ByteArray := prog_3_method_1_code
def yX1_init : MethodName := ⟨RX1, "<init>", "()V"⟩
abbrev cX1_knows : ByteArray := prog_3_method_2_code
def yX1_knows : MethodName := ⟨RX1, "knows", "(I)Z"⟩
abbrev cX1_setEnds : ByteArray := prog_3_method_3_code
def yX1_setEnds : MethodName := ⟨RX1, "setEnds", "(III)V"⟩
abbrev cX1_endOf : ByteArray := prog_3_method_4_code
def yX1_endOf : MethodName := ⟨RX1, "endOf", "(IZ)I"⟩
abbrev cX1_liveSurely : ByteArray := prog_3_method_5_code
def yX1_liveSurely : MethodName := ⟨RX1, "liveSurely", "(II)Z"⟩
def RX2 : String := "FileHouse$Make"
def TX2 : u_T := fun k => match k with
  | 0 => ("FileHouse$Make", "mark", "[I", true)
  | 1 => ("FileHouse$Make", "properties", "I", true)
  | 2 => ("FileHouse$Make", "hasSum", "Z", true)
  | _ => ("FileHouse$Make", "bearable", "I", true)
def tyX2 : Nat → FieldType := fun k => match k with
  | 0 => .array .int
  | 1 => .int
  | 2 => .boolean
  | _ => .int
theorem nmX2 : ∀ a, a < 4 → ∀ b, b < 4 → a ≠ b → (TX2 a).2.1 ≠ (TX2 b).2.1 := by decide +kernel
theorem tyX2_ok : ∀ k, k < 4 → parseFieldDescriptor (TX2 k).2.2.1 = some (tyX2 k) := by decide +kernel
abbrev cX2_init : ByteArray := prog_4_method_1_code
def yX2_init : MethodName := ⟨RX2, "<init>", "([IIZI)V"⟩
abbrev cX2_marks : ByteArray := prog_4_method_2_code
def yX2_marks : MethodName := ⟨RX2, "marks", "([I)Z"⟩
def RX3 : String := "FileHouse$Readers"
def TX3 : u_T := fun k => match k with
  | 0 => ("FileHouse$Readers", "opened", "[I", true)
  | 1 => ("FileHouse$Readers", "hosts", "[I", true)
  | _ => ("FileHouse$Readers", "size", "I", false)
def tyX3 : Nat → FieldType := fun k => match k with
  | 0 => .array .int
  | 1 => .array .int
  | _ => .int
theorem nmX3 : ∀ a, a < 3 → ∀ b, b < 3 → a ≠ b → (TX3 a).2.1 ≠ (TX3 b).2.1 := by decide +kernel
theorem tyX3_ok : ∀ k, k < 3 → parseFieldDescriptor (TX3 k).2.2.1 = some (tyX3 k) := by decide +kernel
abbrev cX3_init : ByteArray := prog_5_method_1_code
def yX3_init : MethodName := ⟨RX3, "<init>", "()V"⟩
abbrev cX3_add : ByteArray := prog_5_method_2_code
def yX3_add : MethodName := ⟨RX3, "add", "(II)Z"⟩
abbrev cX3_isTold : ByteArray := prog_5_method_3_code
def yX3_isTold : MethodName := ⟨RX3, "isTold", "(II)Z"⟩
abbrev cX3_makesOpenIn : ByteArray := prog_5_method_4_code
def yX3_makesOpenIn : MethodName := ⟨RX3, "makesOpenIn", "(LFileHouse$Machines;I)I"⟩
def RX4 : String := "FileHouse$Reading"
def TX4 : u_T := fun k => match k with
  | 0 => ("FileHouse$Reading", "tags", "[I", true)
  | 1 => ("FileHouse$Reading", "lengths", "[I", true)
  | 2 => ("FileHouse$Reading", "places", "[I", true)
  | 3 => ("FileHouse$Reading", "source", "[I", false)
  | 4 => ("FileHouse$Reading", "size", "I", false)
  | 5 => ("FileHouse$Reading", "has", "I", false)
  | _ => ("FileHouse$Reading", "bendCount", "I", false)
def tyX4 : Nat → FieldType := fun k => match k with
  | 0 => .array .int
  | 1 => .array .int
  | 2 => .array .int
  | 3 => .array .int
  | 4 => .int
  | 5 => .int
  | _ => .int
theorem nmX4 : ∀ a, a < 7 → ∀ b, b < 7 → a ≠ b → (TX4 a).2.1 ≠ (TX4 b).2.1 := by decide +kernel
theorem tyX4_ok : ∀ k, k < 7 → parseFieldDescriptor (TX4 k).2.2.1 = some (tyX4 k) := by decide +kernel
abbrev cX4_init : ByteArray := prog_6_method_1_code
def yX4_init : MethodName := ⟨RX4, "<init>", "()V"⟩
abbrev cX4_clear : ByteArray := prog_6_method_2_code
def yX4_clear : MethodName := ⟨RX4, "clear", "()V"⟩
abbrev cX4_readBy : ByteArray := prog_6_method_3_code
def yX4_readBy : MethodName := ⟨RX4, "readBy", "(LFileHouse$Make;[I)V"⟩
abbrev cX4_readRecords : ByteArray := prog_6_method_4_code
def yX4_readRecords : MethodName := ⟨RX4, "readRecords", "(III)V"⟩
abbrev cX4_addRecord : ByteArray := prog_6_method_5_code
def yX4_addRecord : MethodName := ⟨RX4, "addRecord", "(III)V"⟩
abbrev cX4_agrees : ByteArray := prog_6_method_6_code
def yX4_agrees : MethodName := ⟨RX4, "agrees", "(LFileHouse$Reading;I)Z"⟩
abbrev cX4_nextWith : ByteArray := prog_6_method_7_code
def yX4_nextWith : MethodName := ⟨RX4, "nextWith", "(II)I"⟩
abbrev cX4_sameRecord : ByteArray := prog_6_method_8_code
def yX4_sameRecord : MethodName := ⟨RX4, "sameRecord", "(ILFileHouse$Reading;I)Z"⟩
def RX5 : String := "FileHouse$Roads"
def TX5 : u_T := fun k => match k with
  | 0 => ("FileHouse$Roads", "best", "[J", true)
  | 1 => ("FileHouse$Roads", "reached", "[J", true)
  | _ => ("FileHouse$Roads", "longer", "[J", true)
def tyX5 : Nat → FieldType := fun k => match k with
  | 0 => .array .long
  | 1 => .array .long
  | _ => .array .long
theorem nmX5 : ∀ a, a < 3 → ∀ b, b < 3 → a ≠ b → (TX5 a).2.1 ≠ (TX5 b).2.1 := by decide +kernel
theorem tyX5_ok : ∀ k, k < 3 → parseFieldDescriptor (TX5 k).2.2.1 = some (tyX5 k) := by decide +kernel
abbrev cX5_init : ByteArray := prog_7_method_1_code
def yX5_init : MethodName := ⟨RX5, "<init>", "()V"⟩
abbrev cX5_priceOf : ByteArray := prog_7_method_2_code
def yX5_priceOf : MethodName := ⟨RX5, "priceOf", "(J)I"⟩
abbrev cX5_lengthOf : ByteArray := prog_7_method_3_code
def yX5_lengthOf : MethodName := ⟨RX5, "lengthOf", "(J)I"⟩
abbrev cX5_stepOf : ByteArray := prog_7_method_4_code
def yX5_stepOf : MethodName := ⟨RX5, "stepOf", "(JI)I"⟩
abbrev cX5_extended : ByteArray := prog_7_method_5_code
def yX5_extended : MethodName := ⟨RX5, "extended", "(JII)J"⟩
abbrev cX5_bestTo : ByteArray := prog_7_method_6_code
def yX5_bestTo : MethodName := ⟨RX5, "bestTo", "(I)J"⟩
abbrev cX5_search : ByteArray := prog_7_method_7_code
def yX5_search : MethodName := ⟨RX5, "search", "(LFileHouse$StoredFile;LFileHouse$Turners;LFileHouse$Machines;I)V"⟩
abbrev cX5_goOneStep : ByteArray := prog_7_method_8_code
def yX5_goOneStep : MethodName := ⟨RX5, "goOneStep", "(ILFileHouse$Turners;LFileHouse$Machines;I)V"⟩
def RX6 : String := "FileHouse$Spans"
def TX6 : u_T := fun k => match k with
  | 0 => ("FileHouse$Spans", "ends", "[I", true)
  | _ => ("FileHouse$Spans", "longer", "[I", true)
def tyX6 : Nat → FieldType := fun k => match k with
  | 0 => .array .int
  | _ => .array .int
theorem nmX6 : ∀ a, a < 2 → ∀ b, b < 2 → a ≠ b → (TX6 a).2.1 ≠ (TX6 b).2.1 := by decide +kernel
theorem tyX6_ok : ∀ k, k < 2 → parseFieldDescriptor (TX6 k).2.2.1 = some (tyX6 k) := by decide +kernel
abbrev cX6_init : ByteArray := prog_8_method_1_code
def yX6_init : MethodName := ⟨RX6, "<init>", "()V"⟩
abbrev cX6_measure : ByteArray := prog_8_method_2_code
def yX6_measure : MethodName := ⟨RX6, "measure", "(LFileHouse$Readers;LFileHouse$Turners;LFileHouse$Machines;Z)V"⟩
abbrev cX6_goOneStepBack : ByteArray := prog_8_method_3_code
def yX6_goOneStepBack : MethodName := ⟨RX6, "goOneStepBack", "(LFileHouse$Turners;LFileHouse$Machines;Z)V"⟩
abbrev cX6_lastYearOf : ByteArray := prog_8_method_4_code
def yX6_lastYearOf : MethodName := ⟨RX6, "lastYearOf", "(I)I"⟩
def RX7 : String := "FileHouse$StoredFile"
def TX7 : u_T := fun k => match k with
  | 0 => ("FileHouse$StoredFile", "bytes", "[I", true)
  | 1 => ("FileHouse$StoredFile", "from", "I", true)
  | 2 => ("FileHouse$StoredFile", "first", "I", true)
  | 3 => ("FileHouse$StoredFile", "isSource", "Z", false)
  | 4 => ("FileHouse$StoredFile", "mustKeep", "I", false)
  | 5 => ("FileHouse$StoredFile", "makeNumber", "I", false)
  | 6 => ("FileHouse$StoredFile", "bendCount", "I", false)
  | 7 => ("FileHouse$StoredFile", "has", "I", false)
  | _ => ("FileHouse$StoredFile", "recordCount", "I", false)
def tyX7 : Nat → FieldType := fun k => match k with
  | 0 => .array .int
  | 1 => .int
  | 2 => .int
  | 3 => .boolean
  | 4 => .int
  | 5 => .int
  | 6 => .int
  | 7 => .int
  | _ => .int
theorem nmX7 : ∀ a, a < 9 → ∀ b, b < 9 → a ≠ b → (TX7 a).2.1 ≠ (TX7 b).2.1 := by decide +kernel
theorem tyX7_ok : ∀ k, k < 9 → parseFieldDescriptor (TX7 k).2.2.1 = some (tyX7 k) := by decide +kernel
abbrev cX7_init : ByteArray := prog_9_method_1_code
def yX7_init : MethodName := ⟨RX7, "<init>", "([III)V"⟩
def RX8 : String := "FileHouse$Turner"
def TX8 : u_T := fun k => match k with
  | 0 => ("FileHouse$Turner", "from", "I", true)
  | 1 => ("FileHouse$Turner", "to", "I", true)
  | 2 => ("FileHouse$Turner", "carries", "I", true)
  | 3 => ("FileHouse$Turner", "price", "I", true)
  | _ => ("FileHouse$Turner", "machine", "I", true)
def tyX8 : Nat → FieldType := fun k => match k with
  | 0 => .int
  | 1 => .int
  | 2 => .int
  | 3 => .int
  | _ => .int
theorem nmX8 : ∀ a, a < 5 → ∀ b, b < 5 → a ≠ b → (TX8 a).2.1 ≠ (TX8 b).2.1 := by decide +kernel
theorem tyX8_ok : ∀ k, k < 5 → parseFieldDescriptor (TX8 k).2.2.1 = some (tyX8 k) := by decide +kernel
abbrev cX8_init : ByteArray := prog_10_method_1_code
def yX8_init : MethodName := ⟨RX8, "<init>", "(IIIII)V"⟩
abbrev cX8_carriesAll : ByteArray := prog_10_method_2_code
def yX8_carriesAll : MethodName := ⟨RX8, "carriesAll", "(I)Z"⟩
def RX9 : String := "FileHouse$Turners"
def TX9 : u_T := fun k => match k with
  | 0 => ("FileHouse$Turners", "row", "[LFileHouse$Turner;", true)
  | _ => ("FileHouse$Turners", "size", "I", false)
def tyX9 : Nat → FieldType := fun k => match k with
  | 0 => .array (.object "FileHouse$Turner")
  | _ => .int
theorem nmX9 : ∀ a, a < 2 → ∀ b, b < 2 → a ≠ b → (TX9 a).2.1 ≠ (TX9 b).2.1 := by decide +kernel
theorem tyX9_ok : ∀ k, k < 2 → parseFieldDescriptor (TX9 k).2.2.1 = some (tyX9 k) := by decide +kernel
abbrev cX9_init : ByteArray := prog_11_method_1_code
def yX9_init : MethodName := ⟨RX9, "<init>", "()V"⟩
abbrev cX9_add : ByteArray := prog_11_method_2_code
def yX9_add : MethodName := ⟨RX9, "add", "(IIIII)I"⟩
abbrev cX9_at : ByteArray := prog_11_method_3_code
def yX9_at : MethodName := ⟨RX9, "at", "(I)LFileHouse$Turner;"⟩
def RX10 : String := "FileHouse"
def TX10 : u_T := fun k => match k with
  | 0 => ("FileHouse", "tape", "LFileHouse$ByteRow;", true)
  | 1 => ("FileHouse", "draft", "LFileHouse$ByteRow;", true)
  | 2 => ("FileHouse", "makes", "[LFileHouse$Make;", true)
  | 3 => ("FileHouse", "files", "[LFileHouse$StoredFile;", true)
  | 4 => ("FileHouse", "machines", "LFileHouse$Machines;", true)
  | 5 => ("FileHouse", "readers", "LFileHouse$Readers;", true)
  | 6 => ("FileHouse", "turners", "LFileHouse$Turners;", true)
  | 7 => ("FileHouse", "roads", "LFileHouse$Roads;", true)
  | 8 => ("FileHouse", "spans", "LFileHouse$Spans;", true)
  | 9 => ("FileHouse", "reading", "LFileHouse$Reading;", true)
  | 10 => ("FileHouse", "otherReading", "LFileHouse$Reading;", true)
  | 11 => ("FileHouse", "makeCount", "I", false)
  | 12 => ("FileHouse", "fileCount", "I", false)
  | 13 => ("FileHouse", "thisYear", "I", false)
  | _ => ("FileHouse", "toldRoad", "J", false)
def tyX10 : Nat → FieldType := fun k => match k with
  | 0 => .object "FileHouse$ByteRow"
  | 1 => .object "FileHouse$ByteRow"
  | 2 => .array (.object "FileHouse$Make")
  | 3 => .array (.object "FileHouse$StoredFile")
  | 4 => .object "FileHouse$Machines"
  | 5 => .object "FileHouse$Readers"
  | 6 => .object "FileHouse$Turners"
  | 7 => .object "FileHouse$Roads"
  | 8 => .object "FileHouse$Spans"
  | 9 => .object "FileHouse$Reading"
  | 10 => .object "FileHouse$Reading"
  | 11 => .int
  | 12 => .int
  | 13 => .int
  | _ => .long
theorem nmX10 : ∀ a, a < 15 → ∀ b, b < 15 → a ≠ b → (TX10 a).2.1 ≠ (TX10 b).2.1 := by decide +kernel
theorem tyX10_ok : ∀ k, k < 15 → parseFieldDescriptor (TX10 k).2.2.1 = some (tyX10 k) := by decide +kernel
abbrev cX10_init : ByteArray := prog_1_method_1_code
def yX10_init : MethodName := ⟨RX10, "<init>", "()V"⟩
abbrev cX10_feed : ByteArray := prog_1_method_2_code
def yX10_feed : MethodName := ⟨RX10, "feed", "(IIIII)I"⟩
abbrev cX10_make : ByteArray := prog_1_method_3_code
def yX10_make : MethodName := ⟨RX10, "make", "(IIZI)I"⟩
abbrev cX10_file : ByteArray := prog_1_method_4_code
def yX10_file : MethodName := ⟨RX10, "file", "(I)I"⟩
abbrev cX10_must : ByteArray := prog_1_method_5_code
def yX10_must : MethodName := ⟨RX10, "must", "(II)Z"⟩
abbrev cX10_machine : ByteArray := prog_1_method_6_code
def yX10_machine : MethodName := ⟨RX10, "machine", "(III)Z"⟩
abbrev cX10_reader : ByteArray := prog_1_method_7_code
def yX10_reader : MethodName := ⟨RX10, "reader", "(II)Z"⟩
abbrev cX10_turner : ByteArray := prog_1_method_8_code
def yX10_turner : MethodName := ⟨RX10, "turner", "(IIIII)I"⟩
abbrev cX10_year : ByteArray := prog_1_method_9_code
def yX10_year : MethodName := ⟨RX10, "year", "(I)Z"⟩
abbrev cX10_bends : ByteArray := prog_1_method_10_code
def yX10_bends : MethodName := ⟨RX10, "bends", "(II)I"⟩
abbrev cX10_know : ByteArray := prog_1_method_11_code
def yX10_know : MethodName := ⟨RX10, "know", "(I)I"⟩
abbrev cX10_record : ByteArray := prog_1_method_12_code
def yX10_record : MethodName := ⟨RX10, "record", "(III)I"⟩
abbrev cX10_turn : ByteArray := prog_1_method_13_code
def yX10_turn : MethodName := ⟨RX10, "turn", "(II)I"⟩
abbrev cX10_kept : ByteArray := prog_1_method_14_code
def yX10_kept : MethodName := ⟨RX10, "kept", "(II)I"⟩
abbrev cX10_road : ByteArray := prog_1_method_15_code
def yX10_road : MethodName := ⟨RX10, "road", "(II)I"⟩
abbrev cX10_step : ByteArray := prog_1_method_16_code
def yX10_step : MethodName := ⟨RX10, "step", "(I)I"⟩
abbrev cX10_last : ByteArray := prog_1_method_17_code
def yX10_last : MethodName := ⟨RX10, "last", "(IZ)I"⟩
abbrev cX10_plan : ByteArray := prog_1_method_18_code
def yX10_plan : MethodName := ⟨RX10, "plan", "(I)I"⟩
abbrev cX10_goal : ByteArray := prog_1_method_19_code
def yX10_goal : MethodName := ⟨RX10, "goal", "(II)I"⟩
abbrev cX10_look : ByteArray := prog_1_method_20_code
def yX10_look : MethodName := ⟨RX10, "look", "(II)I"⟩
abbrev cX10_count : ByteArray := prog_1_method_21_code
def yX10_count : MethodName := ⟨RX10, "count", "(I)I"⟩
abbrev cX10_areProperties : ByteArray := prog_1_method_22_code
def yX10_areProperties : MethodName := ⟨RX10, "areProperties", "(I)Z"⟩
abbrev cX10_holds : ByteArray := prog_1_method_23_code
def yX10_holds : MethodName := ⟨RX10, "holds", "(II)Z"⟩
abbrev cX10_isYear : ByteArray := prog_1_method_24_code
def yX10_isYear : MethodName := ⟨RX10, "isYear", "(I)Z"⟩
abbrev cX10_isYearToCome : ByteArray := prog_1_method_25_code
def yX10_isYearToCome : MethodName := ⟨RX10, "isYearToCome", "(I)Z"⟩
abbrev cX10_makeAt : ByteArray := prog_1_method_26_code
def yX10_makeAt : MethodName := ⟨RX10, "makeAt", "(I)LFileHouse$Make;"⟩
abbrev cX10_fileAt : ByteArray := prog_1_method_27_code
def yX10_fileAt : MethodName := ⟨RX10, "fileAt", "(I)LFileHouse$StoredFile;"⟩
abbrev cX10_store : ByteArray := prog_1_method_28_code
def yX10_store : MethodName := ⟨RX10, "store", "([III)I"⟩
abbrev cX10_judge : ByteArray := prog_1_method_29_code
def yX10_judge : MethodName := ⟨RX10, "judge", "(LFileHouse$StoredFile;I)V"⟩
abbrev cX10_readByOwnMake : ByteArray := prog_1_method_30_code
def yX10_readByOwnMake : MethodName := ⟨RX10, "readByOwnMake", "(LFileHouse$StoredFile;LFileHouse$Reading;)V"⟩
abbrev cX10_draftTurned : ByteArray := prog_1_method_31_code
def yX10_draftTurned : MethodName := ⟨RX10, "draftTurned", "(LFileHouse$StoredFile;LFileHouse$Turner;)Z"⟩
abbrev cX10_sumOfFirst : ByteArray := prog_1_method_32_code
def yX10_sumOfFirst : MethodName := ⟨RX10, "sumOfFirst", "([II)I"⟩
abbrev cX10_isPlanned : ByteArray := prog_1_method_33_code
def yX10_isPlanned : MethodName := ⟨RX10, "isPlanned", "(LFileHouse$StoredFile;)Z"⟩
abbrev cX10_cheapestGoal : ByteArray := prog_1_method_34_code
def yX10_cheapestGoal : MethodName := ⟨RX10, "cheapestGoal", "(LFileHouse$StoredFile;I)I"⟩
abbrev cX10_byteAsked : ByteArray := prog_1_method_35_code
def yX10_byteAsked : MethodName := ⟨RX10, "byteAsked", "([II)I"⟩
abbrev cX10_filesWithoutMake : ByteArray := prog_1_method_36_code
def yX10_filesWithoutMake : MethodName := ⟨RX10, "filesWithoutMake", "()I"⟩
abbrev cX10_filesBeyondReading : ByteArray := prog_1_method_37_code
def yX10_filesBeyondReading : MethodName := ⟨RX10, "filesBeyondReading", "()I"⟩
def RX11 : String := "FileHouseModel"
def TX11 : u_T := fun k => match k with
  | 0 => ("FileHouseModel", "tape", "[B", true)
  | 1 => ("FileHouseModel", "taped", "I", false)
  | 2 => ("FileHouseModel", "year", "I", false)
  | 3 => ("FileHouseModel", "makes", "I", false)
  | 4 => ("FileHouseModel", "mark", "[I", true)
  | 5 => ("FileHouseModel", "markSize", "[I", true)
  | 6 => ("FileHouseModel", "holds", "[I", true)
  | 7 => ("FileHouseModel", "hasSum", "[Z", true)
  | 8 => ("FileHouseModel", "bears", "[I", true)
  | 9 => ("FileHouseModel", "files", "I", false)
  | 10 => ("FileHouseModel", "bytes", "[I", true)
  | 11 => ("FileHouseModel", "size", "[I", true)
  | 12 => ("FileHouseModel", "must", "[I", true)
  | 13 => ("FileHouseModel", "from", "[I", true)
  | 14 => ("FileHouseModel", "surely", "[I", true)
  | 15 => ("FileHouseModel", "maybe", "[I", true)
  | 16 => ("FileHouseModel", "readers", "I", false)
  | 17 => ("FileHouseModel", "opens", "[I", true)
  | 18 => ("FileHouseModel", "openOn", "[I", true)
  | 19 => ("FileHouseModel", "turners", "I", false)
  | 20 => ("FileHouseModel", "turnFrom", "[I", true)
  | 21 => ("FileHouseModel", "turnTo", "[I", true)
  | 22 => ("FileHouseModel", "drops", "[I", true)
  | 23 => ("FileHouseModel", "price", "[I", true)
  | 24 => ("FileHouseModel", "turnOn", "[I", true)
  | 25 => ("FileHouseModel", "records", "I", false)
  | 26 => ("FileHouseModel", "bent", "I", false)
  | 27 => ("FileHouseModel", "tag", "[I", true)
  | 28 => ("FileHouseModel", "begin", "[I", true)
  | 29 => ("FileHouseModel", "longs", "[I", true)
  | 30 => ("FileHouseModel", "wasMany", "I", false)
  | 31 => ("FileHouseModel", "wasTag", "[I", true)
  | 32 => ("FileHouseModel", "wasBegin", "[I", true)
  | 33 => ("FileHouseModel", "wasLong", "[I", true)
  | 34 => ("FileHouseModel", "cost", "[I", true)
  | 35 => ("FileHouseModel", "rowLong", "I", false)
  | 36 => ("FileHouseModel", "row", "[I", true)
  | 37 => ("FileHouseModel", "toldLong", "I", false)
  | 38 => ("FileHouseModel", "told", "[I", true)
  | 39 => ("FileHouseModel", "until", "[I", true)
  | 40 => ("FileHouseModel", "planPrice", "I", false)
  | 41 => ("FileHouseModel", "planLong", "I", false)
  | _ => ("FileHouseModel", "planRow", "[I", true)
def tyX11 : Nat → FieldType := fun k => match k with
  | 0 => .array .byte
  | 1 => .int
  | 2 => .int
  | 3 => .int
  | 4 => .array .int
  | 5 => .array .int
  | 6 => .array .int
  | 7 => .array .boolean
  | 8 => .array .int
  | 9 => .int
  | 10 => .array .int
  | 11 => .array .int
  | 12 => .array .int
  | 13 => .array .int
  | 14 => .array .int
  | 15 => .array .int
  | 16 => .int
  | 17 => .array .int
  | 18 => .array .int
  | 19 => .int
  | 20 => .array .int
  | 21 => .array .int
  | 22 => .array .int
  | 23 => .array .int
  | 24 => .array .int
  | 25 => .int
  | 26 => .int
  | 27 => .array .int
  | 28 => .array .int
  | 29 => .array .int
  | 30 => .int
  | 31 => .array .int
  | 32 => .array .int
  | 33 => .array .int
  | 34 => .array .int
  | 35 => .int
  | 36 => .array .int
  | 37 => .int
  | 38 => .array .int
  | 39 => .array .int
  | 40 => .int
  | 41 => .int
  | _ => .array .int
theorem nmX11 : ∀ a, a < 43 → ∀ b, b < 43 → a ≠ b → (TX11 a).2.1 ≠ (TX11 b).2.1 := by decide +kernel
theorem tyX11_ok : ∀ k, k < 43 → parseFieldDescriptor (TX11 k).2.2.1 = some (tyX11 k) := by decide +kernel
abbrev cX11_init : ByteArray := prog_13_method_1_code
def yX11_init : MethodName := ⟨RX11, "<init>", "()V"⟩
abbrev cX11_lies : ByteArray := prog_13_method_2_code
def yX11_lies : MethodName := ⟨RX11, "lies", "(III)Z"⟩
abbrev cX11_has : ByteArray := prog_13_method_3_code
def yX11_has : MethodName := ⟨RX11, "has", "(II)Z"⟩
abbrev cX11_push : ByteArray := prog_13_method_4_code
def yX11_push : MethodName := ⟨RX11, "push", "(I)V"⟩
abbrev cX11_feed : ByteArray := prog_13_method_5_code
def yX11_feed : MethodName := ⟨RX11, "feed", "(IIIII)I"⟩
abbrev cX11_make : ByteArray := prog_13_method_6_code
def yX11_make : MethodName := ⟨RX11, "make", "(IIZI)I"⟩
abbrev cX11_file : ByteArray := prog_13_method_7_code
def yX11_file : MethodName := ⟨RX11, "file", "(I)I"⟩
abbrev cX11_isFile : ByteArray := prog_13_method_8_code
def yX11_isFile : MethodName := ⟨RX11, "isFile", "(I)Z"⟩
abbrev cX11_isMake : ByteArray := prog_13_method_9_code
def yX11_isMake : MethodName := ⟨RX11, "isMake", "(I)Z"⟩
abbrev cX11_isMachine : ByteArray := prog_13_method_10_code
def yX11_isMachine : MethodName := ⟨RX11, "isMachine", "(I)Z"⟩
abbrev cX11_must : ByteArray := prog_13_method_11_code
def yX11_must : MethodName := ⟨RX11, "must", "(II)Z"⟩
abbrev cX11_machine : ByteArray := prog_13_method_12_code
def yX11_machine : MethodName := ⟨RX11, "machine", "(III)Z"⟩
abbrev cX11_reader : ByteArray := prog_13_method_13_code
def yX11_reader : MethodName := ⟨RX11, "reader", "(II)Z"⟩
abbrev cX11_turner : ByteArray := prog_13_method_14_code
def yX11_turner : MethodName := ⟨RX11, "turner", "(IIIII)I"⟩
abbrev cX11_year : ByteArray := prog_13_method_15_code
def yX11_year : MethodName := ⟨RX11, "year", "(I)Z"⟩
abbrev cX11_byteAt : ByteArray := prog_13_method_16_code
def yX11_byteAt : MethodName := ⟨RX11, "byteAt", "(II)I"⟩
abbrev cX11_reads : ByteArray := prog_13_method_17_code
def yX11_reads : MethodName := ⟨RX11, "reads", "(II)Z"⟩
abbrev cX11_bends : ByteArray := prog_13_method_18_code
def yX11_bends : MethodName := ⟨RX11, "bends", "(II)I"⟩
abbrev cX11_knows : ByteArray := prog_13_method_19_code
def yX11_knows : MethodName := ⟨RX11, "knows", "(I)I"⟩
abbrev cX11_know : ByteArray := prog_13_method_20_code
def yX11_know : MethodName := ⟨RX11, "know", "(I)I"⟩
abbrev cX11_record : ByteArray := prog_13_method_21_code
def yX11_record : MethodName := ⟨RX11, "record", "(III)I"⟩
abbrev cX11_properties : ByteArray := prog_13_method_22_code
def yX11_properties : MethodName := ⟨RX11, "properties", "(I)I"⟩
abbrev cX11_turn : ByteArray := prog_13_method_23_code
def yX11_turn : MethodName := ⟨RX11, "turn", "(II)I"⟩
abbrev cX11_goes : ByteArray := prog_13_method_24_code
def yX11_goes : MethodName := ⟨RX11, "goes", "(II)Z"⟩
abbrev cX11_areAlike : ByteArray := prog_13_method_25_code
def yX11_areAlike : MethodName := ⟨RX11, "areAlike", "(IIII)Z"⟩
abbrev cX11_isKept : ByteArray := prog_13_method_26_code
def yX11_isKept : MethodName := ⟨RX11, "isKept", "(III)Z"⟩
abbrev cX11_kept : ByteArray := prog_13_method_27_code
def yX11_kept : MethodName := ⟨RX11, "kept", "(II)I"⟩
abbrev cX11_mayTurn : ByteArray := prog_13_method_28_code
def yX11_mayTurn : MethodName := ⟨RX11, "mayTurn", "(II)Z"⟩
abbrev cX11_measures : ByteArray := prog_13_method_29_code
def yX11_measures : MethodName := ⟨RX11, "measures", "(II)V"⟩
abbrev cX11_bestRoad : ByteArray := prog_13_method_30_code
def yX11_bestRoad : MethodName := ⟨RX11, "bestRoad", "(II)I"⟩
abbrev cX11_road : ByteArray := prog_13_method_31_code
def yX11_road : MethodName := ⟨RX11, "road", "(II)I"⟩
abbrev cX11_step : ByteArray := prog_13_method_32_code
def yX11_step : MethodName := ⟨RX11, "step", "(I)I"⟩
abbrev cX11_lives : ByteArray := prog_13_method_33_code
def yX11_lives : MethodName := ⟨RX11, "lives", "(IZ)I"⟩
abbrev cX11_lastOf : ByteArray := prog_13_method_34_code
def yX11_lastOf : MethodName := ⟨RX11, "lastOf", "(IZ)I"⟩
abbrev cX11_last : ByteArray := prog_13_method_35_code
def yX11_last : MethodName := ⟨RX11, "last", "(IZ)I"⟩
abbrev cX11_isRead : ByteArray := prog_13_method_36_code
def yX11_isRead : MethodName := ⟨RX11, "isRead", "(II)Z"⟩
abbrev cX11_isPlanned : ByteArray := prog_13_method_37_code
def yX11_isPlanned : MethodName := ⟨RX11, "isPlanned", "(I)Z"⟩
abbrev cX11_isBetter : ByteArray := prog_13_method_38_code
def yX11_isBetter : MethodName := ⟨RX11, "isBetter", "(I)Z"⟩
abbrev cX11_goalOf : ByteArray := prog_13_method_39_code
def yX11_goalOf : MethodName := ⟨RX11, "goalOf", "(II)I"⟩
abbrev cX11_plan : ByteArray := prog_13_method_40_code
def yX11_plan : MethodName := ⟨RX11, "plan", "(I)I"⟩
abbrev cX11_goal : ByteArray := prog_13_method_41_code
def yX11_goal : MethodName := ⟨RX11, "goal", "(II)I"⟩
abbrev cX11_look : ByteArray := prog_13_method_42_code
def yX11_look : MethodName := ⟨RX11, "look", "(II)I"⟩
abbrev cX11_count : ByteArray := prog_13_method_43_code
def yX11_count : MethodName := ⟨RX11, "count", "(I)I"⟩
def RJx8e188 : String := "java/lang/Cloneable"
def RJ9 : String := "java/lang/Math"
abbrev cJ9_max_7cf53 : ByteArray := prog_15_method_65_code
def yJ9_max_7cf53 : MethodName := ⟨RJ9, "max", "(II)I"⟩
abbrev cJ9_min_7cf53 : ByteArray := prog_15_method_69_code
def yJ9_min_7cf53 : MethodName := ⟨RJ9, "min", "(II)I"⟩
abbrev cJ9_min_f86c9 : ByteArray := prog_15_method_70_code
def yJ9_min_f86c9 : MethodName := ⟨RJ9, "min", "(JJ)J"⟩
def RJ10 : String := "java/lang/System"
def RJ7 : String := "java/util/Arrays"
abbrev cJ7_fill_d0a16 : ByteArray := prog_17_method_101_code
def yJ7_fill_d0a16 : MethodName := ⟨RJ7, "fill", "([JJ)V"⟩
abbrev cJ7_fill_53178 : ByteArray := prog_17_method_103_code
def yJ7_fill_53178 : MethodName := ⟨RJ7, "fill", "([II)V"⟩
abbrev cJ7_copyOf_59c91 : ByteArray := prog_17_method_123_code
def yJ7_copyOf_59c91 : MethodName := ⟨RJ7, "copyOf", "([II)[I"⟩
def RL : String := "FileHouseLaw"
abbrev cL_law : ByteArray := code
def yL_law : MethodName := ⟨RL, "law", "([I)Z"⟩
abbrev vwCl : List vw_C := [(RX0, TX0, 2), (RX1, TX1, 2), (RX2, TX2, 4), (RX3, TX3, 3), (RX4, TX4, 7), (RX5, TX5, 3), (RX6, TX6, 2), (RX7, TX7, 9), (RX8, TX8, 5), (RX9, TX9, 2), (RX10, TX10, 15), (RX11, TX11, 43)]
end
section
theorem dX0_init_0 : decode cX0_init 0 = .ok (.aload_n 0, 1) := by decide +kernel
theorem dX0_init_1 : decode cX0_init 1 = .ok (.invokespecial 3, 3) := by decide +kernel
theorem dX0_init_4 : decode cX0_init 4 = .ok (.aload_n 0, 1) := by decide +kernel
theorem dX0_init_5 : decode cX0_init 5 = .ok (.iconst 0, 1) := by decide +kernel
theorem dX0_init_6 : decode cX0_init 6 = .ok (.putfield 9, 3) := by decide +kernel
theorem dX0_init_9 : decode cX0_init 9 = .ok (.aload_n 0, 1) := by decide +kernel
theorem dX0_init_10 : decode cX0_init 10 = .ok (.iload_n 1, 1) := by decide +kernel
theorem dX0_init_11 : decode cX0_init 11 = .ok (.iconst 0, 1) := by decide +kernel
theorem dX0_init_12 : decode cX0_init 12 = .ok (.invokestatic 15, 3) := by decide +kernel
theorem dX0_init_15 : decode cX0_init 15 = .ok (.newarray .int, 2) := by decide +kernel
theorem dX0_init_17 : decode cX0_init 17 = .ok (.putfield 21, 3) := by decide +kernel
theorem dX0_init_20 : decode cX0_init 20 = .ok (.return_, 1) := by decide +kernel
theorem dX0_clear_0 : decode cX0_clear 0 = .ok (.aload_n 0, 1) := by decide +kernel
theorem dX0_clear_1 : decode cX0_clear 1 = .ok (.iconst 0, 1) := by decide +kernel
theorem dX0_clear_2 : decode cX0_clear 2 = .ok (.putfield 9, 3) := by decide +kernel
theorem dX0_clear_5 : decode cX0_clear 5 = .ok (.return_, 1) := by decide +kernel
theorem dX0_room_0 : decode cX0_room 0 = .ok (.aload_n 0, 1) := by decide +kernel
theorem dX0_room_1 : decode cX0_room 1 = .ok (.getfield 21, 3) := by decide +kernel
theorem dX0_room_4 : decode cX0_room 4 = .ok (.arraylength, 1) := by decide +kernel
theorem dX0_room_5 : decode cX0_room 5 = .ok (.aload_n 0, 1) := by decide +kernel
theorem dX0_room_6 : decode cX0_room 6 = .ok (.getfield 9, 3) := by decide +kernel
theorem dX0_room_9 : decode cX0_room 9 = .ok (.isub, 1) := by decide +kernel
theorem dX0_room_10 : decode cX0_room 10 = .ok (.ireturn, 1) := by decide +kernel
theorem dX0_addByte_0 : decode cX0_addByte 0 = .ok (.aload_n 0, 1) := by decide +kernel
theorem dX0_addByte_1 : decode cX0_addByte 1 = .ok (.getfield 9, 3) := by decide +kernel
theorem dX0_addByte_4 : decode cX0_addByte 4 = .ok (.aload_n 0, 1) := by decide +kernel
theorem dX0_addByte_5 : decode cX0_addByte 5 = .ok (.getfield 21, 3) := by decide +kernel
theorem dX0_addByte_8 : decode cX0_addByte 8 = .ok (.arraylength, 1) := by decide +kernel
theorem dX0_addByte_9 : decode cX0_addByte 9 = .ok (.if_icmp .lt 5, 3) := by decide +kernel
theorem dX0_addByte_12 : decode cX0_addByte 12 = .ok (.iconst 0, 1) := by decide +kernel
theorem dX0_addByte_13 : decode cX0_addByte 13 = .ok (.ireturn, 1) := by decide +kernel
theorem dX0_addByte_14 : decode cX0_addByte 14 = .ok (.aload_n 0, 1) := by decide +kernel
theorem dX0_addByte_15 : decode cX0_addByte 15 = .ok (.getfield 21, 3) := by decide +kernel
theorem dX0_addByte_18 : decode cX0_addByte 18 = .ok (.aload_n 0, 1) := by decide +kernel
theorem dX0_addByte_19 : decode cX0_addByte 19 = .ok (.getfield 9, 3) := by decide +kernel
theorem dX0_addByte_22 : decode cX0_addByte 22 = .ok (.iload_n 1, 1) := by decide +kernel
theorem dX0_addByte_23 : decode cX0_addByte 23 = .ok (.sipush 255, 3) := by decide +kernel
theorem dX0_addByte_26 : decode cX0_addByte 26 = .ok (.iand, 1) := by decide +kernel
theorem dX0_addByte_27 : decode cX0_addByte 27 = .ok (.iastore, 1) := by decide +kernel
theorem dX0_addByte_28 : decode cX0_addByte 28 = .ok (.aload_n 0, 1) := by decide +kernel
theorem dX0_addByte_29 : decode cX0_addByte 29 = .ok (.dup, 1) := by decide +kernel
theorem dX0_addByte_30 : decode cX0_addByte 30 = .ok (.getfield 9, 3) := by decide +kernel
theorem dX0_addByte_33 : decode cX0_addByte 33 = .ok (.iconst 1, 1) := by decide +kernel
theorem dX0_addByte_34 : decode cX0_addByte 34 = .ok (.iadd, 1) := by decide +kernel
theorem dX0_addByte_35 : decode cX0_addByte 35 = .ok (.putfield 9, 3) := by decide +kernel
theorem dX0_addByte_38 : decode cX0_addByte 38 = .ok (.iconst 1, 1) := by decide +kernel
theorem dX0_addByte_39 : decode cX0_addByte 39 = .ok (.ireturn, 1) := by decide +kernel
theorem dX0_addWord_0 : decode cX0_addWord 0 = .ok (.bipush 24, 2) := by decide +kernel
theorem dX0_addWord_2 : decode cX0_addWord 2 = .ok (.istore_n 2, 1) := by decide +kernel
theorem dX0_addWord_3 : decode cX0_addWord 3 = .ok (.iload_n 2, 1) := by decide +kernel
theorem dX0_addWord_4 : decode cX0_addWord 4 = .ok (.ifCond .lt 17, 3) := by decide +kernel
theorem dX0_addWord_7 : decode cX0_addWord 7 = .ok (.aload_n 0, 1) := by decide +kernel
theorem dX0_addWord_8 : decode cX0_addWord 8 = .ok (.iload_n 1, 1) := by decide +kernel
theorem dX0_addWord_9 : decode cX0_addWord 9 = .ok (.iload_n 2, 1) := by decide +kernel
theorem dX0_addWord_10 : decode cX0_addWord 10 = .ok (.ishr, 1) := by decide +kernel
theorem dX0_addWord_11 : decode cX0_addWord 11 = .ok (.invokevirtual 25, 3) := by decide +kernel
theorem dX0_addWord_14 : decode cX0_addWord 14 = .ok (.pop, 1) := by decide +kernel
theorem dX0_addWord_15 : decode cX0_addWord 15 = .ok (.iinc 2 (-8), 3) := by decide +kernel
theorem dX0_addWord_18 : decode cX0_addWord 18 = .ok (.goto (-15), 3) := by decide +kernel
theorem dX0_addWord_21 : decode cX0_addWord 21 = .ok (.return_, 1) := by decide +kernel
theorem dX0_addPart_0 : decode cX0_addPart 0 = .ok (.iload_n 2, 1) := by decide +kernel
theorem dX0_addPart_1 : decode cX0_addPart 1 = .ok (.ifCond .lt 23, 3) := by decide +kernel
theorem dX0_addPart_4 : decode cX0_addPart 4 = .ok (.iload_n 3, 1) := by decide +kernel
theorem dX0_addPart_5 : decode cX0_addPart 5 = .ok (.ifCond .lt 19, 3) := by decide +kernel
theorem dX0_addPart_8 : decode cX0_addPart 8 = .ok (.iload_n 3, 1) := by decide +kernel
theorem dX0_addPart_9 : decode cX0_addPart 9 = .ok (.aload_n 1, 1) := by decide +kernel
theorem dX0_addPart_10 : decode cX0_addPart 10 = .ok (.arraylength, 1) := by decide +kernel
theorem dX0_addPart_11 : decode cX0_addPart 11 = .ok (.iload_n 2, 1) := by decide +kernel
theorem dX0_addPart_12 : decode cX0_addPart 12 = .ok (.isub, 1) := by decide +kernel
theorem dX0_addPart_13 : decode cX0_addPart 13 = .ok (.if_icmp .gt 11, 3) := by decide +kernel
theorem dX0_addPart_16 : decode cX0_addPart 16 = .ok (.iload_n 3, 1) := by decide +kernel
theorem dX0_addPart_17 : decode cX0_addPart 17 = .ok (.aload_n 0, 1) := by decide +kernel
theorem dX0_addPart_18 : decode cX0_addPart 18 = .ok (.invokevirtual 29, 3) := by decide +kernel
theorem dX0_addPart_21 : decode cX0_addPart 21 = .ok (.if_icmp .le 5, 3) := by decide +kernel
theorem dX0_addPart_24 : decode cX0_addPart 24 = .ok (.iconst 0, 1) := by decide +kernel
theorem dX0_addPart_25 : decode cX0_addPart 25 = .ok (.ireturn, 1) := by decide +kernel
theorem dX0_addPart_26 : decode cX0_addPart 26 = .ok (.aload_n 1, 1) := by decide +kernel
theorem dX0_addPart_27 : decode cX0_addPart 27 = .ok (.iload_n 2, 1) := by decide +kernel
theorem dX0_addPart_28 : decode cX0_addPart 28 = .ok (.aload_n 0, 1) := by decide +kernel
theorem dX0_addPart_29 : decode cX0_addPart 29 = .ok (.getfield 21, 3) := by decide +kernel
theorem dX0_addPart_32 : decode cX0_addPart 32 = .ok (.aload_n 0, 1) := by decide +kernel
theorem dX0_addPart_33 : decode cX0_addPart 33 = .ok (.getfield 9, 3) := by decide +kernel
theorem dX0_addPart_36 : decode cX0_addPart 36 = .ok (.iload_n 3, 1) := by decide +kernel
theorem dX0_addPart_37 : decode cX0_addPart 37 = .ok (.invokestatic 33, 3) := by decide +kernel
theorem dX0_addPart_40 : decode cX0_addPart 40 = .ok (.aload_n 0, 1) := by decide +kernel
theorem dX0_addPart_41 : decode cX0_addPart 41 = .ok (.dup, 1) := by decide +kernel
theorem dX0_addPart_42 : decode cX0_addPart 42 = .ok (.getfield 9, 3) := by decide +kernel
theorem dX0_addPart_45 : decode cX0_addPart 45 = .ok (.iload_n 3, 1) := by decide +kernel
theorem dX0_addPart_46 : decode cX0_addPart 46 = .ok (.iadd, 1) := by decide +kernel
theorem dX0_addPart_47 : decode cX0_addPart 47 = .ok (.putfield 9, 3) := by decide +kernel
theorem dX0_addPart_50 : decode cX0_addPart 50 = .ok (.iconst 1, 1) := by decide +kernel
theorem dX0_addPart_51 : decode cX0_addPart 51 = .ok (.ireturn, 1) := by decide +kernel
theorem dX0_firstBytes_0 : decode cX0_firstBytes 0 = .ok (.aload_n 0, 1) := by decide +kernel
theorem dX0_firstBytes_1 : decode cX0_firstBytes 1 = .ok (.getfield 21, 3) := by decide +kernel
theorem dX0_firstBytes_4 : decode cX0_firstBytes 4 = .ok (.iconst 0, 1) := by decide +kernel
theorem dX0_firstBytes_5 : decode cX0_firstBytes 5 = .ok (.iload_n 1, 1) := by decide +kernel
theorem dX0_firstBytes_6 : decode cX0_firstBytes 6 = .ok (.aload_n 0, 1) := by decide +kernel
theorem dX0_firstBytes_7 : decode cX0_firstBytes 7 = .ok (.getfield 9, 3) := by decide +kernel
theorem dX0_firstBytes_10 : decode cX0_firstBytes 10 = .ok (.invokestatic 39, 3) := by decide +kernel
theorem dX0_firstBytes_13 : decode cX0_firstBytes 13 = .ok (.invokestatic 15, 3) := by decide +kernel
theorem dX0_firstBytes_16 : decode cX0_firstBytes 16 = .ok (.invokestatic 42, 3) := by decide +kernel
theorem dX0_firstBytes_19 : decode cX0_firstBytes 19 = .ok (.areturn, 1) := by decide +kernel
theorem dX1_init_0 : decode cX1_init 0 = .ok (.aload_n 0, 1) := by decide +kernel
theorem dX1_init_1 : decode cX1_init 1 = .ok (.invokespecial 3, 3) := by decide +kernel
theorem dX1_init_4 : decode cX1_init 4 = .ok (.aload_n 0, 1) := by decide +kernel
theorem dX1_init_5 : decode cX1_init 5 = .ok (.bipush 8, 2) := by decide +kernel
theorem dX1_init_7 : decode cX1_init 7 = .ok (.newarray .int, 2) := by decide +kernel
theorem dX1_init_9 : decode cX1_init 9 = .ok (.putfield 9, 3) := by decide +kernel
theorem dX1_init_12 : decode cX1_init 12 = .ok (.aload_n 0, 1) := by decide +kernel
theorem dX1_init_13 : decode cX1_init 13 = .ok (.bipush 8, 2) := by decide +kernel
theorem dX1_init_15 : decode cX1_init 15 = .ok (.newarray .int, 2) := by decide +kernel
theorem dX1_init_17 : decode cX1_init 17 = .ok (.putfield 15, 3) := by decide +kernel
theorem dX1_init_20 : decode cX1_init 20 = .ok (.aload_n 0, 1) := by decide +kernel
theorem dX1_init_21 : decode cX1_init 21 = .ok (.getfield 9, 3) := by decide +kernel
theorem dX1_init_24 : decode cX1_init 24 = .ok (.sipush 999, 3) := by decide +kernel
theorem dX1_init_27 : decode cX1_init 27 = .ok (.invokestatic 18, 3) := by decide +kernel
theorem dX1_init_30 : decode cX1_init 30 = .ok (.aload_n 0, 1) := by decide +kernel
theorem dX1_init_31 : decode cX1_init 31 = .ok (.getfield 15, 3) := by decide +kernel
theorem dX1_init_34 : decode cX1_init 34 = .ok (.sipush 999, 3) := by decide +kernel
theorem dX1_init_37 : decode cX1_init 37 = .ok (.invokestatic 18, 3) := by decide +kernel
theorem dX1_init_40 : decode cX1_init 40 = .ok (.return_, 1) := by decide +kernel
theorem dX1_knows_0 : decode cX1_knows 0 = .ok (.iload_n 1, 1) := by decide +kernel
theorem dX1_knows_1 : decode cX1_knows 1 = .ok (.ifCond .lt 13, 3) := by decide +kernel
theorem dX1_knows_4 : decode cX1_knows 4 = .ok (.iload_n 1, 1) := by decide +kernel
theorem dX1_knows_5 : decode cX1_knows 5 = .ok (.bipush 8, 2) := by decide +kernel
theorem dX1_knows_7 : decode cX1_knows 7 = .ok (.if_icmp .ge 7, 3) := by decide +kernel
theorem dX1_knows_10 : decode cX1_knows 10 = .ok (.iconst 1, 1) := by decide +kernel
theorem dX1_knows_11 : decode cX1_knows 11 = .ok (.goto 4, 3) := by decide +kernel
theorem dX1_knows_14 : decode cX1_knows 14 = .ok (.iconst 0, 1) := by decide +kernel
theorem dX1_knows_15 : decode cX1_knows 15 = .ok (.ireturn, 1) := by decide +kernel
theorem dX1_setEnds_0 : decode cX1_setEnds 0 = .ok (.aload_n 0, 1) := by decide +kernel
theorem dX1_setEnds_1 : decode cX1_setEnds 1 = .ok (.iload_n 1, 1) := by decide +kernel
theorem dX1_setEnds_2 : decode cX1_setEnds 2 = .ok (.invokevirtual 24, 3) := by decide +kernel
theorem dX1_setEnds_5 : decode cX1_setEnds 5 = .ok (.ifCond .eq 17, 3) := by decide +kernel
theorem dX1_setEnds_8 : decode cX1_setEnds 8 = .ok (.aload_n 0, 1) := by decide +kernel
theorem dX1_setEnds_9 : decode cX1_setEnds 9 = .ok (.getfield 9, 3) := by decide +kernel
theorem dX1_setEnds_12 : decode cX1_setEnds 12 = .ok (.iload_n 1, 1) := by decide +kernel
theorem dX1_setEnds_13 : decode cX1_setEnds 13 = .ok (.iload_n 2, 1) := by decide +kernel
theorem dX1_setEnds_14 : decode cX1_setEnds 14 = .ok (.iastore, 1) := by decide +kernel
theorem dX1_setEnds_15 : decode cX1_setEnds 15 = .ok (.aload_n 0, 1) := by decide +kernel
theorem dX1_setEnds_16 : decode cX1_setEnds 16 = .ok (.getfield 15, 3) := by decide +kernel
theorem dX1_setEnds_19 : decode cX1_setEnds 19 = .ok (.iload_n 1, 1) := by decide +kernel
theorem dX1_setEnds_20 : decode cX1_setEnds 20 = .ok (.iload_n 3, 1) := by decide +kernel
theorem dX1_setEnds_21 : decode cX1_setEnds 21 = .ok (.iastore, 1) := by decide +kernel
theorem dX1_setEnds_22 : decode cX1_setEnds 22 = .ok (.return_, 1) := by decide +kernel
theorem dX1_endOf_0 : decode cX1_endOf 0 = .ok (.aload_n 0, 1) := by decide +kernel
theorem dX1_endOf_1 : decode cX1_endOf 1 = .ok (.iload_n 1, 1) := by decide +kernel
theorem dX1_endOf_2 : decode cX1_endOf 2 = .ok (.invokevirtual 24, 3) := by decide +kernel
theorem dX1_endOf_5 : decode cX1_endOf 5 = .ok (.ifCond .ne 5, 3) := by decide +kernel
theorem dX1_endOf_8 : decode cX1_endOf 8 = .ok (.iconst (-1), 1) := by decide +kernel
theorem dX1_endOf_9 : decode cX1_endOf 9 = .ok (.ireturn, 1) := by decide +kernel
theorem dX1_endOf_10 : decode cX1_endOf 10 = .ok (.iload_n 2, 1) := by decide +kernel
theorem dX1_endOf_11 : decode cX1_endOf 11 = .ok (.ifCond .eq 12, 3) := by decide +kernel
theorem dX1_endOf_14 : decode cX1_endOf 14 = .ok (.aload_n 0, 1) := by decide +kernel
theorem dX1_endOf_15 : decode cX1_endOf 15 = .ok (.getfield 9, 3) := by decide +kernel
theorem dX1_endOf_18 : decode cX1_endOf 18 = .ok (.iload_n 1, 1) := by decide +kernel
theorem dX1_endOf_19 : decode cX1_endOf 19 = .ok (.iaload, 1) := by decide +kernel
theorem dX1_endOf_20 : decode cX1_endOf 20 = .ok (.goto 9, 3) := by decide +kernel
theorem dX1_endOf_23 : decode cX1_endOf 23 = .ok (.aload_n 0, 1) := by decide +kernel
theorem dX1_endOf_24 : decode cX1_endOf 24 = .ok (.getfield 15, 3) := by decide +kernel
theorem dX1_endOf_27 : decode cX1_endOf 27 = .ok (.iload_n 1, 1) := by decide +kernel
theorem dX1_endOf_28 : decode cX1_endOf 28 = .ok (.iaload, 1) := by decide +kernel
theorem dX1_endOf_29 : decode cX1_endOf 29 = .ok (.ireturn, 1) := by decide +kernel
theorem dX1_liveSurely_0 : decode cX1_liveSurely 0 = .ok (.iload_n 2, 1) := by decide +kernel
theorem dX1_liveSurely_1 : decode cX1_liveSurely 1 = .ok (.aload_n 0, 1) := by decide +kernel
theorem dX1_liveSurely_2 : decode cX1_liveSurely 2 = .ok (.iload_n 1, 1) := by decide +kernel
theorem dX1_liveSurely_3 : decode cX1_liveSurely 3 = .ok (.iconst 1, 1) := by decide +kernel
theorem dX1_liveSurely_4 : decode cX1_liveSurely 4 = .ok (.invokevirtual 28, 3) := by decide +kernel
theorem dX1_liveSurely_7 : decode cX1_liveSurely 7 = .ok (.if_icmp .gt 7, 3) := by decide +kernel
theorem dX1_liveSurely_10 : decode cX1_liveSurely 10 = .ok (.iconst 1, 1) := by decide +kernel
theorem dX1_liveSurely_11 : decode cX1_liveSurely 11 = .ok (.goto 4, 3) := by decide +kernel
theorem dX1_liveSurely_14 : decode cX1_liveSurely 14 = .ok (.iconst 0, 1) := by decide +kernel
theorem dX1_liveSurely_15 : decode cX1_liveSurely 15 = .ok (.ireturn, 1) := by decide +kernel
theorem dX2_init_0 : decode cX2_init 0 = .ok (.aload_n 0, 1) := by decide +kernel
theorem dX2_init_1 : decode cX2_init 1 = .ok (.invokespecial 1, 3) := by decide +kernel
theorem dX2_init_4 : decode cX2_init 4 = .ok (.aload_n 0, 1) := by decide +kernel
theorem dX2_init_5 : decode cX2_init 5 = .ok (.aload_n 1, 1) := by decide +kernel
theorem dX2_init_6 : decode cX2_init 6 = .ok (.putfield 7, 3) := by decide +kernel
theorem dX2_init_9 : decode cX2_init 9 = .ok (.aload_n 0, 1) := by decide +kernel
theorem dX2_init_10 : decode cX2_init 10 = .ok (.iload_n 2, 1) := by decide +kernel
theorem dX2_init_11 : decode cX2_init 11 = .ok (.putfield 13, 3) := by decide +kernel
theorem dX2_init_14 : decode cX2_init 14 = .ok (.aload_n 0, 1) := by decide +kernel
theorem dX2_init_15 : decode cX2_init 15 = .ok (.iload_n 3, 1) := by decide +kernel
theorem dX2_init_16 : decode cX2_init 16 = .ok (.putfield 17, 3) := by decide +kernel
theorem dX2_init_19 : decode cX2_init 19 = .ok (.aload_n 0, 1) := by decide +kernel
theorem dX2_init_20 : decode cX2_init 20 = .ok (.iload 4, 2) := by decide +kernel
theorem dX2_init_22 : decode cX2_init 22 = .ok (.putfield 21, 3) := by decide +kernel
theorem dX2_init_25 : decode cX2_init 25 = .ok (.return_, 1) := by decide +kernel
theorem dX2_marks_0 : decode cX2_marks 0 = .ok (.aload_n 1, 1) := by decide +kernel
theorem dX2_marks_1 : decode cX2_marks 1 = .ok (.arraylength, 1) := by decide +kernel
theorem dX2_marks_2 : decode cX2_marks 2 = .ok (.aload_n 0, 1) := by decide +kernel
theorem dX2_marks_3 : decode cX2_marks 3 = .ok (.getfield 7, 3) := by decide +kernel
theorem dX2_marks_6 : decode cX2_marks 6 = .ok (.arraylength, 1) := by decide +kernel
theorem dX2_marks_7 : decode cX2_marks 7 = .ok (.if_icmp .ge 5, 3) := by decide +kernel
theorem dX2_marks_10 : decode cX2_marks 10 = .ok (.iconst 0, 1) := by decide +kernel
theorem dX2_marks_11 : decode cX2_marks 11 = .ok (.ireturn, 1) := by decide +kernel
theorem dX2_marks_12 : decode cX2_marks 12 = .ok (.iconst 0, 1) := by decide +kernel
theorem dX2_marks_13 : decode cX2_marks 13 = .ok (.istore_n 2, 1) := by decide +kernel
theorem dX2_marks_14 : decode cX2_marks 14 = .ok (.iload_n 2, 1) := by decide +kernel
theorem dX2_marks_15 : decode cX2_marks 15 = .ok (.aload_n 0, 1) := by decide +kernel
theorem dX2_marks_16 : decode cX2_marks 16 = .ok (.getfield 7, 3) := by decide +kernel
theorem dX2_marks_19 : decode cX2_marks 19 = .ok (.arraylength, 1) := by decide +kernel
theorem dX2_marks_20 : decode cX2_marks 20 = .ok (.if_icmp .ge 23, 3) := by decide +kernel
theorem dX2_marks_23 : decode cX2_marks 23 = .ok (.aload_n 1, 1) := by decide +kernel
theorem dX2_marks_24 : decode cX2_marks 24 = .ok (.iload_n 2, 1) := by decide +kernel
theorem dX2_marks_25 : decode cX2_marks 25 = .ok (.iaload, 1) := by decide +kernel
theorem dX2_marks_26 : decode cX2_marks 26 = .ok (.aload_n 0, 1) := by decide +kernel
theorem dX2_marks_27 : decode cX2_marks 27 = .ok (.getfield 7, 3) := by decide +kernel
theorem dX2_marks_30 : decode cX2_marks 30 = .ok (.iload_n 2, 1) := by decide +kernel
theorem dX2_marks_31 : decode cX2_marks 31 = .ok (.iaload, 1) := by decide +kernel
theorem dX2_marks_32 : decode cX2_marks 32 = .ok (.if_icmp .eq 5, 3) := by decide +kernel
theorem dX2_marks_35 : decode cX2_marks 35 = .ok (.iconst 0, 1) := by decide +kernel
theorem dX2_marks_36 : decode cX2_marks 36 = .ok (.ireturn, 1) := by decide +kernel
theorem dX2_marks_37 : decode cX2_marks 37 = .ok (.iinc 2 1, 3) := by decide +kernel
theorem dX2_marks_40 : decode cX2_marks 40 = .ok (.goto (-26), 3) := by decide +kernel
theorem dX2_marks_43 : decode cX2_marks 43 = .ok (.iconst 1, 1) := by decide +kernel
theorem dX2_marks_44 : decode cX2_marks 44 = .ok (.ireturn, 1) := by decide +kernel
theorem dX3_init_0 : decode cX3_init 0 = .ok (.aload_n 0, 1) := by decide +kernel
theorem dX3_init_1 : decode cX3_init 1 = .ok (.invokespecial 3, 3) := by decide +kernel
theorem dX3_init_4 : decode cX3_init 4 = .ok (.aload_n 0, 1) := by decide +kernel
theorem dX3_init_5 : decode cX3_init 5 = .ok (.bipush 24, 2) := by decide +kernel
theorem dX3_init_7 : decode cX3_init 7 = .ok (.newarray .int, 2) := by decide +kernel
theorem dX3_init_9 : decode cX3_init 9 = .ok (.putfield 9, 3) := by decide +kernel
theorem dX3_init_12 : decode cX3_init 12 = .ok (.aload_n 0, 1) := by decide +kernel
theorem dX3_init_13 : decode cX3_init 13 = .ok (.bipush 24, 2) := by decide +kernel
theorem dX3_init_15 : decode cX3_init 15 = .ok (.newarray .int, 2) := by decide +kernel
theorem dX3_init_17 : decode cX3_init 17 = .ok (.putfield 15, 3) := by decide +kernel
theorem dX3_init_20 : decode cX3_init 20 = .ok (.aload_n 0, 1) := by decide +kernel
theorem dX3_init_21 : decode cX3_init 21 = .ok (.iconst 0, 1) := by decide +kernel
theorem dX3_init_22 : decode cX3_init 22 = .ok (.putfield 18, 3) := by decide +kernel
theorem dX3_init_25 : decode cX3_init 25 = .ok (.return_, 1) := by decide +kernel
theorem dX3_add_0 : decode cX3_add 0 = .ok (.aload_n 0, 1) := by decide +kernel
theorem dX3_add_1 : decode cX3_add 1 = .ok (.getfield 18, 3) := by decide +kernel
theorem dX3_add_4 : decode cX3_add 4 = .ok (.bipush 24, 2) := by decide +kernel
theorem dX3_add_6 : decode cX3_add 6 = .ok (.if_icmp .ge 12, 3) := by decide +kernel
theorem dX3_add_9 : decode cX3_add 9 = .ok (.aload_n 0, 1) := by decide +kernel
theorem dX3_add_10 : decode cX3_add 10 = .ok (.iload_n 1, 1) := by decide +kernel
theorem dX3_add_11 : decode cX3_add 11 = .ok (.iload_n 2, 1) := by decide +kernel
theorem dX3_add_12 : decode cX3_add 12 = .ok (.invokevirtual 22, 3) := by decide +kernel
theorem dX3_add_15 : decode cX3_add 15 = .ok (.ifCond .eq 5, 3) := by decide +kernel
theorem dX3_add_18 : decode cX3_add 18 = .ok (.iconst 0, 1) := by decide +kernel
theorem dX3_add_19 : decode cX3_add 19 = .ok (.ireturn, 1) := by decide +kernel
theorem dX3_add_20 : decode cX3_add 20 = .ok (.aload_n 0, 1) := by decide +kernel
theorem dX3_add_21 : decode cX3_add 21 = .ok (.getfield 9, 3) := by decide +kernel
theorem dX3_add_24 : decode cX3_add 24 = .ok (.aload_n 0, 1) := by decide +kernel
theorem dX3_add_25 : decode cX3_add 25 = .ok (.getfield 18, 3) := by decide +kernel
theorem dX3_add_28 : decode cX3_add 28 = .ok (.iload_n 1, 1) := by decide +kernel
theorem dX3_add_29 : decode cX3_add 29 = .ok (.iastore, 1) := by decide +kernel
theorem dX3_add_30 : decode cX3_add 30 = .ok (.aload_n 0, 1) := by decide +kernel
theorem dX3_add_31 : decode cX3_add 31 = .ok (.getfield 15, 3) := by decide +kernel
theorem dX3_add_34 : decode cX3_add 34 = .ok (.aload_n 0, 1) := by decide +kernel
theorem dX3_add_35 : decode cX3_add 35 = .ok (.getfield 18, 3) := by decide +kernel
theorem dX3_add_38 : decode cX3_add 38 = .ok (.iload_n 2, 1) := by decide +kernel
theorem dX3_add_39 : decode cX3_add 39 = .ok (.iastore, 1) := by decide +kernel
theorem dX3_add_40 : decode cX3_add 40 = .ok (.aload_n 0, 1) := by decide +kernel
theorem dX3_add_41 : decode cX3_add 41 = .ok (.dup, 1) := by decide +kernel
theorem dX3_add_42 : decode cX3_add 42 = .ok (.getfield 18, 3) := by decide +kernel
theorem dX3_add_45 : decode cX3_add 45 = .ok (.iconst 1, 1) := by decide +kernel
theorem dX3_add_46 : decode cX3_add 46 = .ok (.iadd, 1) := by decide +kernel
theorem dX3_add_47 : decode cX3_add 47 = .ok (.putfield 18, 3) := by decide +kernel
theorem dX3_add_50 : decode cX3_add 50 = .ok (.iconst 1, 1) := by decide +kernel
theorem dX3_add_51 : decode cX3_add 51 = .ok (.ireturn, 1) := by decide +kernel
theorem dX3_isTold_0 : decode cX3_isTold 0 = .ok (.iconst 0, 1) := by decide +kernel
theorem dX3_isTold_1 : decode cX3_isTold 1 = .ok (.istore_n 3, 1) := by decide +kernel
theorem dX3_isTold_2 : decode cX3_isTold 2 = .ok (.iload_n 3, 1) := by decide +kernel
theorem dX3_isTold_3 : decode cX3_isTold 3 = .ok (.aload_n 0, 1) := by decide +kernel
theorem dX3_isTold_4 : decode cX3_isTold 4 = .ok (.getfield 18, 3) := by decide +kernel
theorem dX3_isTold_7 : decode cX3_isTold 7 = .ok (.if_icmp .ge 31, 3) := by decide +kernel
theorem dX3_isTold_10 : decode cX3_isTold 10 = .ok (.aload_n 0, 1) := by decide +kernel
theorem dX3_isTold_11 : decode cX3_isTold 11 = .ok (.getfield 9, 3) := by decide +kernel
theorem dX3_isTold_14 : decode cX3_isTold 14 = .ok (.iload_n 3, 1) := by decide +kernel
theorem dX3_isTold_15 : decode cX3_isTold 15 = .ok (.iaload, 1) := by decide +kernel
theorem dX3_isTold_16 : decode cX3_isTold 16 = .ok (.iload_n 1, 1) := by decide +kernel
theorem dX3_isTold_17 : decode cX3_isTold 17 = .ok (.if_icmp .ne 15, 3) := by decide +kernel
theorem dX3_isTold_20 : decode cX3_isTold 20 = .ok (.aload_n 0, 1) := by decide +kernel
theorem dX3_isTold_21 : decode cX3_isTold 21 = .ok (.getfield 15, 3) := by decide +kernel
theorem dX3_isTold_24 : decode cX3_isTold 24 = .ok (.iload_n 3, 1) := by decide +kernel
theorem dX3_isTold_25 : decode cX3_isTold 25 = .ok (.iaload, 1) := by decide +kernel
theorem dX3_isTold_26 : decode cX3_isTold 26 = .ok (.iload_n 2, 1) := by decide +kernel
theorem dX3_isTold_27 : decode cX3_isTold 27 = .ok (.if_icmp .ne 5, 3) := by decide +kernel
theorem dX3_isTold_30 : decode cX3_isTold 30 = .ok (.iconst 1, 1) := by decide +kernel
theorem dX3_isTold_31 : decode cX3_isTold 31 = .ok (.ireturn, 1) := by decide +kernel
theorem dX3_isTold_32 : decode cX3_isTold 32 = .ok (.iinc 3 1, 3) := by decide +kernel
theorem dX3_isTold_35 : decode cX3_isTold 35 = .ok (.goto (-33), 3) := by decide +kernel
theorem dX3_isTold_38 : decode cX3_isTold 38 = .ok (.iconst 0, 1) := by decide +kernel
theorem dX3_isTold_39 : decode cX3_isTold 39 = .ok (.ireturn, 1) := by decide +kernel
theorem dX3_makesOpenIn_0 : decode cX3_makesOpenIn 0 = .ok (.iconst 0, 1) := by decide +kernel
theorem dX3_makesOpenIn_1 : decode cX3_makesOpenIn 1 = .ok (.istore_n 3, 1) := by decide +kernel
theorem dX3_makesOpenIn_2 : decode cX3_makesOpenIn 2 = .ok (.iconst 0, 1) := by decide +kernel
theorem dX3_makesOpenIn_3 : decode cX3_makesOpenIn 3 = .ok (.istore 4, 2) := by decide +kernel
theorem dX3_makesOpenIn_5 : decode cX3_makesOpenIn 5 = .ok (.iload 4, 2) := by decide +kernel
theorem dX3_makesOpenIn_7 : decode cX3_makesOpenIn 7 = .ok (.aload_n 0, 1) := by decide +kernel
theorem dX3_makesOpenIn_8 : decode cX3_makesOpenIn 8 = .ok (.getfield 18, 3) := by decide +kernel
theorem dX3_makesOpenIn_11 : decode cX3_makesOpenIn 11 = .ok (.if_icmp .ge 36, 3) := by decide +kernel
theorem dX3_makesOpenIn_14 : decode cX3_makesOpenIn 14 = .ok (.aload_n 1, 1) := by decide +kernel
theorem dX3_makesOpenIn_15 : decode cX3_makesOpenIn 15 = .ok (.aload_n 0, 1) := by decide +kernel
theorem dX3_makesOpenIn_16 : decode cX3_makesOpenIn 16 = .ok (.getfield 15, 3) := by decide +kernel
theorem dX3_makesOpenIn_19 : decode cX3_makesOpenIn 19 = .ok (.iload 4, 2) := by decide +kernel
theorem dX3_makesOpenIn_21 : decode cX3_makesOpenIn 21 = .ok (.iaload, 1) := by decide +kernel
theorem dX3_makesOpenIn_22 : decode cX3_makesOpenIn 22 = .ok (.iload_n 2, 1) := by decide +kernel
theorem dX3_makesOpenIn_23 : decode cX3_makesOpenIn 23 = .ok (.invokevirtual 26, 3) := by decide +kernel
theorem dX3_makesOpenIn_26 : decode cX3_makesOpenIn 26 = .ok (.ifCond .eq 15, 3) := by decide +kernel
theorem dX3_makesOpenIn_29 : decode cX3_makesOpenIn 29 = .ok (.iload_n 3, 1) := by decide +kernel
theorem dX3_makesOpenIn_30 : decode cX3_makesOpenIn 30 = .ok (.iconst 1, 1) := by decide +kernel
theorem dX3_makesOpenIn_31 : decode cX3_makesOpenIn 31 = .ok (.aload_n 0, 1) := by decide +kernel
theorem dX3_makesOpenIn_32 : decode cX3_makesOpenIn 32 = .ok (.getfield 9, 3) := by decide +kernel
theorem dX3_makesOpenIn_35 : decode cX3_makesOpenIn 35 = .ok (.iload 4, 2) := by decide +kernel
theorem dX3_makesOpenIn_37 : decode cX3_makesOpenIn 37 = .ok (.iaload, 1) := by decide +kernel
theorem dX3_makesOpenIn_38 : decode cX3_makesOpenIn 38 = .ok (.ishl, 1) := by decide +kernel
theorem dX3_makesOpenIn_39 : decode cX3_makesOpenIn 39 = .ok (.ior, 1) := by decide +kernel
theorem dX3_makesOpenIn_40 : decode cX3_makesOpenIn 40 = .ok (.istore_n 3, 1) := by decide +kernel
theorem dX3_makesOpenIn_41 : decode cX3_makesOpenIn 41 = .ok (.iinc 4 1, 3) := by decide +kernel
theorem dX3_makesOpenIn_44 : decode cX3_makesOpenIn 44 = .ok (.goto (-39), 3) := by decide +kernel
theorem dX3_makesOpenIn_47 : decode cX3_makesOpenIn 47 = .ok (.iload_n 3, 1) := by decide +kernel
theorem dX3_makesOpenIn_48 : decode cX3_makesOpenIn 48 = .ok (.ireturn, 1) := by decide +kernel
theorem dX4_init_0 : decode cX4_init 0 = .ok (.aload_n 0, 1) := by decide +kernel
theorem dX4_init_1 : decode cX4_init 1 = .ok (.invokespecial 3, 3) := by decide +kernel
theorem dX4_init_4 : decode cX4_init 4 = .ok (.aload_n 0, 1) := by decide +kernel
theorem dX4_init_5 : decode cX4_init 5 = .ok (.bipush 29, 2) := by decide +kernel
theorem dX4_init_7 : decode cX4_init 7 = .ok (.newarray .int, 2) := by decide +kernel
theorem dX4_init_9 : decode cX4_init 9 = .ok (.putfield 9, 3) := by decide +kernel
theorem dX4_init_12 : decode cX4_init 12 = .ok (.aload_n 0, 1) := by decide +kernel
theorem dX4_init_13 : decode cX4_init 13 = .ok (.bipush 29, 2) := by decide +kernel
theorem dX4_init_15 : decode cX4_init 15 = .ok (.newarray .int, 2) := by decide +kernel
theorem dX4_init_17 : decode cX4_init 17 = .ok (.putfield 15, 3) := by decide +kernel
theorem dX4_init_20 : decode cX4_init 20 = .ok (.aload_n 0, 1) := by decide +kernel
theorem dX4_init_21 : decode cX4_init 21 = .ok (.bipush 29, 2) := by decide +kernel
theorem dX4_init_23 : decode cX4_init 23 = .ok (.newarray .int, 2) := by decide +kernel
theorem dX4_init_25 : decode cX4_init 25 = .ok (.putfield 18, 3) := by decide +kernel
theorem dX4_init_28 : decode cX4_init 28 = .ok (.aload_n 0, 1) := by decide +kernel
theorem dX4_init_29 : decode cX4_init 29 = .ok (.iconst 0, 1) := by decide +kernel
theorem dX4_init_30 : decode cX4_init 30 = .ok (.newarray .int, 2) := by decide +kernel
theorem dX4_init_32 : decode cX4_init 32 = .ok (.putfield 21, 3) := by decide +kernel
theorem dX4_init_35 : decode cX4_init 35 = .ok (.aload_n 0, 1) := by decide +kernel
theorem dX4_init_36 : decode cX4_init 36 = .ok (.iconst 0, 1) := by decide +kernel
theorem dX4_init_37 : decode cX4_init 37 = .ok (.putfield 24, 3) := by decide +kernel
theorem dX4_init_40 : decode cX4_init 40 = .ok (.aload_n 0, 1) := by decide +kernel
theorem dX4_init_41 : decode cX4_init 41 = .ok (.iconst 0, 1) := by decide +kernel
theorem dX4_init_42 : decode cX4_init 42 = .ok (.putfield 28, 3) := by decide +kernel
theorem dX4_init_45 : decode cX4_init 45 = .ok (.aload_n 0, 1) := by decide +kernel
theorem dX4_init_46 : decode cX4_init 46 = .ok (.iconst 0, 1) := by decide +kernel
theorem dX4_init_47 : decode cX4_init 47 = .ok (.putfield 31, 3) := by decide +kernel
theorem dX4_init_50 : decode cX4_init 50 = .ok (.return_, 1) := by decide +kernel
theorem dX4_clear_0 : decode cX4_clear 0 = .ok (.aload_n 0, 1) := by decide +kernel
theorem dX4_clear_1 : decode cX4_clear 1 = .ok (.iconst 0, 1) := by decide +kernel
theorem dX4_clear_2 : decode cX4_clear 2 = .ok (.putfield 24, 3) := by decide +kernel
theorem dX4_clear_5 : decode cX4_clear 5 = .ok (.aload_n 0, 1) := by decide +kernel
theorem dX4_clear_6 : decode cX4_clear 6 = .ok (.iconst 0, 1) := by decide +kernel
theorem dX4_clear_7 : decode cX4_clear 7 = .ok (.putfield 28, 3) := by decide +kernel
theorem dX4_clear_10 : decode cX4_clear 10 = .ok (.aload_n 0, 1) := by decide +kernel
theorem dX4_clear_11 : decode cX4_clear 11 = .ok (.iconst 0, 1) := by decide +kernel
theorem dX4_clear_12 : decode cX4_clear 12 = .ok (.putfield 31, 3) := by decide +kernel
theorem dX4_clear_15 : decode cX4_clear 15 = .ok (.return_, 1) := by decide +kernel
theorem dX4_readBy_0 : decode cX4_readBy 0 = .ok (.aload_n 0, 1) := by decide +kernel
theorem dX4_readBy_1 : decode cX4_readBy 1 = .ok (.invokevirtual 34, 3) := by decide +kernel
theorem dX4_readBy_4 : decode cX4_readBy 4 = .ok (.aload_n 0, 1) := by decide +kernel
theorem dX4_readBy_5 : decode cX4_readBy 5 = .ok (.aload_n 2, 1) := by decide +kernel
theorem dX4_readBy_6 : decode cX4_readBy 6 = .ok (.putfield 21, 3) := by decide +kernel
theorem dX4_readBy_9 : decode cX4_readBy 9 = .ok (.aload_n 1, 1) := by decide +kernel
theorem dX4_readBy_10 : decode cX4_readBy 10 = .ok (.aload_n 2, 1) := by decide +kernel
theorem dX4_readBy_11 : decode cX4_readBy 11 = .ok (.invokevirtual 37, 3) := by decide +kernel
theorem dX4_readBy_14 : decode cX4_readBy 14 = .ok (.ifCond .ne 10, 3) := by decide +kernel
theorem dX4_readBy_17 : decode cX4_readBy 17 = .ok (.aload_n 0, 1) := by decide +kernel
theorem dX4_readBy_18 : decode cX4_readBy 18 = .ok (.bipush (-2), 2) := by decide +kernel
theorem dX4_readBy_20 : decode cX4_readBy 20 = .ok (.putfield 31, 3) := by decide +kernel
theorem dX4_readBy_23 : decode cX4_readBy 23 = .ok (.return_, 1) := by decide +kernel
theorem dX4_readBy_24 : decode cX4_readBy 24 = .ok (.aload_n 1, 1) := by decide +kernel
theorem dX4_readBy_25 : decode cX4_readBy 25 = .ok (.getfield 43, 3) := by decide +kernel
theorem dX4_readBy_28 : decode cX4_readBy 28 = .ok (.arraylength, 1) := by decide +kernel
theorem dX4_readBy_29 : decode cX4_readBy 29 = .ok (.istore_n 3, 1) := by decide +kernel
theorem dX4_readBy_30 : decode cX4_readBy 30 = .ok (.aload_n 2, 1) := by decide +kernel
theorem dX4_readBy_31 : decode cX4_readBy 31 = .ok (.arraylength, 1) := by decide +kernel
theorem dX4_readBy_32 : decode cX4_readBy 32 = .ok (.istore 4, 2) := by decide +kernel
theorem dX4_readBy_34 : decode cX4_readBy 34 = .ok (.aload_n 1, 1) := by decide +kernel
theorem dX4_readBy_35 : decode cX4_readBy 35 = .ok (.getfield 46, 3) := by decide +kernel
theorem dX4_readBy_38 : decode cX4_readBy 38 = .ok (.ifCond .eq 37, 3) := by decide +kernel
theorem dX4_readBy_41 : decode cX4_readBy 41 = .ok (.iload 4, 2) := by decide +kernel
theorem dX4_readBy_43 : decode cX4_readBy 43 = .ok (.iload_n 3, 1) := by decide +kernel
theorem dX4_readBy_44 : decode cX4_readBy 44 = .ok (.if_icmp .le 31, 3) := by decide +kernel
theorem dX4_readBy_47 : decode cX4_readBy 47 = .ok (.iinc 4 (-1), 3) := by decide +kernel
theorem dX4_readBy_50 : decode cX4_readBy 50 = .ok (.aload_n 0, 1) := by decide +kernel
theorem dX4_readBy_51 : decode cX4_readBy 51 = .ok (.aload_n 2, 1) := by decide +kernel
theorem dX4_readBy_52 : decode cX4_readBy 52 = .ok (.iload 4, 2) := by decide +kernel
theorem dX4_readBy_54 : decode cX4_readBy 54 = .ok (.iaload, 1) := by decide +kernel
theorem dX4_readBy_55 : decode cX4_readBy 55 = .ok (.aload_n 2, 1) := by decide +kernel
theorem dX4_readBy_56 : decode cX4_readBy 56 = .ok (.iload 4, 2) := by decide +kernel
theorem dX4_readBy_58 : decode cX4_readBy 58 = .ok (.invokestatic 50, 3) := by decide +kernel
theorem dX4_readBy_61 : decode cX4_readBy 61 = .ok (.if_icmp .ne 7, 3) := by decide +kernel
theorem dX4_readBy_64 : decode cX4_readBy 64 = .ok (.iconst 0, 1) := by decide +kernel
theorem dX4_readBy_65 : decode cX4_readBy 65 = .ok (.goto 4, 3) := by decide +kernel
theorem dX4_readBy_68 : decode cX4_readBy 68 = .ok (.iconst 1, 1) := by decide +kernel
theorem dX4_readBy_69 : decode cX4_readBy 69 = .ok (.putfield 31, 3) := by decide +kernel
theorem dX4_readBy_72 : decode cX4_readBy 72 = .ok (.goto 15, 3) := by decide +kernel
theorem dX4_readBy_75 : decode cX4_readBy 75 = .ok (.aload_n 1, 1) := by decide +kernel
theorem dX4_readBy_76 : decode cX4_readBy 76 = .ok (.getfield 46, 3) := by decide +kernel
theorem dX4_readBy_79 : decode cX4_readBy 79 = .ok (.ifCond .eq 8, 3) := by decide +kernel
theorem dX4_readBy_82 : decode cX4_readBy 82 = .ok (.aload_n 0, 1) := by decide +kernel
theorem dX4_readBy_83 : decode cX4_readBy 83 = .ok (.iconst 1, 1) := by decide +kernel
theorem dX4_readBy_84 : decode cX4_readBy 84 = .ok (.putfield 31, 3) := by decide +kernel
theorem dX4_readBy_87 : decode cX4_readBy 87 = .ok (.aload_n 0, 1) := by decide +kernel
theorem dX4_readBy_88 : decode cX4_readBy 88 = .ok (.aload_n 1, 1) := by decide +kernel
theorem dX4_readBy_89 : decode cX4_readBy 89 = .ok (.getfield 54, 3) := by decide +kernel
theorem dX4_readBy_92 : decode cX4_readBy 92 = .ok (.iload_n 3, 1) := by decide +kernel
theorem dX4_readBy_93 : decode cX4_readBy 93 = .ok (.iload 4, 2) := by decide +kernel
theorem dX4_readBy_95 : decode cX4_readBy 95 = .ok (.invokevirtual 57, 3) := by decide +kernel
theorem dX4_readBy_98 : decode cX4_readBy 98 = .ok (.return_, 1) := by decide +kernel
theorem dX4_readRecords_0 : decode cX4_readRecords 0 = .ok (.iload_n 2, 1) := by decide +kernel
theorem dX4_readRecords_1 : decode cX4_readRecords 1 = .ok (.istore 4, 2) := by decide +kernel
theorem dX4_readRecords_3 : decode cX4_readRecords 3 = .ok (.iconst 0, 1) := by decide +kernel
theorem dX4_readRecords_4 : decode cX4_readRecords 4 = .ok (.istore 5, 2) := by decide +kernel
theorem dX4_readRecords_6 : decode cX4_readRecords 6 = .ok (.iload 5, 2) := by decide +kernel
theorem dX4_readRecords_8 : decode cX4_readRecords 8 = .ok (.bipush 60, 2) := by decide +kernel
theorem dX4_readRecords_10 : decode cX4_readRecords 10 = .ok (.if_icmp .ge 122, 3) := by decide +kernel
theorem dX4_readRecords_13 : decode cX4_readRecords 13 = .ok (.iload 4, 2) := by decide +kernel
theorem dX4_readRecords_15 : decode cX4_readRecords 15 = .ok (.iload_n 3, 1) := by decide +kernel
theorem dX4_readRecords_16 : decode cX4_readRecords 16 = .ok (.if_icmp .ge 116, 3) := by decide +kernel
theorem dX4_readRecords_19 : decode cX4_readRecords 19 = .ok (.aload_n 0, 1) := by decide +kernel
theorem dX4_readRecords_20 : decode cX4_readRecords 20 = .ok (.getfield 21, 3) := by decide +kernel
theorem dX4_readRecords_23 : decode cX4_readRecords 23 = .ok (.iload 4, 2) := by decide +kernel
theorem dX4_readRecords_25 : decode cX4_readRecords 25 = .ok (.iaload, 1) := by decide +kernel
theorem dX4_readRecords_26 : decode cX4_readRecords 26 = .ok (.istore 6, 2) := by decide +kernel
theorem dX4_readRecords_28 : decode cX4_readRecords 28 = .ok (.iload 4, 2) := by decide +kernel
theorem dX4_readRecords_30 : decode cX4_readRecords 30 = .ok (.iconst 2, 1) := by decide +kernel
theorem dX4_readRecords_31 : decode cX4_readRecords 31 = .ok (.iadd, 1) := by decide +kernel
theorem dX4_readRecords_32 : decode cX4_readRecords 32 = .ok (.istore 7, 2) := by decide +kernel
theorem dX4_readRecords_34 : decode cX4_readRecords 34 = .ok (.iload 4, 2) := by decide +kernel
theorem dX4_readRecords_36 : decode cX4_readRecords 36 = .ok (.iconst 1, 1) := by decide +kernel
theorem dX4_readRecords_37 : decode cX4_readRecords 37 = .ok (.iadd, 1) := by decide +kernel
theorem dX4_readRecords_38 : decode cX4_readRecords 38 = .ok (.iload_n 3, 1) := by decide +kernel
theorem dX4_readRecords_39 : decode cX4_readRecords 39 = .ok (.if_icmp .ge 15, 3) := by decide +kernel
theorem dX4_readRecords_42 : decode cX4_readRecords 42 = .ok (.aload_n 0, 1) := by decide +kernel
theorem dX4_readRecords_43 : decode cX4_readRecords 43 = .ok (.getfield 21, 3) := by decide +kernel
theorem dX4_readRecords_46 : decode cX4_readRecords 46 = .ok (.iload 4, 2) := by decide +kernel
theorem dX4_readRecords_48 : decode cX4_readRecords 48 = .ok (.iconst 1, 1) := by decide +kernel
theorem dX4_readRecords_49 : decode cX4_readRecords 49 = .ok (.iadd, 1) := by decide +kernel
theorem dX4_readRecords_50 : decode cX4_readRecords 50 = .ok (.iaload, 1) := by decide +kernel
theorem dX4_readRecords_51 : decode cX4_readRecords 51 = .ok (.goto 4, 3) := by decide +kernel
theorem dX4_readRecords_54 : decode cX4_readRecords 54 = .ok (.iconst 0, 1) := by decide +kernel
theorem dX4_readRecords_55 : decode cX4_readRecords 55 = .ok (.istore 8, 2) := by decide +kernel
theorem dX4_readRecords_57 : decode cX4_readRecords 57 = .ok (.iload 8, 2) := by decide +kernel
theorem dX4_readRecords_59 : decode cX4_readRecords 59 = .ok (.iload_n 3, 1) := by decide +kernel
theorem dX4_readRecords_60 : decode cX4_readRecords 60 = .ok (.iload 7, 2) := by decide +kernel
theorem dX4_readRecords_62 : decode cX4_readRecords 62 = .ok (.isub, 1) := by decide +kernel
theorem dX4_readRecords_63 : decode cX4_readRecords 63 = .ok (.if_icmp .gt 7, 3) := by decide +kernel
theorem dX4_readRecords_66 : decode cX4_readRecords 66 = .ok (.iconst 1, 1) := by decide +kernel
theorem dX4_readRecords_67 : decode cX4_readRecords 67 = .ok (.goto 4, 3) := by decide +kernel
theorem dX4_readRecords_70 : decode cX4_readRecords 70 = .ok (.iconst 0, 1) := by decide +kernel
theorem dX4_readRecords_71 : decode cX4_readRecords 71 = .ok (.istore 9, 2) := by decide +kernel
theorem dX4_readRecords_73 : decode cX4_readRecords 73 = .ok (.iload 9, 2) := by decide +kernel
theorem dX4_readRecords_75 : decode cX4_readRecords 75 = .ok (.ifCond .eq 25, 3) := by decide +kernel
theorem dX4_readRecords_78 : decode cX4_readRecords 78 = .ok (.iload_n 1, 1) := by decide +kernel
theorem dX4_readRecords_79 : decode cX4_readRecords 79 = .ok (.iload 6, 2) := by decide +kernel
theorem dX4_readRecords_81 : decode cX4_readRecords 81 = .ok (.invokestatic 61, 3) := by decide +kernel
theorem dX4_readRecords_84 : decode cX4_readRecords 84 = .ok (.ifCond .eq 16, 3) := by decide +kernel
theorem dX4_readRecords_87 : decode cX4_readRecords 87 = .ok (.aload_n 0, 1) := by decide +kernel
theorem dX4_readRecords_88 : decode cX4_readRecords 88 = .ok (.iload 6, 2) := by decide +kernel
theorem dX4_readRecords_90 : decode cX4_readRecords 90 = .ok (.iload 8, 2) := by decide +kernel
theorem dX4_readRecords_92 : decode cX4_readRecords 92 = .ok (.iload 7, 2) := by decide +kernel
theorem dX4_readRecords_94 : decode cX4_readRecords 94 = .ok (.invokevirtual 65, 3) := by decide +kernel
theorem dX4_readRecords_97 : decode cX4_readRecords 97 = .ok (.goto 13, 3) := by decide +kernel
theorem dX4_readRecords_100 : decode cX4_readRecords 100 = .ok (.aload_n 0, 1) := by decide +kernel
theorem dX4_readRecords_101 : decode cX4_readRecords 101 = .ok (.dup, 1) := by decide +kernel
theorem dX4_readRecords_102 : decode cX4_readRecords 102 = .ok (.getfield 31, 3) := by decide +kernel
theorem dX4_readRecords_105 : decode cX4_readRecords 105 = .ok (.iconst 1, 1) := by decide +kernel
theorem dX4_readRecords_106 : decode cX4_readRecords 106 = .ok (.iadd, 1) := by decide +kernel
theorem dX4_readRecords_107 : decode cX4_readRecords 107 = .ok (.putfield 31, 3) := by decide +kernel
theorem dX4_readRecords_110 : decode cX4_readRecords 110 = .ok (.iload 9, 2) := by decide +kernel
theorem dX4_readRecords_112 : decode cX4_readRecords 112 = .ok (.ifCond .eq 11, 3) := by decide +kernel
theorem dX4_readRecords_115 : decode cX4_readRecords 115 = .ok (.iload 7, 2) := by decide +kernel
theorem dX4_readRecords_117 : decode cX4_readRecords 117 = .ok (.iload 8, 2) := by decide +kernel
theorem dX4_readRecords_119 : decode cX4_readRecords 119 = .ok (.iadd, 1) := by decide +kernel
theorem dX4_readRecords_120 : decode cX4_readRecords 120 = .ok (.goto 4, 3) := by decide +kernel
theorem dX4_readRecords_123 : decode cX4_readRecords 123 = .ok (.iload_n 3, 1) := by decide +kernel
theorem dX4_readRecords_124 : decode cX4_readRecords 124 = .ok (.istore 4, 2) := by decide +kernel
theorem dX4_readRecords_126 : decode cX4_readRecords 126 = .ok (.iinc 5 1, 3) := by decide +kernel
theorem dX4_readRecords_129 : decode cX4_readRecords 129 = .ok (.goto (-123), 3) := by decide +kernel
theorem dX4_readRecords_132 : decode cX4_readRecords 132 = .ok (.return_, 1) := by decide +kernel
theorem dX4_addRecord_0 : decode cX4_addRecord 0 = .ok (.aload_n 0, 1) := by decide +kernel
theorem dX4_addRecord_1 : decode cX4_addRecord 1 = .ok (.getfield 24, 3) := by decide +kernel
theorem dX4_addRecord_4 : decode cX4_addRecord 4 = .ok (.bipush 29, 2) := by decide +kernel
theorem dX4_addRecord_6 : decode cX4_addRecord 6 = .ok (.if_icmp .lt 4, 3) := by decide +kernel
theorem dX4_addRecord_9 : decode cX4_addRecord 9 = .ok (.return_, 1) := by decide +kernel
theorem dX4_addRecord_10 : decode cX4_addRecord 10 = .ok (.aload_n 0, 1) := by decide +kernel
theorem dX4_addRecord_11 : decode cX4_addRecord 11 = .ok (.getfield 9, 3) := by decide +kernel
theorem dX4_addRecord_14 : decode cX4_addRecord 14 = .ok (.aload_n 0, 1) := by decide +kernel
theorem dX4_addRecord_15 : decode cX4_addRecord 15 = .ok (.getfield 24, 3) := by decide +kernel
theorem dX4_addRecord_18 : decode cX4_addRecord 18 = .ok (.iload_n 1, 1) := by decide +kernel
theorem dX4_addRecord_19 : decode cX4_addRecord 19 = .ok (.iastore, 1) := by decide +kernel
theorem dX4_addRecord_20 : decode cX4_addRecord 20 = .ok (.aload_n 0, 1) := by decide +kernel
theorem dX4_addRecord_21 : decode cX4_addRecord 21 = .ok (.getfield 15, 3) := by decide +kernel
theorem dX4_addRecord_24 : decode cX4_addRecord 24 = .ok (.aload_n 0, 1) := by decide +kernel
theorem dX4_addRecord_25 : decode cX4_addRecord 25 = .ok (.getfield 24, 3) := by decide +kernel
theorem dX4_addRecord_28 : decode cX4_addRecord 28 = .ok (.iload_n 2, 1) := by decide +kernel
theorem dX4_addRecord_29 : decode cX4_addRecord 29 = .ok (.iastore, 1) := by decide +kernel
theorem dX4_addRecord_30 : decode cX4_addRecord 30 = .ok (.aload_n 0, 1) := by decide +kernel
theorem dX4_addRecord_31 : decode cX4_addRecord 31 = .ok (.getfield 18, 3) := by decide +kernel
theorem dX4_addRecord_34 : decode cX4_addRecord 34 = .ok (.aload_n 0, 1) := by decide +kernel
theorem dX4_addRecord_35 : decode cX4_addRecord 35 = .ok (.getfield 24, 3) := by decide +kernel
theorem dX4_addRecord_38 : decode cX4_addRecord 38 = .ok (.iload_n 3, 1) := by decide +kernel
theorem dX4_addRecord_39 : decode cX4_addRecord 39 = .ok (.iastore, 1) := by decide +kernel
theorem dX4_addRecord_40 : decode cX4_addRecord 40 = .ok (.aload_n 0, 1) := by decide +kernel
theorem dX4_addRecord_41 : decode cX4_addRecord 41 = .ok (.dup, 1) := by decide +kernel
theorem dX4_addRecord_42 : decode cX4_addRecord 42 = .ok (.getfield 24, 3) := by decide +kernel
theorem dX4_addRecord_45 : decode cX4_addRecord 45 = .ok (.iconst 1, 1) := by decide +kernel
theorem dX4_addRecord_46 : decode cX4_addRecord 46 = .ok (.iadd, 1) := by decide +kernel
theorem dX4_addRecord_47 : decode cX4_addRecord 47 = .ok (.putfield 24, 3) := by decide +kernel
theorem dX4_addRecord_50 : decode cX4_addRecord 50 = .ok (.aload_n 0, 1) := by decide +kernel
theorem dX4_addRecord_51 : decode cX4_addRecord 51 = .ok (.dup, 1) := by decide +kernel
theorem dX4_addRecord_52 : decode cX4_addRecord 52 = .ok (.getfield 28, 3) := by decide +kernel
theorem dX4_addRecord_55 : decode cX4_addRecord 55 = .ok (.iconst 1, 1) := by decide +kernel
theorem dX4_addRecord_56 : decode cX4_addRecord 56 = .ok (.iload_n 1, 1) := by decide +kernel
theorem dX4_addRecord_57 : decode cX4_addRecord 57 = .ok (.ishl, 1) := by decide +kernel
theorem dX4_addRecord_58 : decode cX4_addRecord 58 = .ok (.ior, 1) := by decide +kernel
theorem dX4_addRecord_59 : decode cX4_addRecord 59 = .ok (.putfield 28, 3) := by decide +kernel
theorem dX4_addRecord_62 : decode cX4_addRecord 62 = .ok (.return_, 1) := by decide +kernel
theorem dX4_agrees_0 : decode cX4_agrees 0 = .ok (.aload_n 1, 1) := by decide +kernel
theorem dX4_agrees_1 : decode cX4_agrees 1 = .ok (.iload_n 2, 1) := by decide +kernel
theorem dX4_agrees_2 : decode cX4_agrees 2 = .ok (.iconst 0, 1) := by decide +kernel
theorem dX4_agrees_3 : decode cX4_agrees 3 = .ok (.invokevirtual 68, 3) := by decide +kernel
theorem dX4_agrees_6 : decode cX4_agrees 6 = .ok (.istore_n 3, 1) := by decide +kernel
theorem dX4_agrees_7 : decode cX4_agrees 7 = .ok (.aload_n 0, 1) := by decide +kernel
theorem dX4_agrees_8 : decode cX4_agrees 8 = .ok (.iload_n 2, 1) := by decide +kernel
theorem dX4_agrees_9 : decode cX4_agrees 9 = .ok (.iconst 0, 1) := by decide +kernel
theorem dX4_agrees_10 : decode cX4_agrees 10 = .ok (.invokevirtual 68, 3) := by decide +kernel
theorem dX4_agrees_13 : decode cX4_agrees 13 = .ok (.istore 4, 2) := by decide +kernel
theorem dX4_agrees_15 : decode cX4_agrees 15 = .ok (.iload 4, 2) := by decide +kernel
theorem dX4_agrees_17 : decode cX4_agrees 17 = .ok (.aload_n 0, 1) := by decide +kernel
theorem dX4_agrees_18 : decode cX4_agrees 18 = .ok (.getfield 24, 3) := by decide +kernel
theorem dX4_agrees_21 : decode cX4_agrees 21 = .ok (.if_icmp .ge 47, 3) := by decide +kernel
theorem dX4_agrees_24 : decode cX4_agrees 24 = .ok (.iload_n 3, 1) := by decide +kernel
theorem dX4_agrees_25 : decode cX4_agrees 25 = .ok (.aload_n 1, 1) := by decide +kernel
theorem dX4_agrees_26 : decode cX4_agrees 26 = .ok (.getfield 24, 3) := by decide +kernel
theorem dX4_agrees_29 : decode cX4_agrees 29 = .ok (.if_icmp .ge 14, 3) := by decide +kernel
theorem dX4_agrees_32 : decode cX4_agrees 32 = .ok (.aload_n 0, 1) := by decide +kernel
theorem dX4_agrees_33 : decode cX4_agrees 33 = .ok (.iload 4, 2) := by decide +kernel
theorem dX4_agrees_35 : decode cX4_agrees 35 = .ok (.aload_n 1, 1) := by decide +kernel
theorem dX4_agrees_36 : decode cX4_agrees 36 = .ok (.iload_n 3, 1) := by decide +kernel
theorem dX4_agrees_37 : decode cX4_agrees 37 = .ok (.invokevirtual 72, 3) := by decide +kernel
theorem dX4_agrees_40 : decode cX4_agrees 40 = .ok (.ifCond .ne 5, 3) := by decide +kernel
theorem dX4_agrees_43 : decode cX4_agrees 43 = .ok (.iconst 0, 1) := by decide +kernel
theorem dX4_agrees_44 : decode cX4_agrees 44 = .ok (.ireturn, 1) := by decide +kernel
theorem dX4_agrees_45 : decode cX4_agrees 45 = .ok (.aload_n 1, 1) := by decide +kernel
theorem dX4_agrees_46 : decode cX4_agrees 46 = .ok (.iload_n 2, 1) := by decide +kernel
theorem dX4_agrees_47 : decode cX4_agrees 47 = .ok (.iload_n 3, 1) := by decide +kernel
theorem dX4_agrees_48 : decode cX4_agrees 48 = .ok (.iconst 1, 1) := by decide +kernel
theorem dX4_agrees_49 : decode cX4_agrees 49 = .ok (.iadd, 1) := by decide +kernel
theorem dX4_agrees_50 : decode cX4_agrees 50 = .ok (.invokevirtual 68, 3) := by decide +kernel
theorem dX4_agrees_53 : decode cX4_agrees 53 = .ok (.istore_n 3, 1) := by decide +kernel
theorem dX4_agrees_54 : decode cX4_agrees 54 = .ok (.aload_n 0, 1) := by decide +kernel
theorem dX4_agrees_55 : decode cX4_agrees 55 = .ok (.iload_n 2, 1) := by decide +kernel
theorem dX4_agrees_56 : decode cX4_agrees 56 = .ok (.iload 4, 2) := by decide +kernel
theorem dX4_agrees_58 : decode cX4_agrees 58 = .ok (.iconst 1, 1) := by decide +kernel
theorem dX4_agrees_59 : decode cX4_agrees 59 = .ok (.iadd, 1) := by decide +kernel
theorem dX4_agrees_60 : decode cX4_agrees 60 = .ok (.invokevirtual 68, 3) := by decide +kernel
theorem dX4_agrees_63 : decode cX4_agrees 63 = .ok (.istore 4, 2) := by decide +kernel
theorem dX4_agrees_65 : decode cX4_agrees 65 = .ok (.goto (-50), 3) := by decide +kernel
theorem dX4_agrees_68 : decode cX4_agrees 68 = .ok (.iload_n 3, 1) := by decide +kernel
theorem dX4_agrees_69 : decode cX4_agrees 69 = .ok (.aload_n 1, 1) := by decide +kernel
theorem dX4_agrees_70 : decode cX4_agrees 70 = .ok (.getfield 24, 3) := by decide +kernel
theorem dX4_agrees_73 : decode cX4_agrees 73 = .ok (.if_icmp .lt 7, 3) := by decide +kernel
theorem dX4_agrees_76 : decode cX4_agrees 76 = .ok (.iconst 1, 1) := by decide +kernel
theorem dX4_agrees_77 : decode cX4_agrees 77 = .ok (.goto 4, 3) := by decide +kernel
theorem dX4_agrees_80 : decode cX4_agrees 80 = .ok (.iconst 0, 1) := by decide +kernel
theorem dX4_agrees_81 : decode cX4_agrees 81 = .ok (.ireturn, 1) := by decide +kernel
theorem dX4_nextWith_0 : decode cX4_nextWith 0 = .ok (.iload_n 2, 1) := by decide +kernel
theorem dX4_nextWith_1 : decode cX4_nextWith 1 = .ok (.istore_n 3, 1) := by decide +kernel
theorem dX4_nextWith_2 : decode cX4_nextWith 2 = .ok (.iload_n 3, 1) := by decide +kernel
theorem dX4_nextWith_3 : decode cX4_nextWith 3 = .ok (.aload_n 0, 1) := by decide +kernel
theorem dX4_nextWith_4 : decode cX4_nextWith 4 = .ok (.getfield 24, 3) := by decide +kernel
theorem dX4_nextWith_7 : decode cX4_nextWith 7 = .ok (.if_icmp .ge 21, 3) := by decide +kernel
theorem dX4_nextWith_10 : decode cX4_nextWith 10 = .ok (.aload_n 0, 1) := by decide +kernel
theorem dX4_nextWith_11 : decode cX4_nextWith 11 = .ok (.getfield 9, 3) := by decide +kernel
theorem dX4_nextWith_14 : decode cX4_nextWith 14 = .ok (.iload_n 3, 1) := by decide +kernel
theorem dX4_nextWith_15 : decode cX4_nextWith 15 = .ok (.iaload, 1) := by decide +kernel
theorem dX4_nextWith_16 : decode cX4_nextWith 16 = .ok (.iload_n 1, 1) := by decide +kernel
theorem dX4_nextWith_17 : decode cX4_nextWith 17 = .ok (.if_icmp .ne 5, 3) := by decide +kernel
theorem dX4_nextWith_20 : decode cX4_nextWith 20 = .ok (.iload_n 3, 1) := by decide +kernel
theorem dX4_nextWith_21 : decode cX4_nextWith 21 = .ok (.ireturn, 1) := by decide +kernel
theorem dX4_nextWith_22 : decode cX4_nextWith 22 = .ok (.iinc 3 1, 3) := by decide +kernel
theorem dX4_nextWith_25 : decode cX4_nextWith 25 = .ok (.goto (-23), 3) := by decide +kernel
theorem dX4_nextWith_28 : decode cX4_nextWith 28 = .ok (.aload_n 0, 1) := by decide +kernel
theorem dX4_nextWith_29 : decode cX4_nextWith 29 = .ok (.getfield 24, 3) := by decide +kernel
theorem dX4_nextWith_32 : decode cX4_nextWith 32 = .ok (.ireturn, 1) := by decide +kernel
theorem dX4_sameRecord_0 : decode cX4_sameRecord 0 = .ok (.aload_n 0, 1) := by decide +kernel
theorem dX4_sameRecord_1 : decode cX4_sameRecord 1 = .ok (.getfield 15, 3) := by decide +kernel
theorem dX4_sameRecord_4 : decode cX4_sameRecord 4 = .ok (.iload_n 1, 1) := by decide +kernel
theorem dX4_sameRecord_5 : decode cX4_sameRecord 5 = .ok (.iaload, 1) := by decide +kernel
theorem dX4_sameRecord_6 : decode cX4_sameRecord 6 = .ok (.aload_n 2, 1) := by decide +kernel
theorem dX4_sameRecord_7 : decode cX4_sameRecord 7 = .ok (.getfield 15, 3) := by decide +kernel
theorem dX4_sameRecord_10 : decode cX4_sameRecord 10 = .ok (.iload_n 3, 1) := by decide +kernel
theorem dX4_sameRecord_11 : decode cX4_sameRecord 11 = .ok (.iaload, 1) := by decide +kernel
theorem dX4_sameRecord_12 : decode cX4_sameRecord 12 = .ok (.if_icmp .eq 5, 3) := by decide +kernel
theorem dX4_sameRecord_15 : decode cX4_sameRecord 15 = .ok (.iconst 0, 1) := by decide +kernel
theorem dX4_sameRecord_16 : decode cX4_sameRecord 16 = .ok (.ireturn, 1) := by decide +kernel
theorem dX4_sameRecord_17 : decode cX4_sameRecord 17 = .ok (.iconst 0, 1) := by decide +kernel
theorem dX4_sameRecord_18 : decode cX4_sameRecord 18 = .ok (.istore 4, 2) := by decide +kernel
theorem dX4_sameRecord_20 : decode cX4_sameRecord 20 = .ok (.iload 4, 2) := by decide +kernel
theorem dX4_sameRecord_22 : decode cX4_sameRecord 22 = .ok (.aload_n 0, 1) := by decide +kernel
theorem dX4_sameRecord_23 : decode cX4_sameRecord 23 = .ok (.getfield 15, 3) := by decide +kernel
theorem dX4_sameRecord_26 : decode cX4_sameRecord 26 = .ok (.iload_n 1, 1) := by decide +kernel
theorem dX4_sameRecord_27 : decode cX4_sameRecord 27 = .ok (.iaload, 1) := by decide +kernel
theorem dX4_sameRecord_28 : decode cX4_sameRecord 28 = .ok (.if_icmp .ge 42, 3) := by decide +kernel
theorem dX4_sameRecord_31 : decode cX4_sameRecord 31 = .ok (.aload_n 0, 1) := by decide +kernel
theorem dX4_sameRecord_32 : decode cX4_sameRecord 32 = .ok (.getfield 21, 3) := by decide +kernel
theorem dX4_sameRecord_35 : decode cX4_sameRecord 35 = .ok (.aload_n 0, 1) := by decide +kernel
theorem dX4_sameRecord_36 : decode cX4_sameRecord 36 = .ok (.getfield 18, 3) := by decide +kernel
theorem dX4_sameRecord_39 : decode cX4_sameRecord 39 = .ok (.iload_n 1, 1) := by decide +kernel
theorem dX4_sameRecord_40 : decode cX4_sameRecord 40 = .ok (.iaload, 1) := by decide +kernel
theorem dX4_sameRecord_41 : decode cX4_sameRecord 41 = .ok (.iload 4, 2) := by decide +kernel
theorem dX4_sameRecord_43 : decode cX4_sameRecord 43 = .ok (.iadd, 1) := by decide +kernel
theorem dX4_sameRecord_44 : decode cX4_sameRecord 44 = .ok (.iaload, 1) := by decide +kernel
theorem dX4_sameRecord_45 : decode cX4_sameRecord 45 = .ok (.aload_n 2, 1) := by decide +kernel
theorem dX4_sameRecord_46 : decode cX4_sameRecord 46 = .ok (.getfield 21, 3) := by decide +kernel
theorem dX4_sameRecord_49 : decode cX4_sameRecord 49 = .ok (.aload_n 2, 1) := by decide +kernel
theorem dX4_sameRecord_50 : decode cX4_sameRecord 50 = .ok (.getfield 18, 3) := by decide +kernel
theorem dX4_sameRecord_53 : decode cX4_sameRecord 53 = .ok (.iload_n 3, 1) := by decide +kernel
theorem dX4_sameRecord_54 : decode cX4_sameRecord 54 = .ok (.iaload, 1) := by decide +kernel
theorem dX4_sameRecord_55 : decode cX4_sameRecord 55 = .ok (.iload 4, 2) := by decide +kernel
theorem dX4_sameRecord_57 : decode cX4_sameRecord 57 = .ok (.iadd, 1) := by decide +kernel
theorem dX4_sameRecord_58 : decode cX4_sameRecord 58 = .ok (.iaload, 1) := by decide +kernel
theorem dX4_sameRecord_59 : decode cX4_sameRecord 59 = .ok (.if_icmp .eq 5, 3) := by decide +kernel
theorem dX4_sameRecord_62 : decode cX4_sameRecord 62 = .ok (.iconst 0, 1) := by decide +kernel
theorem dX4_sameRecord_63 : decode cX4_sameRecord 63 = .ok (.ireturn, 1) := by decide +kernel
theorem dX4_sameRecord_64 : decode cX4_sameRecord 64 = .ok (.iinc 4 1, 3) := by decide +kernel
theorem dX4_sameRecord_67 : decode cX4_sameRecord 67 = .ok (.goto (-47), 3) := by decide +kernel
theorem dX4_sameRecord_70 : decode cX4_sameRecord 70 = .ok (.iconst 1, 1) := by decide +kernel
theorem dX4_sameRecord_71 : decode cX4_sameRecord 71 = .ok (.ireturn, 1) := by decide +kernel
theorem dX5_init_0 : decode cX5_init 0 = .ok (.aload_n 0, 1) := by decide +kernel
theorem dX5_init_1 : decode cX5_init 1 = .ok (.invokespecial 3, 3) := by decide +kernel
theorem dX5_init_4 : decode cX5_init 4 = .ok (.aload_n 0, 1) := by decide +kernel
theorem dX5_init_5 : decode cX5_init 5 = .ok (.bipush 12, 2) := by decide +kernel
theorem dX5_init_7 : decode cX5_init 7 = .ok (.newarray .long, 2) := by decide +kernel
theorem dX5_init_9 : decode cX5_init 9 = .ok (.putfield 9, 3) := by decide +kernel
theorem dX5_init_12 : decode cX5_init 12 = .ok (.aload_n 0, 1) := by decide +kernel
theorem dX5_init_13 : decode cX5_init 13 = .ok (.bipush 12, 2) := by decide +kernel
theorem dX5_init_15 : decode cX5_init 15 = .ok (.newarray .long, 2) := by decide +kernel
theorem dX5_init_17 : decode cX5_init 17 = .ok (.putfield 15, 3) := by decide +kernel
theorem dX5_init_20 : decode cX5_init 20 = .ok (.aload_n 0, 1) := by decide +kernel
theorem dX5_init_21 : decode cX5_init 21 = .ok (.bipush 12, 2) := by decide +kernel
theorem dX5_init_23 : decode cX5_init 23 = .ok (.newarray .long, 2) := by decide +kernel
theorem dX5_init_25 : decode cX5_init 25 = .ok (.putfield 18, 3) := by decide +kernel
theorem dX5_init_28 : decode cX5_init 28 = .ok (.return_, 1) := by decide +kernel
theorem dX5_priceOf_0 : decode cX5_priceOf 0 = .ok (.lload_n 0, 1) := by decide +kernel
theorem dX5_priceOf_1 : decode cX5_priceOf 1 = .ok (.bipush 23, 2) := by decide +kernel
theorem dX5_priceOf_3 : decode cX5_priceOf 3 = .ok (.lshr, 1) := by decide +kernel
theorem dX5_priceOf_4 : decode cX5_priceOf 4 = .ok (.l2i, 1) := by decide +kernel
theorem dX5_priceOf_5 : decode cX5_priceOf 5 = .ok (.ireturn, 1) := by decide +kernel
theorem dX5_lengthOf_0 : decode cX5_lengthOf 0 = .ok (.lload_n 0, 1) := by decide +kernel
theorem dX5_lengthOf_1 : decode cX5_lengthOf 1 = .ok (.bipush 20, 2) := by decide +kernel
theorem dX5_lengthOf_3 : decode cX5_lengthOf 3 = .ok (.lshr, 1) := by decide +kernel
theorem dX5_lengthOf_4 : decode cX5_lengthOf 4 = .ok (.l2i, 1) := by decide +kernel
theorem dX5_lengthOf_5 : decode cX5_lengthOf 5 = .ok (.bipush 7, 2) := by decide +kernel
theorem dX5_lengthOf_7 : decode cX5_lengthOf 7 = .ok (.iand, 1) := by decide +kernel
theorem dX5_lengthOf_8 : decode cX5_lengthOf 8 = .ok (.ireturn, 1) := by decide +kernel
theorem dX5_stepOf_0 : decode cX5_stepOf 0 = .ok (.lload_n 0, 1) := by decide +kernel
theorem dX5_stepOf_1 : decode cX5_stepOf 1 = .ok (.invokestatic 21, 3) := by decide +kernel
theorem dX5_stepOf_4 : decode cX5_stepOf 4 = .ok (.istore_n 3, 1) := by decide +kernel
theorem dX5_stepOf_5 : decode cX5_stepOf 5 = .ok (.iload_n 2, 1) := by decide +kernel
theorem dX5_stepOf_6 : decode cX5_stepOf 6 = .ok (.ifCond .lt 8, 3) := by decide +kernel
theorem dX5_stepOf_9 : decode cX5_stepOf 9 = .ok (.iload_n 2, 1) := by decide +kernel
theorem dX5_stepOf_10 : decode cX5_stepOf 10 = .ok (.iload_n 3, 1) := by decide +kernel
theorem dX5_stepOf_11 : decode cX5_stepOf 11 = .ok (.if_icmp .lt 5, 3) := by decide +kernel
theorem dX5_stepOf_14 : decode cX5_stepOf 14 = .ok (.iconst (-1), 1) := by decide +kernel
theorem dX5_stepOf_15 : decode cX5_stepOf 15 = .ok (.ireturn, 1) := by decide +kernel
theorem dX5_stepOf_16 : decode cX5_stepOf 16 = .ok (.lload_n 0, 1) := by decide +kernel
theorem dX5_stepOf_17 : decode cX5_stepOf 17 = .ok (.l2i, 1) := by decide +kernel
theorem dX5_stepOf_18 : decode cX5_stepOf 18 = .ok (.ldc 25, 2) := by decide +kernel
theorem dX5_stepOf_20 : decode cX5_stepOf 20 = .ok (.iand, 1) := by decide +kernel
theorem dX5_stepOf_21 : decode cX5_stepOf 21 = .ok (.istore 4, 2) := by decide +kernel
theorem dX5_stepOf_23 : decode cX5_stepOf 23 = .ok (.iload 4, 2) := by decide +kernel
theorem dX5_stepOf_25 : decode cX5_stepOf 25 = .ok (.iconst 5, 1) := by decide +kernel
theorem dX5_stepOf_26 : decode cX5_stepOf 26 = .ok (.iload_n 3, 1) := by decide +kernel
theorem dX5_stepOf_27 : decode cX5_stepOf 27 = .ok (.iconst 1, 1) := by decide +kernel
theorem dX5_stepOf_28 : decode cX5_stepOf 28 = .ok (.isub, 1) := by decide +kernel
theorem dX5_stepOf_29 : decode cX5_stepOf 29 = .ok (.iload_n 2, 1) := by decide +kernel
theorem dX5_stepOf_30 : decode cX5_stepOf 30 = .ok (.isub, 1) := by decide +kernel
theorem dX5_stepOf_31 : decode cX5_stepOf 31 = .ok (.imul, 1) := by decide +kernel
theorem dX5_stepOf_32 : decode cX5_stepOf 32 = .ok (.ishr, 1) := by decide +kernel
theorem dX5_stepOf_33 : decode cX5_stepOf 33 = .ok (.bipush 31, 2) := by decide +kernel
theorem dX5_stepOf_35 : decode cX5_stepOf 35 = .ok (.iand, 1) := by decide +kernel
theorem dX5_stepOf_36 : decode cX5_stepOf 36 = .ok (.ireturn, 1) := by decide +kernel
theorem dX5_extended_0 : decode cX5_extended 0 = .ok (.lload_n 0, 1) := by decide +kernel
theorem dX5_extended_1 : decode cX5_extended 1 = .ok (.ldc2_w 26, 3) := by decide +kernel
theorem dX5_extended_4 : decode cX5_extended 4 = .ok (.land, 1) := by decide +kernel
theorem dX5_extended_5 : decode cX5_extended 5 = .ok (.iconst 5, 1) := by decide +kernel
theorem dX5_extended_6 : decode cX5_extended 6 = .ok (.lshl, 1) := by decide +kernel
theorem dX5_extended_7 : decode cX5_extended 7 = .ok (.iload_n 2, 1) := by decide +kernel
theorem dX5_extended_8 : decode cX5_extended 8 = .ok (.i2l, 1) := by decide +kernel
theorem dX5_extended_9 : decode cX5_extended 9 = .ok (.lor, 1) := by decide +kernel
theorem dX5_extended_10 : decode cX5_extended 10 = .ok (.lstore 4, 2) := by decide +kernel
theorem dX5_extended_12 : decode cX5_extended 12 = .ok (.lload_n 0, 1) := by decide +kernel
theorem dX5_extended_13 : decode cX5_extended 13 = .ok (.invokestatic 21, 3) := by decide +kernel
theorem dX5_extended_16 : decode cX5_extended 16 = .ok (.iconst 1, 1) := by decide +kernel
theorem dX5_extended_17 : decode cX5_extended 17 = .ok (.iadd, 1) := by decide +kernel
theorem dX5_extended_18 : decode cX5_extended 18 = .ok (.i2l, 1) := by decide +kernel
theorem dX5_extended_19 : decode cX5_extended 19 = .ok (.lstore 6, 2) := by decide +kernel
theorem dX5_extended_21 : decode cX5_extended 21 = .ok (.lload_n 0, 1) := by decide +kernel
theorem dX5_extended_22 : decode cX5_extended 22 = .ok (.invokestatic 28, 3) := by decide +kernel
theorem dX5_extended_25 : decode cX5_extended 25 = .ok (.iload_n 3, 1) := by decide +kernel
theorem dX5_extended_26 : decode cX5_extended 26 = .ok (.iadd, 1) := by decide +kernel
theorem dX5_extended_27 : decode cX5_extended 27 = .ok (.i2l, 1) := by decide +kernel
theorem dX5_extended_28 : decode cX5_extended 28 = .ok (.lstore 8, 2) := by decide +kernel
theorem dX5_extended_30 : decode cX5_extended 30 = .ok (.lload 8, 2) := by decide +kernel
theorem dX5_extended_32 : decode cX5_extended 32 = .ok (.iconst 3, 1) := by decide +kernel
theorem dX5_extended_33 : decode cX5_extended 33 = .ok (.lshl, 1) := by decide +kernel
theorem dX5_extended_34 : decode cX5_extended 34 = .ok (.lload 6, 2) := by decide +kernel
theorem dX5_extended_36 : decode cX5_extended 36 = .ok (.lor, 1) := by decide +kernel
theorem dX5_extended_37 : decode cX5_extended 37 = .ok (.bipush 20, 2) := by decide +kernel
theorem dX5_extended_39 : decode cX5_extended 39 = .ok (.lshl, 1) := by decide +kernel
theorem dX5_extended_40 : decode cX5_extended 40 = .ok (.lload 4, 2) := by decide +kernel
theorem dX5_extended_42 : decode cX5_extended 42 = .ok (.lor, 1) := by decide +kernel
theorem dX5_extended_43 : decode cX5_extended 43 = .ok (.lreturn, 1) := by decide +kernel
theorem dX5_bestTo_0 : decode cX5_bestTo 0 = .ok (.iload_n 1, 1) := by decide +kernel
theorem dX5_bestTo_1 : decode cX5_bestTo 1 = .ok (.ifCond .lt 18, 3) := by decide +kernel
theorem dX5_bestTo_4 : decode cX5_bestTo 4 = .ok (.iload_n 1, 1) := by decide +kernel
theorem dX5_bestTo_5 : decode cX5_bestTo 5 = .ok (.bipush 12, 2) := by decide +kernel
theorem dX5_bestTo_7 : decode cX5_bestTo 7 = .ok (.if_icmp .ge 12, 3) := by decide +kernel
theorem dX5_bestTo_10 : decode cX5_bestTo 10 = .ok (.aload_n 0, 1) := by decide +kernel
theorem dX5_bestTo_11 : decode cX5_bestTo 11 = .ok (.getfield 9, 3) := by decide +kernel
theorem dX5_bestTo_14 : decode cX5_bestTo 14 = .ok (.iload_n 1, 1) := by decide +kernel
theorem dX5_bestTo_15 : decode cX5_bestTo 15 = .ok (.laload, 1) := by decide +kernel
theorem dX5_bestTo_16 : decode cX5_bestTo 16 = .ok (.goto 6, 3) := by decide +kernel
theorem dX5_bestTo_19 : decode cX5_bestTo 19 = .ok (.ldc2_w 31, 3) := by decide +kernel
theorem dX5_bestTo_22 : decode cX5_bestTo 22 = .ok (.lreturn, 1) := by decide +kernel
theorem dX5_search_0 : decode cX5_search 0 = .ok (.aload_n 0, 1) := by decide +kernel
theorem dX5_search_1 : decode cX5_search 1 = .ok (.getfield 9, 3) := by decide +kernel
theorem dX5_search_4 : decode cX5_search 4 = .ok (.ldc2_w 31, 3) := by decide +kernel
theorem dX5_search_7 : decode cX5_search 7 = .ok (.invokestatic 33, 3) := by decide +kernel
theorem dX5_search_10 : decode cX5_search 10 = .ok (.aload_n 0, 1) := by decide +kernel
theorem dX5_search_11 : decode cX5_search 11 = .ok (.getfield 15, 3) := by decide +kernel
theorem dX5_search_14 : decode cX5_search 14 = .ok (.ldc2_w 31, 3) := by decide +kernel
theorem dX5_search_17 : decode cX5_search 17 = .ok (.invokestatic 33, 3) := by decide +kernel
theorem dX5_search_20 : decode cX5_search 20 = .ok (.aload_n 1, 1) := by decide +kernel
theorem dX5_search_21 : decode cX5_search 21 = .ok (.getfield 39, 3) := by decide +kernel
theorem dX5_search_24 : decode cX5_search 24 = .ok (.istore 5, 2) := by decide +kernel
theorem dX5_search_26 : decode cX5_search 26 = .ok (.iload 5, 2) := by decide +kernel
theorem dX5_search_28 : decode cX5_search 28 = .ok (.ifCond .lt 10, 3) := by decide +kernel
theorem dX5_search_31 : decode cX5_search 31 = .ok (.iload 5, 2) := by decide +kernel
theorem dX5_search_33 : decode cX5_search 33 = .ok (.bipush 12, 2) := by decide +kernel
theorem dX5_search_35 : decode cX5_search 35 = .ok (.if_icmp .lt 4, 3) := by decide +kernel
theorem dX5_search_38 : decode cX5_search 38 = .ok (.return_, 1) := by decide +kernel
theorem dX5_search_39 : decode cX5_search 39 = .ok (.aload_n 0, 1) := by decide +kernel
theorem dX5_search_40 : decode cX5_search 40 = .ok (.getfield 9, 3) := by decide +kernel
theorem dX5_search_43 : decode cX5_search 43 = .ok (.iload 5, 2) := by decide +kernel
theorem dX5_search_45 : decode cX5_search 45 = .ok (.lconst 0, 1) := by decide +kernel
theorem dX5_search_46 : decode cX5_search 46 = .ok (.lastore, 1) := by decide +kernel
theorem dX5_search_47 : decode cX5_search 47 = .ok (.aload_n 0, 1) := by decide +kernel
theorem dX5_search_48 : decode cX5_search 48 = .ok (.getfield 15, 3) := by decide +kernel
theorem dX5_search_51 : decode cX5_search 51 = .ok (.iload 5, 2) := by decide +kernel
theorem dX5_search_53 : decode cX5_search 53 = .ok (.lconst 0, 1) := by decide +kernel
theorem dX5_search_54 : decode cX5_search 54 = .ok (.lastore, 1) := by decide +kernel
theorem dX5_search_55 : decode cX5_search 55 = .ok (.aload_n 1, 1) := by decide +kernel
theorem dX5_search_56 : decode cX5_search 56 = .ok (.getfield 45, 3) := by decide +kernel
theorem dX5_search_59 : decode cX5_search 59 = .ok (.aload_n 1, 1) := by decide +kernel
theorem dX5_search_60 : decode cX5_search 60 = .ok (.getfield 48, 3) := by decide +kernel
theorem dX5_search_63 : decode cX5_search 63 = .ok (.iand, 1) := by decide +kernel
theorem dX5_search_64 : decode cX5_search 64 = .ok (.istore 6, 2) := by decide +kernel
theorem dX5_search_66 : decode cX5_search 66 = .ok (.iconst 1, 1) := by decide +kernel
theorem dX5_search_67 : decode cX5_search 67 = .ok (.istore 7, 2) := by decide +kernel
theorem dX5_search_69 : decode cX5_search 69 = .ok (.iload 7, 2) := by decide +kernel
theorem dX5_search_71 : decode cX5_search 71 = .ok (.iconst 4, 1) := by decide +kernel
theorem dX5_search_72 : decode cX5_search 72 = .ok (.if_icmp .gt 19, 3) := by decide +kernel
theorem dX5_search_75 : decode cX5_search 75 = .ok (.aload_n 0, 1) := by decide +kernel
theorem dX5_search_76 : decode cX5_search 76 = .ok (.iload 6, 2) := by decide +kernel
theorem dX5_search_78 : decode cX5_search 78 = .ok (.aload_n 2, 1) := by decide +kernel
theorem dX5_search_79 : decode cX5_search 79 = .ok (.aload_n 3, 1) := by decide +kernel
theorem dX5_search_80 : decode cX5_search 80 = .ok (.iload 4, 2) := by decide +kernel
theorem dX5_search_82 : decode cX5_search 82 = .ok (.invokevirtual 51, 3) := by decide +kernel
theorem dX5_search_85 : decode cX5_search 85 = .ok (.iinc 7 1, 3) := by decide +kernel
theorem dX5_search_88 : decode cX5_search 88 = .ok (.goto (-19), 3) := by decide +kernel
theorem dX5_search_91 : decode cX5_search 91 = .ok (.return_, 1) := by decide +kernel
theorem dX5_goOneStep_0 : decode cX5_goOneStep 0 = .ok (.aload_n 0, 1) := by decide +kernel
theorem dX5_goOneStep_1 : decode cX5_goOneStep 1 = .ok (.getfield 18, 3) := by decide +kernel
theorem dX5_goOneStep_4 : decode cX5_goOneStep 4 = .ok (.ldc2_w 31, 3) := by decide +kernel
theorem dX5_goOneStep_7 : decode cX5_goOneStep 7 = .ok (.invokestatic 33, 3) := by decide +kernel
theorem dX5_goOneStep_10 : decode cX5_goOneStep 10 = .ok (.iconst 0, 1) := by decide +kernel
theorem dX5_goOneStep_11 : decode cX5_goOneStep 11 = .ok (.istore 5, 2) := by decide +kernel
theorem dX5_goOneStep_13 : decode cX5_goOneStep 13 = .ok (.iload 5, 2) := by decide +kernel
theorem dX5_goOneStep_15 : decode cX5_goOneStep 15 = .ok (.aload_n 2, 1) := by decide +kernel
theorem dX5_goOneStep_16 : decode cX5_goOneStep 16 = .ok (.getfield 55, 3) := by decide +kernel
theorem dX5_goOneStep_19 : decode cX5_goOneStep 19 = .ok (.if_icmp .ge 109, 3) := by decide +kernel
theorem dX5_goOneStep_22 : decode cX5_goOneStep 22 = .ok (.aload_n 2, 1) := by decide +kernel
theorem dX5_goOneStep_23 : decode cX5_goOneStep 23 = .ok (.iload 5, 2) := by decide +kernel
theorem dX5_goOneStep_25 : decode cX5_goOneStep 25 = .ok (.invokevirtual 60, 3) := by decide +kernel
theorem dX5_goOneStep_28 : decode cX5_goOneStep 28 = .ok (.astore 6, 2) := by decide +kernel
theorem dX5_goOneStep_30 : decode cX5_goOneStep 30 = .ok (.aload 6, 2) := by decide +kernel
theorem dX5_goOneStep_32 : decode cX5_goOneStep 32 = .ok (.ifnull 90, 3) := by decide +kernel
theorem dX5_goOneStep_35 : decode cX5_goOneStep 35 = .ok (.aload_n 0, 1) := by decide +kernel
theorem dX5_goOneStep_36 : decode cX5_goOneStep 36 = .ok (.getfield 15, 3) := by decide +kernel
theorem dX5_goOneStep_39 : decode cX5_goOneStep 39 = .ok (.aload 6, 2) := by decide +kernel
theorem dX5_goOneStep_41 : decode cX5_goOneStep 41 = .ok (.getfield 64, 3) := by decide +kernel
theorem dX5_goOneStep_44 : decode cX5_goOneStep 44 = .ok (.laload, 1) := by decide +kernel
theorem dX5_goOneStep_45 : decode cX5_goOneStep 45 = .ok (.ldc2_w 31, 3) := by decide +kernel
theorem dX5_goOneStep_48 : decode cX5_goOneStep 48 = .ok (.lcmp, 1) := by decide +kernel
theorem dX5_goOneStep_49 : decode cX5_goOneStep 49 = .ok (.ifCond .eq 73, 3) := by decide +kernel
theorem dX5_goOneStep_52 : decode cX5_goOneStep 52 = .ok (.aload 6, 2) := by decide +kernel
theorem dX5_goOneStep_54 : decode cX5_goOneStep 54 = .ok (.iload_n 1, 1) := by decide +kernel
theorem dX5_goOneStep_55 : decode cX5_goOneStep 55 = .ok (.invokevirtual 69, 3) := by decide +kernel
theorem dX5_goOneStep_58 : decode cX5_goOneStep 58 = .ok (.ifCond .eq 64, 3) := by decide +kernel
theorem dX5_goOneStep_61 : decode cX5_goOneStep 61 = .ok (.aload_n 3, 1) := by decide +kernel
theorem dX5_goOneStep_62 : decode cX5_goOneStep 62 = .ok (.aload 6, 2) := by decide +kernel
theorem dX5_goOneStep_64 : decode cX5_goOneStep 64 = .ok (.getfield 73, 3) := by decide +kernel
theorem dX5_goOneStep_67 : decode cX5_goOneStep 67 = .ok (.iload 4, 2) := by decide +kernel
theorem dX5_goOneStep_69 : decode cX5_goOneStep 69 = .ok (.invokevirtual 76, 3) := by decide +kernel
theorem dX5_goOneStep_72 : decode cX5_goOneStep 72 = .ok (.ifCond .eq 50, 3) := by decide +kernel
theorem dX5_goOneStep_75 : decode cX5_goOneStep 75 = .ok (.aload_n 0, 1) := by decide +kernel
theorem dX5_goOneStep_76 : decode cX5_goOneStep 76 = .ok (.getfield 15, 3) := by decide +kernel
theorem dX5_goOneStep_79 : decode cX5_goOneStep 79 = .ok (.aload 6, 2) := by decide +kernel
theorem dX5_goOneStep_81 : decode cX5_goOneStep 81 = .ok (.getfield 64, 3) := by decide +kernel
theorem dX5_goOneStep_84 : decode cX5_goOneStep 84 = .ok (.laload, 1) := by decide +kernel
theorem dX5_goOneStep_85 : decode cX5_goOneStep 85 = .ok (.iload 5, 2) := by decide +kernel
theorem dX5_goOneStep_87 : decode cX5_goOneStep 87 = .ok (.aload 6, 2) := by decide +kernel
theorem dX5_goOneStep_89 : decode cX5_goOneStep 89 = .ok (.getfield 82, 3) := by decide +kernel
theorem dX5_goOneStep_92 : decode cX5_goOneStep 92 = .ok (.invokestatic 85, 3) := by decide +kernel
theorem dX5_goOneStep_95 : decode cX5_goOneStep 95 = .ok (.lstore 7, 2) := by decide +kernel
theorem dX5_goOneStep_97 : decode cX5_goOneStep 97 = .ok (.aload_n 0, 1) := by decide +kernel
theorem dX5_goOneStep_98 : decode cX5_goOneStep 98 = .ok (.getfield 18, 3) := by decide +kernel
theorem dX5_goOneStep_101 : decode cX5_goOneStep 101 = .ok (.aload 6, 2) := by decide +kernel
theorem dX5_goOneStep_103 : decode cX5_goOneStep 103 = .ok (.getfield 89, 3) := by decide +kernel
theorem dX5_goOneStep_106 : decode cX5_goOneStep 106 = .ok (.aload_n 0, 1) := by decide +kernel
theorem dX5_goOneStep_107 : decode cX5_goOneStep 107 = .ok (.getfield 18, 3) := by decide +kernel
theorem dX5_goOneStep_110 : decode cX5_goOneStep 110 = .ok (.aload 6, 2) := by decide +kernel
theorem dX5_goOneStep_112 : decode cX5_goOneStep 112 = .ok (.getfield 89, 3) := by decide +kernel
theorem dX5_goOneStep_115 : decode cX5_goOneStep 115 = .ok (.laload, 1) := by decide +kernel
theorem dX5_goOneStep_116 : decode cX5_goOneStep 116 = .ok (.lload 7, 2) := by decide +kernel
theorem dX5_goOneStep_118 : decode cX5_goOneStep 118 = .ok (.invokestatic 92, 3) := by decide +kernel
theorem dX5_goOneStep_121 : decode cX5_goOneStep 121 = .ok (.lastore, 1) := by decide +kernel
theorem dX5_goOneStep_122 : decode cX5_goOneStep 122 = .ok (.iinc 5 1, 3) := by decide +kernel
theorem dX5_goOneStep_125 : decode cX5_goOneStep 125 = .ok (.goto (-112), 3) := by decide +kernel
theorem dX5_goOneStep_128 : decode cX5_goOneStep 128 = .ok (.iconst 0, 1) := by decide +kernel
theorem dX5_goOneStep_129 : decode cX5_goOneStep 129 = .ok (.istore 5, 2) := by decide +kernel
theorem dX5_goOneStep_131 : decode cX5_goOneStep 131 = .ok (.iload 5, 2) := by decide +kernel
theorem dX5_goOneStep_133 : decode cX5_goOneStep 133 = .ok (.bipush 12, 2) := by decide +kernel
theorem dX5_goOneStep_135 : decode cX5_goOneStep 135 = .ok (.if_icmp .ge 47, 3) := by decide +kernel
theorem dX5_goOneStep_138 : decode cX5_goOneStep 138 = .ok (.aload_n 0, 1) := by decide +kernel
theorem dX5_goOneStep_139 : decode cX5_goOneStep 139 = .ok (.getfield 15, 3) := by decide +kernel
theorem dX5_goOneStep_142 : decode cX5_goOneStep 142 = .ok (.iload 5, 2) := by decide +kernel
theorem dX5_goOneStep_144 : decode cX5_goOneStep 144 = .ok (.aload_n 0, 1) := by decide +kernel
theorem dX5_goOneStep_145 : decode cX5_goOneStep 145 = .ok (.getfield 18, 3) := by decide +kernel
theorem dX5_goOneStep_148 : decode cX5_goOneStep 148 = .ok (.iload 5, 2) := by decide +kernel
theorem dX5_goOneStep_150 : decode cX5_goOneStep 150 = .ok (.laload, 1) := by decide +kernel
theorem dX5_goOneStep_151 : decode cX5_goOneStep 151 = .ok (.lastore, 1) := by decide +kernel
theorem dX5_goOneStep_152 : decode cX5_goOneStep 152 = .ok (.aload_n 0, 1) := by decide +kernel
theorem dX5_goOneStep_153 : decode cX5_goOneStep 153 = .ok (.getfield 9, 3) := by decide +kernel
theorem dX5_goOneStep_156 : decode cX5_goOneStep 156 = .ok (.iload 5, 2) := by decide +kernel
theorem dX5_goOneStep_158 : decode cX5_goOneStep 158 = .ok (.aload_n 0, 1) := by decide +kernel
theorem dX5_goOneStep_159 : decode cX5_goOneStep 159 = .ok (.getfield 9, 3) := by decide +kernel
theorem dX5_goOneStep_162 : decode cX5_goOneStep 162 = .ok (.iload 5, 2) := by decide +kernel
theorem dX5_goOneStep_164 : decode cX5_goOneStep 164 = .ok (.laload, 1) := by decide +kernel
theorem dX5_goOneStep_165 : decode cX5_goOneStep 165 = .ok (.aload_n 0, 1) := by decide +kernel
theorem dX5_goOneStep_166 : decode cX5_goOneStep 166 = .ok (.getfield 18, 3) := by decide +kernel
theorem dX5_goOneStep_169 : decode cX5_goOneStep 169 = .ok (.iload 5, 2) := by decide +kernel
theorem dX5_goOneStep_171 : decode cX5_goOneStep 171 = .ok (.laload, 1) := by decide +kernel
theorem dX5_goOneStep_172 : decode cX5_goOneStep 172 = .ok (.invokestatic 92, 3) := by decide +kernel
theorem dX5_goOneStep_175 : decode cX5_goOneStep 175 = .ok (.lastore, 1) := by decide +kernel
theorem dX5_goOneStep_176 : decode cX5_goOneStep 176 = .ok (.iinc 5 1, 3) := by decide +kernel
theorem dX5_goOneStep_179 : decode cX5_goOneStep 179 = .ok (.goto (-48), 3) := by decide +kernel
theorem dX5_goOneStep_182 : decode cX5_goOneStep 182 = .ok (.return_, 1) := by decide +kernel
theorem dX6_init_0 : decode cX6_init 0 = .ok (.aload_n 0, 1) := by decide +kernel
theorem dX6_init_1 : decode cX6_init 1 = .ok (.invokespecial 3, 3) := by decide +kernel
theorem dX6_init_4 : decode cX6_init 4 = .ok (.aload_n 0, 1) := by decide +kernel
theorem dX6_init_5 : decode cX6_init 5 = .ok (.bipush 12, 2) := by decide +kernel
theorem dX6_init_7 : decode cX6_init 7 = .ok (.newarray .int, 2) := by decide +kernel
theorem dX6_init_9 : decode cX6_init 9 = .ok (.putfield 9, 3) := by decide +kernel
theorem dX6_init_12 : decode cX6_init 12 = .ok (.aload_n 0, 1) := by decide +kernel
theorem dX6_init_13 : decode cX6_init 13 = .ok (.bipush 12, 2) := by decide +kernel
theorem dX6_init_15 : decode cX6_init 15 = .ok (.newarray .int, 2) := by decide +kernel
theorem dX6_init_17 : decode cX6_init 17 = .ok (.putfield 15, 3) := by decide +kernel
theorem dX6_init_20 : decode cX6_init 20 = .ok (.return_, 1) := by decide +kernel
theorem dX6_measure_0 : decode cX6_measure 0 = .ok (.aload_n 0, 1) := by decide +kernel
theorem dX6_measure_1 : decode cX6_measure 1 = .ok (.getfield 9, 3) := by decide +kernel
theorem dX6_measure_4 : decode cX6_measure 4 = .ok (.iconst (-1), 1) := by decide +kernel
theorem dX6_measure_5 : decode cX6_measure 5 = .ok (.invokestatic 18, 3) := by decide +kernel
theorem dX6_measure_8 : decode cX6_measure 8 = .ok (.iconst 0, 1) := by decide +kernel
theorem dX6_measure_9 : decode cX6_measure 9 = .ok (.istore 5, 2) := by decide +kernel
theorem dX6_measure_11 : decode cX6_measure 11 = .ok (.iload 5, 2) := by decide +kernel
theorem dX6_measure_13 : decode cX6_measure 13 = .ok (.aload_n 1, 1) := by decide +kernel
theorem dX6_measure_14 : decode cX6_measure 14 = .ok (.getfield 24, 3) := by decide +kernel
theorem dX6_measure_17 : decode cX6_measure 17 = .ok (.if_icmp .ge 52, 3) := by decide +kernel
theorem dX6_measure_20 : decode cX6_measure 20 = .ok (.aload_n 1, 1) := by decide +kernel
theorem dX6_measure_21 : decode cX6_measure 21 = .ok (.getfield 30, 3) := by decide +kernel
theorem dX6_measure_24 : decode cX6_measure 24 = .ok (.iload 5, 2) := by decide +kernel
theorem dX6_measure_26 : decode cX6_measure 26 = .ok (.iaload, 1) := by decide +kernel
theorem dX6_measure_27 : decode cX6_measure 27 = .ok (.istore 6, 2) := by decide +kernel
theorem dX6_measure_29 : decode cX6_measure 29 = .ok (.aload_n 3, 1) := by decide +kernel
theorem dX6_measure_30 : decode cX6_measure 30 = .ok (.aload_n 1, 1) := by decide +kernel
theorem dX6_measure_31 : decode cX6_measure 31 = .ok (.getfield 33, 3) := by decide +kernel
theorem dX6_measure_34 : decode cX6_measure 34 = .ok (.iload 5, 2) := by decide +kernel
theorem dX6_measure_36 : decode cX6_measure 36 = .ok (.iaload, 1) := by decide +kernel
theorem dX6_measure_37 : decode cX6_measure 37 = .ok (.iload 4, 2) := by decide +kernel
theorem dX6_measure_39 : decode cX6_measure 39 = .ok (.invokevirtual 36, 3) := by decide +kernel
theorem dX6_measure_42 : decode cX6_measure 42 = .ok (.istore 7, 2) := by decide +kernel
theorem dX6_measure_44 : decode cX6_measure 44 = .ok (.aload_n 0, 1) := by decide +kernel
theorem dX6_measure_45 : decode cX6_measure 45 = .ok (.getfield 9, 3) := by decide +kernel
theorem dX6_measure_48 : decode cX6_measure 48 = .ok (.iload 6, 2) := by decide +kernel
theorem dX6_measure_50 : decode cX6_measure 50 = .ok (.aload_n 0, 1) := by decide +kernel
theorem dX6_measure_51 : decode cX6_measure 51 = .ok (.getfield 9, 3) := by decide +kernel
theorem dX6_measure_54 : decode cX6_measure 54 = .ok (.iload 6, 2) := by decide +kernel
theorem dX6_measure_56 : decode cX6_measure 56 = .ok (.iaload, 1) := by decide +kernel
theorem dX6_measure_57 : decode cX6_measure 57 = .ok (.iload 7, 2) := by decide +kernel
end
section
theorem dX6_measure_59 : decode cX6_measure 59 = .ok (.invokestatic 42, 3) := by decide +kernel
theorem dX6_measure_62 : decode cX6_measure 62 = .ok (.iastore, 1) := by decide +kernel
theorem dX6_measure_63 : decode cX6_measure 63 = .ok (.iinc 5 1, 3) := by decide +kernel
theorem dX6_measure_66 : decode cX6_measure 66 = .ok (.goto (-55), 3) := by decide +kernel
theorem dX6_measure_69 : decode cX6_measure 69 = .ok (.iconst 1, 1) := by decide +kernel
theorem dX6_measure_70 : decode cX6_measure 70 = .ok (.istore 5, 2) := by decide +kernel
theorem dX6_measure_72 : decode cX6_measure 72 = .ok (.iload 5, 2) := by decide +kernel
theorem dX6_measure_74 : decode cX6_measure 74 = .ok (.iconst 4, 1) := by decide +kernel
theorem dX6_measure_75 : decode cX6_measure 75 = .ok (.if_icmp .gt 17, 3) := by decide +kernel
theorem dX6_measure_78 : decode cX6_measure 78 = .ok (.aload_n 0, 1) := by decide +kernel
theorem dX6_measure_79 : decode cX6_measure 79 = .ok (.aload_n 2, 1) := by decide +kernel
theorem dX6_measure_80 : decode cX6_measure 80 = .ok (.aload_n 3, 1) := by decide +kernel
theorem dX6_measure_81 : decode cX6_measure 81 = .ok (.iload 4, 2) := by decide +kernel
theorem dX6_measure_83 : decode cX6_measure 83 = .ok (.invokevirtual 48, 3) := by decide +kernel
theorem dX6_measure_86 : decode cX6_measure 86 = .ok (.iinc 5 1, 3) := by decide +kernel
theorem dX6_measure_89 : decode cX6_measure 89 = .ok (.goto (-17), 3) := by decide +kernel
theorem dX6_measure_92 : decode cX6_measure 92 = .ok (.return_, 1) := by decide +kernel
theorem dX6_goOneStepBack_0 : decode cX6_goOneStepBack 0 = .ok (.aload_n 0, 1) := by decide +kernel
theorem dX6_goOneStepBack_1 : decode cX6_goOneStepBack 1 = .ok (.getfield 9, 3) := by decide +kernel
theorem dX6_goOneStepBack_4 : decode cX6_goOneStepBack 4 = .ok (.iconst 0, 1) := by decide +kernel
theorem dX6_goOneStepBack_5 : decode cX6_goOneStepBack 5 = .ok (.aload_n 0, 1) := by decide +kernel
theorem dX6_goOneStepBack_6 : decode cX6_goOneStepBack 6 = .ok (.getfield 15, 3) := by decide +kernel
theorem dX6_goOneStepBack_9 : decode cX6_goOneStepBack 9 = .ok (.iconst 0, 1) := by decide +kernel
theorem dX6_goOneStepBack_10 : decode cX6_goOneStepBack 10 = .ok (.bipush 12, 2) := by decide +kernel
theorem dX6_goOneStepBack_12 : decode cX6_goOneStepBack 12 = .ok (.invokestatic 52, 3) := by decide +kernel
theorem dX6_goOneStepBack_15 : decode cX6_goOneStepBack 15 = .ok (.iconst 0, 1) := by decide +kernel
theorem dX6_goOneStepBack_16 : decode cX6_goOneStepBack 16 = .ok (.istore 4, 2) := by decide +kernel
theorem dX6_goOneStepBack_18 : decode cX6_goOneStepBack 18 = .ok (.iload 4, 2) := by decide +kernel
theorem dX6_goOneStepBack_20 : decode cX6_goOneStepBack 20 = .ok (.aload_n 1, 1) := by decide +kernel
theorem dX6_goOneStepBack_21 : decode cX6_goOneStepBack 21 = .ok (.getfield 58, 3) := by decide +kernel
theorem dX6_goOneStepBack_24 : decode cX6_goOneStepBack 24 = .ok (.if_icmp .ge 72, 3) := by decide +kernel
theorem dX6_goOneStepBack_27 : decode cX6_goOneStepBack 27 = .ok (.aload_n 1, 1) := by decide +kernel
theorem dX6_goOneStepBack_28 : decode cX6_goOneStepBack 28 = .ok (.iload 4, 2) := by decide +kernel
theorem dX6_goOneStepBack_30 : decode cX6_goOneStepBack 30 = .ok (.invokevirtual 61, 3) := by decide +kernel
theorem dX6_goOneStepBack_33 : decode cX6_goOneStepBack 33 = .ok (.astore 5, 2) := by decide +kernel
theorem dX6_goOneStepBack_35 : decode cX6_goOneStepBack 35 = .ok (.aload 5, 2) := by decide +kernel
theorem dX6_goOneStepBack_37 : decode cX6_goOneStepBack 37 = .ok (.ifnull 53, 3) := by decide +kernel
theorem dX6_goOneStepBack_40 : decode cX6_goOneStepBack 40 = .ok (.aload_n 2, 1) := by decide +kernel
theorem dX6_goOneStepBack_41 : decode cX6_goOneStepBack 41 = .ok (.aload 5, 2) := by decide +kernel
theorem dX6_goOneStepBack_43 : decode cX6_goOneStepBack 43 = .ok (.getfield 65, 3) := by decide +kernel
theorem dX6_goOneStepBack_46 : decode cX6_goOneStepBack 46 = .ok (.iload_n 3, 1) := by decide +kernel
theorem dX6_goOneStepBack_47 : decode cX6_goOneStepBack 47 = .ok (.invokevirtual 36, 3) := by decide +kernel
theorem dX6_goOneStepBack_50 : decode cX6_goOneStepBack 50 = .ok (.aload_n 0, 1) := by decide +kernel
theorem dX6_goOneStepBack_51 : decode cX6_goOneStepBack 51 = .ok (.getfield 9, 3) := by decide +kernel
theorem dX6_goOneStepBack_54 : decode cX6_goOneStepBack 54 = .ok (.aload 5, 2) := by decide +kernel
theorem dX6_goOneStepBack_56 : decode cX6_goOneStepBack 56 = .ok (.getfield 70, 3) := by decide +kernel
theorem dX6_goOneStepBack_59 : decode cX6_goOneStepBack 59 = .ok (.iaload, 1) := by decide +kernel
theorem dX6_goOneStepBack_60 : decode cX6_goOneStepBack 60 = .ok (.invokestatic 73, 3) := by decide +kernel
theorem dX6_goOneStepBack_63 : decode cX6_goOneStepBack 63 = .ok (.istore 6, 2) := by decide +kernel
theorem dX6_goOneStepBack_65 : decode cX6_goOneStepBack 65 = .ok (.aload_n 0, 1) := by decide +kernel
theorem dX6_goOneStepBack_66 : decode cX6_goOneStepBack 66 = .ok (.getfield 15, 3) := by decide +kernel
theorem dX6_goOneStepBack_69 : decode cX6_goOneStepBack 69 = .ok (.aload 5, 2) := by decide +kernel
theorem dX6_goOneStepBack_71 : decode cX6_goOneStepBack 71 = .ok (.getfield 76, 3) := by decide +kernel
theorem dX6_goOneStepBack_74 : decode cX6_goOneStepBack 74 = .ok (.aload_n 0, 1) := by decide +kernel
theorem dX6_goOneStepBack_75 : decode cX6_goOneStepBack 75 = .ok (.getfield 15, 3) := by decide +kernel
theorem dX6_goOneStepBack_78 : decode cX6_goOneStepBack 78 = .ok (.aload 5, 2) := by decide +kernel
theorem dX6_goOneStepBack_80 : decode cX6_goOneStepBack 80 = .ok (.getfield 76, 3) := by decide +kernel
theorem dX6_goOneStepBack_83 : decode cX6_goOneStepBack 83 = .ok (.iaload, 1) := by decide +kernel
theorem dX6_goOneStepBack_84 : decode cX6_goOneStepBack 84 = .ok (.iload 6, 2) := by decide +kernel
theorem dX6_goOneStepBack_86 : decode cX6_goOneStepBack 86 = .ok (.invokestatic 42, 3) := by decide +kernel
theorem dX6_goOneStepBack_89 : decode cX6_goOneStepBack 89 = .ok (.iastore, 1) := by decide +kernel
theorem dX6_goOneStepBack_90 : decode cX6_goOneStepBack 90 = .ok (.iinc 4 1, 3) := by decide +kernel
theorem dX6_goOneStepBack_93 : decode cX6_goOneStepBack 93 = .ok (.goto (-75), 3) := by decide +kernel
theorem dX6_goOneStepBack_96 : decode cX6_goOneStepBack 96 = .ok (.aload_n 0, 1) := by decide +kernel
theorem dX6_goOneStepBack_97 : decode cX6_goOneStepBack 97 = .ok (.getfield 15, 3) := by decide +kernel
theorem dX6_goOneStepBack_100 : decode cX6_goOneStepBack 100 = .ok (.iconst 0, 1) := by decide +kernel
theorem dX6_goOneStepBack_101 : decode cX6_goOneStepBack 101 = .ok (.aload_n 0, 1) := by decide +kernel
theorem dX6_goOneStepBack_102 : decode cX6_goOneStepBack 102 = .ok (.getfield 9, 3) := by decide +kernel
theorem dX6_goOneStepBack_105 : decode cX6_goOneStepBack 105 = .ok (.iconst 0, 1) := by decide +kernel
theorem dX6_goOneStepBack_106 : decode cX6_goOneStepBack 106 = .ok (.bipush 12, 2) := by decide +kernel
theorem dX6_goOneStepBack_108 : decode cX6_goOneStepBack 108 = .ok (.invokestatic 52, 3) := by decide +kernel
theorem dX6_goOneStepBack_111 : decode cX6_goOneStepBack 111 = .ok (.return_, 1) := by decide +kernel
theorem dX6_lastYearOf_0 : decode cX6_lastYearOf 0 = .ok (.iload_n 1, 1) := by decide +kernel
theorem dX6_lastYearOf_1 : decode cX6_lastYearOf 1 = .ok (.ifCond .lt 18, 3) := by decide +kernel
theorem dX6_lastYearOf_4 : decode cX6_lastYearOf 4 = .ok (.iload_n 1, 1) := by decide +kernel
theorem dX6_lastYearOf_5 : decode cX6_lastYearOf 5 = .ok (.bipush 12, 2) := by decide +kernel
theorem dX6_lastYearOf_7 : decode cX6_lastYearOf 7 = .ok (.if_icmp .ge 12, 3) := by decide +kernel
theorem dX6_lastYearOf_10 : decode cX6_lastYearOf 10 = .ok (.aload_n 0, 1) := by decide +kernel
theorem dX6_lastYearOf_11 : decode cX6_lastYearOf 11 = .ok (.getfield 9, 3) := by decide +kernel
theorem dX6_lastYearOf_14 : decode cX6_lastYearOf 14 = .ok (.iload_n 1, 1) := by decide +kernel
theorem dX6_lastYearOf_15 : decode cX6_lastYearOf 15 = .ok (.iaload, 1) := by decide +kernel
theorem dX6_lastYearOf_16 : decode cX6_lastYearOf 16 = .ok (.goto 4, 3) := by decide +kernel
theorem dX6_lastYearOf_19 : decode cX6_lastYearOf 19 = .ok (.iconst (-1), 1) := by decide +kernel
theorem dX6_lastYearOf_20 : decode cX6_lastYearOf 20 = .ok (.ireturn, 1) := by decide +kernel
theorem dX7_init_0 : decode cX7_init 0 = .ok (.aload_n 0, 1) := by decide +kernel
theorem dX7_init_1 : decode cX7_init 1 = .ok (.invokespecial 3, 3) := by decide +kernel
theorem dX7_init_4 : decode cX7_init 4 = .ok (.aload_n 0, 1) := by decide +kernel
theorem dX7_init_5 : decode cX7_init 5 = .ok (.iconst 0, 1) := by decide +kernel
theorem dX7_init_6 : decode cX7_init 6 = .ok (.putfield 9, 3) := by decide +kernel
theorem dX7_init_9 : decode cX7_init 9 = .ok (.aload_n 0, 1) := by decide +kernel
theorem dX7_init_10 : decode cX7_init 10 = .ok (.iconst 0, 1) := by decide +kernel
theorem dX7_init_11 : decode cX7_init 11 = .ok (.putfield 15, 3) := by decide +kernel
theorem dX7_init_14 : decode cX7_init 14 = .ok (.aload_n 0, 1) := by decide +kernel
theorem dX7_init_15 : decode cX7_init 15 = .ok (.iconst (-1), 1) := by decide +kernel
theorem dX7_init_16 : decode cX7_init 16 = .ok (.putfield 19, 3) := by decide +kernel
theorem dX7_init_19 : decode cX7_init 19 = .ok (.aload_n 0, 1) := by decide +kernel
theorem dX7_init_20 : decode cX7_init 20 = .ok (.iconst 4, 1) := by decide +kernel
theorem dX7_init_21 : decode cX7_init 21 = .ok (.putfield 22, 3) := by decide +kernel
theorem dX7_init_24 : decode cX7_init 24 = .ok (.aload_n 0, 1) := by decide +kernel
theorem dX7_init_25 : decode cX7_init 25 = .ok (.iconst 0, 1) := by decide +kernel
theorem dX7_init_26 : decode cX7_init 26 = .ok (.putfield 25, 3) := by decide +kernel
theorem dX7_init_29 : decode cX7_init 29 = .ok (.aload_n 0, 1) := by decide +kernel
theorem dX7_init_30 : decode cX7_init 30 = .ok (.iconst 0, 1) := by decide +kernel
theorem dX7_init_31 : decode cX7_init 31 = .ok (.putfield 28, 3) := by decide +kernel
theorem dX7_init_34 : decode cX7_init 34 = .ok (.aload_n 0, 1) := by decide +kernel
theorem dX7_init_35 : decode cX7_init 35 = .ok (.aload_n 1, 1) := by decide +kernel
theorem dX7_init_36 : decode cX7_init 36 = .ok (.putfield 31, 3) := by decide +kernel
theorem dX7_init_39 : decode cX7_init 39 = .ok (.aload_n 0, 1) := by decide +kernel
theorem dX7_init_40 : decode cX7_init 40 = .ok (.iload_n 2, 1) := by decide +kernel
theorem dX7_init_41 : decode cX7_init 41 = .ok (.putfield 35, 3) := by decide +kernel
theorem dX7_init_44 : decode cX7_init 44 = .ok (.aload_n 0, 1) := by decide +kernel
theorem dX7_init_45 : decode cX7_init 45 = .ok (.iload_n 3, 1) := by decide +kernel
theorem dX7_init_46 : decode cX7_init 46 = .ok (.putfield 38, 3) := by decide +kernel
theorem dX7_init_49 : decode cX7_init 49 = .ok (.return_, 1) := by decide +kernel
theorem dX8_init_0 : decode cX8_init 0 = .ok (.aload_n 0, 1) := by decide +kernel
theorem dX8_init_1 : decode cX8_init 1 = .ok (.invokespecial 1, 3) := by decide +kernel
theorem dX8_init_4 : decode cX8_init 4 = .ok (.aload_n 0, 1) := by decide +kernel
theorem dX8_init_5 : decode cX8_init 5 = .ok (.iload_n 1, 1) := by decide +kernel
theorem dX8_init_6 : decode cX8_init 6 = .ok (.putfield 7, 3) := by decide +kernel
theorem dX8_init_9 : decode cX8_init 9 = .ok (.aload_n 0, 1) := by decide +kernel
theorem dX8_init_10 : decode cX8_init 10 = .ok (.iload_n 2, 1) := by decide +kernel
theorem dX8_init_11 : decode cX8_init 11 = .ok (.putfield 13, 3) := by decide +kernel
theorem dX8_init_14 : decode cX8_init 14 = .ok (.aload_n 0, 1) := by decide +kernel
theorem dX8_init_15 : decode cX8_init 15 = .ok (.iload_n 3, 1) := by decide +kernel
theorem dX8_init_16 : decode cX8_init 16 = .ok (.putfield 16, 3) := by decide +kernel
theorem dX8_init_19 : decode cX8_init 19 = .ok (.aload_n 0, 1) := by decide +kernel
theorem dX8_init_20 : decode cX8_init 20 = .ok (.iload 4, 2) := by decide +kernel
theorem dX8_init_22 : decode cX8_init 22 = .ok (.putfield 19, 3) := by decide +kernel
theorem dX8_init_25 : decode cX8_init 25 = .ok (.aload_n 0, 1) := by decide +kernel
theorem dX8_init_26 : decode cX8_init 26 = .ok (.iload 5, 2) := by decide +kernel
theorem dX8_init_28 : decode cX8_init 28 = .ok (.putfield 22, 3) := by decide +kernel
theorem dX8_init_31 : decode cX8_init 31 = .ok (.return_, 1) := by decide +kernel
theorem dX8_carriesAll_0 : decode cX8_carriesAll 0 = .ok (.iload_n 1, 1) := by decide +kernel
theorem dX8_carriesAll_1 : decode cX8_carriesAll 1 = .ok (.aload_n 0, 1) := by decide +kernel
theorem dX8_carriesAll_2 : decode cX8_carriesAll 2 = .ok (.getfield 16, 3) := by decide +kernel
theorem dX8_carriesAll_5 : decode cX8_carriesAll 5 = .ok (.iconst (-1), 1) := by decide +kernel
theorem dX8_carriesAll_6 : decode cX8_carriesAll 6 = .ok (.ixor, 1) := by decide +kernel
theorem dX8_carriesAll_7 : decode cX8_carriesAll 7 = .ok (.iand, 1) := by decide +kernel
theorem dX8_carriesAll_8 : decode cX8_carriesAll 8 = .ok (.ifCond .ne 7, 3) := by decide +kernel
theorem dX8_carriesAll_11 : decode cX8_carriesAll 11 = .ok (.iconst 1, 1) := by decide +kernel
theorem dX8_carriesAll_12 : decode cX8_carriesAll 12 = .ok (.goto 4, 3) := by decide +kernel
theorem dX8_carriesAll_15 : decode cX8_carriesAll 15 = .ok (.iconst 0, 1) := by decide +kernel
theorem dX8_carriesAll_16 : decode cX8_carriesAll 16 = .ok (.ireturn, 1) := by decide +kernel
theorem dX9_init_0 : decode cX9_init 0 = .ok (.aload_n 0, 1) := by decide +kernel
theorem dX9_init_1 : decode cX9_init 1 = .ok (.invokespecial 3, 3) := by decide +kernel
theorem dX9_init_4 : decode cX9_init 4 = .ok (.aload_n 0, 1) := by decide +kernel
theorem dX9_init_5 : decode cX9_init 5 = .ok (.bipush 24, 2) := by decide +kernel
theorem dX9_init_7 : decode cX9_init 7 = .ok (.anewarray 9, 3) := by decide +kernel
theorem dX9_init_10 : decode cX9_init 10 = .ok (.putfield 11, 3) := by decide +kernel
theorem dX9_init_13 : decode cX9_init 13 = .ok (.aload_n 0, 1) := by decide +kernel
theorem dX9_init_14 : decode cX9_init 14 = .ok (.iconst 0, 1) := by decide +kernel
theorem dX9_init_15 : decode cX9_init 15 = .ok (.putfield 17, 3) := by decide +kernel
theorem dX9_init_18 : decode cX9_init 18 = .ok (.return_, 1) := by decide +kernel
theorem dX9_add_0 : decode cX9_add 0 = .ok (.aload_n 0, 1) := by decide +kernel
theorem dX9_add_1 : decode cX9_add 1 = .ok (.getfield 17, 3) := by decide +kernel
theorem dX9_add_4 : decode cX9_add 4 = .ok (.bipush 24, 2) := by decide +kernel
theorem dX9_add_6 : decode cX9_add 6 = .ok (.if_icmp .lt 5, 3) := by decide +kernel
theorem dX9_add_9 : decode cX9_add 9 = .ok (.iconst (-1), 1) := by decide +kernel
theorem dX9_add_10 : decode cX9_add 10 = .ok (.ireturn, 1) := by decide +kernel
theorem dX9_add_11 : decode cX9_add 11 = .ok (.aload_n 0, 1) := by decide +kernel
theorem dX9_add_12 : decode cX9_add 12 = .ok (.getfield 11, 3) := by decide +kernel
theorem dX9_add_15 : decode cX9_add 15 = .ok (.aload_n 0, 1) := by decide +kernel
theorem dX9_add_16 : decode cX9_add 16 = .ok (.getfield 17, 3) := by decide +kernel
theorem dX9_add_19 : decode cX9_add 19 = .ok (.new 9, 3) := by decide +kernel
theorem dX9_add_22 : decode cX9_add 22 = .ok (.dup, 1) := by decide +kernel
theorem dX9_add_23 : decode cX9_add 23 = .ok (.iload_n 1, 1) := by decide +kernel
theorem dX9_add_24 : decode cX9_add 24 = .ok (.iload_n 2, 1) := by decide +kernel
theorem dX9_add_25 : decode cX9_add 25 = .ok (.iload_n 3, 1) := by decide +kernel
theorem dX9_add_26 : decode cX9_add 26 = .ok (.iload 4, 2) := by decide +kernel
theorem dX9_add_28 : decode cX9_add 28 = .ok (.iload 5, 2) := by decide +kernel
theorem dX9_add_30 : decode cX9_add 30 = .ok (.invokespecial 21, 3) := by decide +kernel
theorem dX9_add_33 : decode cX9_add 33 = .ok (.aastore, 1) := by decide +kernel
theorem dX9_add_34 : decode cX9_add 34 = .ok (.aload_n 0, 1) := by decide +kernel
theorem dX9_add_35 : decode cX9_add 35 = .ok (.dup, 1) := by decide +kernel
theorem dX9_add_36 : decode cX9_add 36 = .ok (.getfield 17, 3) := by decide +kernel
theorem dX9_add_39 : decode cX9_add 39 = .ok (.iconst 1, 1) := by decide +kernel
theorem dX9_add_40 : decode cX9_add 40 = .ok (.iadd, 1) := by decide +kernel
theorem dX9_add_41 : decode cX9_add 41 = .ok (.putfield 17, 3) := by decide +kernel
theorem dX9_add_44 : decode cX9_add 44 = .ok (.aload_n 0, 1) := by decide +kernel
theorem dX9_add_45 : decode cX9_add 45 = .ok (.getfield 17, 3) := by decide +kernel
theorem dX9_add_48 : decode cX9_add 48 = .ok (.iconst 1, 1) := by decide +kernel
theorem dX9_add_49 : decode cX9_add 49 = .ok (.isub, 1) := by decide +kernel
theorem dX9_add_50 : decode cX9_add 50 = .ok (.ireturn, 1) := by decide +kernel
theorem dX9_at_0 : decode cX9_at 0 = .ok (.iload_n 1, 1) := by decide +kernel
theorem dX9_at_1 : decode cX9_at 1 = .ok (.ifCond .lt 20, 3) := by decide +kernel
theorem dX9_at_4 : decode cX9_at 4 = .ok (.iload_n 1, 1) := by decide +kernel
theorem dX9_at_5 : decode cX9_at 5 = .ok (.aload_n 0, 1) := by decide +kernel
theorem dX9_at_6 : decode cX9_at 6 = .ok (.getfield 17, 3) := by decide +kernel
theorem dX9_at_9 : decode cX9_at 9 = .ok (.if_icmp .ge 12, 3) := by decide +kernel
theorem dX9_at_12 : decode cX9_at 12 = .ok (.aload_n 0, 1) := by decide +kernel
theorem dX9_at_13 : decode cX9_at 13 = .ok (.getfield 11, 3) := by decide +kernel
theorem dX9_at_16 : decode cX9_at 16 = .ok (.iload_n 1, 1) := by decide +kernel
theorem dX9_at_17 : decode cX9_at 17 = .ok (.aaload, 1) := by decide +kernel
theorem dX9_at_18 : decode cX9_at 18 = .ok (.goto 4, 3) := by decide +kernel
theorem dX9_at_21 : decode cX9_at 21 = .ok (.aconst_null, 1) := by decide +kernel
theorem dX9_at_22 : decode cX9_at 22 = .ok (.areturn, 1) := by decide +kernel
theorem dX10_init_0 : decode cX10_init 0 = .ok (.aload_n 0, 1) := by decide +kernel
theorem dX10_init_1 : decode cX10_init 1 = .ok (.invokespecial 1, 3) := by decide +kernel
theorem dX10_init_4 : decode cX10_init 4 = .ok (.aload_n 0, 1) := by decide +kernel
theorem dX10_init_5 : decode cX10_init 5 = .ok (.new 7, 3) := by decide +kernel
theorem dX10_init_8 : decode cX10_init 8 = .ok (.dup, 1) := by decide +kernel
theorem dX10_init_9 : decode cX10_init 9 = .ok (.bipush 80, 2) := by decide +kernel
theorem dX10_init_11 : decode cX10_init 11 = .ok (.invokespecial 11, 3) := by decide +kernel
theorem dX10_init_14 : decode cX10_init 14 = .ok (.putfield 14, 3) := by decide +kernel
theorem dX10_init_17 : decode cX10_init 17 = .ok (.aload_n 0, 1) := by decide +kernel
theorem dX10_init_18 : decode cX10_init 18 = .ok (.new 7, 3) := by decide +kernel
theorem dX10_init_21 : decode cX10_init 21 = .ok (.dup, 1) := by decide +kernel
theorem dX10_init_22 : decode cX10_init 22 = .ok (.bipush 60, 2) := by decide +kernel
theorem dX10_init_24 : decode cX10_init 24 = .ok (.invokespecial 11, 3) := by decide +kernel
theorem dX10_init_27 : decode cX10_init 27 = .ok (.putfield 18, 3) := by decide +kernel
theorem dX10_init_30 : decode cX10_init 30 = .ok (.aload_n 0, 1) := by decide +kernel
theorem dX10_init_31 : decode cX10_init 31 = .ok (.bipush 12, 2) := by decide +kernel
theorem dX10_init_33 : decode cX10_init 33 = .ok (.anewarray 21, 3) := by decide +kernel
theorem dX10_init_36 : decode cX10_init 36 = .ok (.putfield 23, 3) := by decide +kernel
theorem dX10_init_39 : decode cX10_init 39 = .ok (.aload_n 0, 1) := by decide +kernel
theorem dX10_init_40 : decode cX10_init 40 = .ok (.bipush 40, 2) := by decide +kernel
theorem dX10_init_42 : decode cX10_init 42 = .ok (.anewarray 27, 3) := by decide +kernel
theorem dX10_init_45 : decode cX10_init 45 = .ok (.putfield 29, 3) := by decide +kernel
theorem dX10_init_48 : decode cX10_init 48 = .ok (.aload_n 0, 1) := by decide +kernel
theorem dX10_init_49 : decode cX10_init 49 = .ok (.new 33, 3) := by decide +kernel
theorem dX10_init_52 : decode cX10_init 52 = .ok (.dup, 1) := by decide +kernel
theorem dX10_init_53 : decode cX10_init 53 = .ok (.invokespecial 35, 3) := by decide +kernel
theorem dX10_init_56 : decode cX10_init 56 = .ok (.putfield 36, 3) := by decide +kernel
theorem dX10_init_59 : decode cX10_init 59 = .ok (.aload_n 0, 1) := by decide +kernel
theorem dX10_init_60 : decode cX10_init 60 = .ok (.new 40, 3) := by decide +kernel
theorem dX10_init_63 : decode cX10_init 63 = .ok (.dup, 1) := by decide +kernel
theorem dX10_init_64 : decode cX10_init 64 = .ok (.invokespecial 42, 3) := by decide +kernel
theorem dX10_init_67 : decode cX10_init 67 = .ok (.putfield 43, 3) := by decide +kernel
theorem dX10_init_70 : decode cX10_init 70 = .ok (.aload_n 0, 1) := by decide +kernel
theorem dX10_init_71 : decode cX10_init 71 = .ok (.new 47, 3) := by decide +kernel
theorem dX10_init_74 : decode cX10_init 74 = .ok (.dup, 1) := by decide +kernel
theorem dX10_init_75 : decode cX10_init 75 = .ok (.invokespecial 49, 3) := by decide +kernel
theorem dX10_init_78 : decode cX10_init 78 = .ok (.putfield 50, 3) := by decide +kernel
theorem dX10_init_81 : decode cX10_init 81 = .ok (.aload_n 0, 1) := by decide +kernel
theorem dX10_init_82 : decode cX10_init 82 = .ok (.new 54, 3) := by decide +kernel
theorem dX10_init_85 : decode cX10_init 85 = .ok (.dup, 1) := by decide +kernel
theorem dX10_init_86 : decode cX10_init 86 = .ok (.invokespecial 56, 3) := by decide +kernel
theorem dX10_init_89 : decode cX10_init 89 = .ok (.putfield 57, 3) := by decide +kernel
theorem dX10_init_92 : decode cX10_init 92 = .ok (.aload_n 0, 1) := by decide +kernel
theorem dX10_init_93 : decode cX10_init 93 = .ok (.new 61, 3) := by decide +kernel
theorem dX10_init_96 : decode cX10_init 96 = .ok (.dup, 1) := by decide +kernel
theorem dX10_init_97 : decode cX10_init 97 = .ok (.invokespecial 63, 3) := by decide +kernel
theorem dX10_init_100 : decode cX10_init 100 = .ok (.putfield 64, 3) := by decide +kernel
theorem dX10_init_103 : decode cX10_init 103 = .ok (.aload_n 0, 1) := by decide +kernel
theorem dX10_init_104 : decode cX10_init 104 = .ok (.new 68, 3) := by decide +kernel
theorem dX10_init_107 : decode cX10_init 107 = .ok (.dup, 1) := by decide +kernel
theorem dX10_init_108 : decode cX10_init 108 = .ok (.invokespecial 70, 3) := by decide +kernel
theorem dX10_init_111 : decode cX10_init 111 = .ok (.putfield 71, 3) := by decide +kernel
theorem dX10_init_114 : decode cX10_init 114 = .ok (.aload_n 0, 1) := by decide +kernel
theorem dX10_init_115 : decode cX10_init 115 = .ok (.new 68, 3) := by decide +kernel
theorem dX10_init_118 : decode cX10_init 118 = .ok (.dup, 1) := by decide +kernel
theorem dX10_init_119 : decode cX10_init 119 = .ok (.invokespecial 70, 3) := by decide +kernel
theorem dX10_init_122 : decode cX10_init 122 = .ok (.putfield 75, 3) := by decide +kernel
theorem dX10_init_125 : decode cX10_init 125 = .ok (.aload_n 0, 1) := by decide +kernel
theorem dX10_init_126 : decode cX10_init 126 = .ok (.iconst 0, 1) := by decide +kernel
theorem dX10_init_127 : decode cX10_init 127 = .ok (.putfield 78, 3) := by decide +kernel
theorem dX10_init_130 : decode cX10_init 130 = .ok (.aload_n 0, 1) := by decide +kernel
theorem dX10_init_131 : decode cX10_init 131 = .ok (.iconst 0, 1) := by decide +kernel
theorem dX10_init_132 : decode cX10_init 132 = .ok (.putfield 82, 3) := by decide +kernel
theorem dX10_init_135 : decode cX10_init 135 = .ok (.aload_n 0, 1) := by decide +kernel
theorem dX10_init_136 : decode cX10_init 136 = .ok (.iconst 0, 1) := by decide +kernel
theorem dX10_init_137 : decode cX10_init 137 = .ok (.putfield 85, 3) := by decide +kernel
theorem dX10_init_140 : decode cX10_init 140 = .ok (.aload_n 0, 1) := by decide +kernel
theorem dX10_init_141 : decode cX10_init 141 = .ok (.lconst 0, 1) := by decide +kernel
theorem dX10_init_142 : decode cX10_init 142 = .ok (.putfield 88, 3) := by decide +kernel
theorem dX10_init_145 : decode cX10_init 145 = .ok (.return_, 1) := by decide +kernel
theorem dX10_feed_0 : decode cX10_feed 0 = .ok (.aload_n 0, 1) := by decide +kernel
theorem dX10_feed_1 : decode cX10_feed 1 = .ok (.getfield 14, 3) := by decide +kernel
theorem dX10_feed_4 : decode cX10_feed 4 = .ok (.invokevirtual 92, 3) := by decide +kernel
theorem dX10_feed_7 : decode cX10_feed 7 = .ok (.bipush 20, 2) := by decide +kernel
theorem dX10_feed_9 : decode cX10_feed 9 = .ok (.if_icmp .ge 5, 3) := by decide +kernel
theorem dX10_feed_12 : decode cX10_feed 12 = .ok (.iconst (-1), 1) := by decide +kernel
theorem dX10_feed_13 : decode cX10_feed 13 = .ok (.ireturn, 1) := by decide +kernel
theorem dX10_feed_14 : decode cX10_feed 14 = .ok (.aload_n 0, 1) := by decide +kernel
theorem dX10_feed_15 : decode cX10_feed 15 = .ok (.getfield 14, 3) := by decide +kernel
theorem dX10_feed_18 : decode cX10_feed 18 = .ok (.iload_n 1, 1) := by decide +kernel
theorem dX10_feed_19 : decode cX10_feed 19 = .ok (.invokevirtual 96, 3) := by decide +kernel
theorem dX10_feed_22 : decode cX10_feed 22 = .ok (.aload_n 0, 1) := by decide +kernel
theorem dX10_feed_23 : decode cX10_feed 23 = .ok (.getfield 14, 3) := by decide +kernel
theorem dX10_feed_26 : decode cX10_feed 26 = .ok (.iload_n 2, 1) := by decide +kernel
theorem dX10_feed_27 : decode cX10_feed 27 = .ok (.invokevirtual 96, 3) := by decide +kernel
theorem dX10_feed_30 : decode cX10_feed 30 = .ok (.aload_n 0, 1) := by decide +kernel
theorem dX10_feed_31 : decode cX10_feed 31 = .ok (.getfield 14, 3) := by decide +kernel
theorem dX10_feed_34 : decode cX10_feed 34 = .ok (.iload_n 3, 1) := by decide +kernel
theorem dX10_feed_35 : decode cX10_feed 35 = .ok (.invokevirtual 96, 3) := by decide +kernel
theorem dX10_feed_38 : decode cX10_feed 38 = .ok (.aload_n 0, 1) := by decide +kernel
theorem dX10_feed_39 : decode cX10_feed 39 = .ok (.getfield 14, 3) := by decide +kernel
theorem dX10_feed_42 : decode cX10_feed 42 = .ok (.iload 4, 2) := by decide +kernel
theorem dX10_feed_44 : decode cX10_feed 44 = .ok (.invokevirtual 96, 3) := by decide +kernel
theorem dX10_feed_47 : decode cX10_feed 47 = .ok (.aload_n 0, 1) := by decide +kernel
theorem dX10_feed_48 : decode cX10_feed 48 = .ok (.getfield 14, 3) := by decide +kernel
theorem dX10_feed_51 : decode cX10_feed 51 = .ok (.iload 5, 2) := by decide +kernel
theorem dX10_feed_53 : decode cX10_feed 53 = .ok (.invokevirtual 96, 3) := by decide +kernel
theorem dX10_feed_56 : decode cX10_feed 56 = .ok (.aload_n 0, 1) := by decide +kernel
theorem dX10_feed_57 : decode cX10_feed 57 = .ok (.getfield 14, 3) := by decide +kernel
theorem dX10_feed_60 : decode cX10_feed 60 = .ok (.getfield 99, 3) := by decide +kernel
theorem dX10_feed_63 : decode cX10_feed 63 = .ok (.ireturn, 1) := by decide +kernel
theorem dX10_make_0 : decode cX10_make 0 = .ok (.iload_n 1, 1) := by decide +kernel
theorem dX10_make_1 : decode cX10_make 1 = .ok (.iconst 1, 1) := by decide +kernel
theorem dX10_make_2 : decode cX10_make 2 = .ok (.if_icmp .lt 28, 3) := by decide +kernel
theorem dX10_make_5 : decode cX10_make 5 = .ok (.iload_n 1, 1) := by decide +kernel
theorem dX10_make_6 : decode cX10_make 6 = .ok (.iconst 4, 1) := by decide +kernel
theorem dX10_make_7 : decode cX10_make 7 = .ok (.if_icmp .gt 23, 3) := by decide +kernel
theorem dX10_make_10 : decode cX10_make 10 = .ok (.iload_n 1, 1) := by decide +kernel
theorem dX10_make_11 : decode cX10_make 11 = .ok (.aload_n 0, 1) := by decide +kernel
theorem dX10_make_12 : decode cX10_make 12 = .ok (.getfield 14, 3) := by decide +kernel
theorem dX10_make_15 : decode cX10_make 15 = .ok (.getfield 99, 3) := by decide +kernel
theorem dX10_make_18 : decode cX10_make 18 = .ok (.if_icmp .gt 12, 3) := by decide +kernel
theorem dX10_make_21 : decode cX10_make 21 = .ok (.aload_n 0, 1) := by decide +kernel
theorem dX10_make_22 : decode cX10_make 22 = .ok (.getfield 78, 3) := by decide +kernel
theorem dX10_make_25 : decode cX10_make 25 = .ok (.bipush 12, 2) := by decide +kernel
theorem dX10_make_27 : decode cX10_make 27 = .ok (.if_icmp .lt 5, 3) := by decide +kernel
theorem dX10_make_30 : decode cX10_make 30 = .ok (.iconst (-1), 1) := by decide +kernel
theorem dX10_make_31 : decode cX10_make 31 = .ok (.ireturn, 1) := by decide +kernel
theorem dX10_make_32 : decode cX10_make 32 = .ok (.iload_n 2, 1) := by decide +kernel
theorem dX10_make_33 : decode cX10_make 33 = .ok (.invokestatic 102, 3) := by decide +kernel
theorem dX10_make_36 : decode cX10_make 36 = .ok (.ifCond .eq 14, 3) := by decide +kernel
theorem dX10_make_39 : decode cX10_make 39 = .ok (.iload 4, 2) := by decide +kernel
theorem dX10_make_41 : decode cX10_make 41 = .ok (.ifCond .lt 9, 3) := by decide +kernel
theorem dX10_make_44 : decode cX10_make 44 = .ok (.iload 4, 2) := by decide +kernel
theorem dX10_make_46 : decode cX10_make 46 = .ok (.iconst 3, 1) := by decide +kernel
theorem dX10_make_47 : decode cX10_make 47 = .ok (.if_icmp .le 5, 3) := by decide +kernel
theorem dX10_make_50 : decode cX10_make 50 = .ok (.iconst (-1), 1) := by decide +kernel
theorem dX10_make_51 : decode cX10_make 51 = .ok (.ireturn, 1) := by decide +kernel
theorem dX10_make_52 : decode cX10_make 52 = .ok (.aload_n 0, 1) := by decide +kernel
theorem dX10_make_53 : decode cX10_make 53 = .ok (.getfield 78, 3) := by decide +kernel
theorem dX10_make_56 : decode cX10_make 56 = .ok (.istore 5, 2) := by decide +kernel
theorem dX10_make_58 : decode cX10_make 58 = .ok (.aload_n 0, 1) := by decide +kernel
theorem dX10_make_59 : decode cX10_make 59 = .ok (.getfield 23, 3) := by decide +kernel
theorem dX10_make_62 : decode cX10_make 62 = .ok (.iload 5, 2) := by decide +kernel
theorem dX10_make_64 : decode cX10_make 64 = .ok (.new 21, 3) := by decide +kernel
theorem dX10_make_67 : decode cX10_make 67 = .ok (.dup, 1) := by decide +kernel
theorem dX10_make_68 : decode cX10_make 68 = .ok (.aload_n 0, 1) := by decide +kernel
theorem dX10_make_69 : decode cX10_make 69 = .ok (.getfield 14, 3) := by decide +kernel
theorem dX10_make_72 : decode cX10_make 72 = .ok (.iload_n 1, 1) := by decide +kernel
theorem dX10_make_73 : decode cX10_make 73 = .ok (.invokevirtual 106, 3) := by decide +kernel
theorem dX10_make_76 : decode cX10_make 76 = .ok (.iload_n 2, 1) := by decide +kernel
theorem dX10_make_77 : decode cX10_make 77 = .ok (.iload_n 3, 1) := by decide +kernel
theorem dX10_make_78 : decode cX10_make 78 = .ok (.iload 4, 2) := by decide +kernel
theorem dX10_make_80 : decode cX10_make 80 = .ok (.invokespecial 110, 3) := by decide +kernel
theorem dX10_make_83 : decode cX10_make 83 = .ok (.aastore, 1) := by decide +kernel
theorem dX10_make_84 : decode cX10_make 84 = .ok (.aload_n 0, 1) := by decide +kernel
theorem dX10_make_85 : decode cX10_make 85 = .ok (.dup, 1) := by decide +kernel
theorem dX10_make_86 : decode cX10_make 86 = .ok (.getfield 78, 3) := by decide +kernel
theorem dX10_make_89 : decode cX10_make 89 = .ok (.iconst 1, 1) := by decide +kernel
theorem dX10_make_90 : decode cX10_make 90 = .ok (.iadd, 1) := by decide +kernel
theorem dX10_make_91 : decode cX10_make 91 = .ok (.putfield 78, 3) := by decide +kernel
theorem dX10_make_94 : decode cX10_make 94 = .ok (.aload_n 0, 1) := by decide +kernel
theorem dX10_make_95 : decode cX10_make 95 = .ok (.getfield 14, 3) := by decide +kernel
theorem dX10_make_98 : decode cX10_make 98 = .ok (.invokevirtual 113, 3) := by decide +kernel
theorem dX10_make_101 : decode cX10_make 101 = .ok (.iconst 0, 1) := by decide +kernel
theorem dX10_make_102 : decode cX10_make 102 = .ok (.istore 6, 2) := by decide +kernel
theorem dX10_make_104 : decode cX10_make 104 = .ok (.iload 6, 2) := by decide +kernel
theorem dX10_make_106 : decode cX10_make 106 = .ok (.aload_n 0, 1) := by decide +kernel
theorem dX10_make_107 : decode cX10_make 107 = .ok (.getfield 82, 3) := by decide +kernel
theorem dX10_make_110 : decode cX10_make 110 = .ok (.if_icmp .ge 22, 3) := by decide +kernel
theorem dX10_make_113 : decode cX10_make 113 = .ok (.aload_n 0, 1) := by decide +kernel
theorem dX10_make_114 : decode cX10_make 114 = .ok (.aload_n 0, 1) := by decide +kernel
theorem dX10_make_115 : decode cX10_make 115 = .ok (.getfield 29, 3) := by decide +kernel
theorem dX10_make_118 : decode cX10_make 118 = .ok (.iload 6, 2) := by decide +kernel
theorem dX10_make_120 : decode cX10_make 120 = .ok (.aaload, 1) := by decide +kernel
theorem dX10_make_121 : decode cX10_make 121 = .ok (.iload 5, 2) := by decide +kernel
theorem dX10_make_123 : decode cX10_make 123 = .ok (.invokevirtual 116, 3) := by decide +kernel
theorem dX10_make_126 : decode cX10_make 126 = .ok (.iinc 6 1, 3) := by decide +kernel
theorem dX10_make_129 : decode cX10_make 129 = .ok (.goto (-25), 3) := by decide +kernel
theorem dX10_make_132 : decode cX10_make 132 = .ok (.iload 5, 2) := by decide +kernel
theorem dX10_make_134 : decode cX10_make 134 = .ok (.ireturn, 1) := by decide +kernel
theorem dX10_file_0 : decode cX10_file 0 = .ok (.iload_n 1, 1) := by decide +kernel
theorem dX10_file_1 : decode cX10_file 1 = .ok (.iconst 1, 1) := by decide +kernel
theorem dX10_file_2 : decode cX10_file 2 = .ok (.if_icmp .lt 29, 3) := by decide +kernel
theorem dX10_file_5 : decode cX10_file 5 = .ok (.iload_n 1, 1) := by decide +kernel
theorem dX10_file_6 : decode cX10_file 6 = .ok (.bipush 60, 2) := by decide +kernel
theorem dX10_file_8 : decode cX10_file 8 = .ok (.if_icmp .gt 23, 3) := by decide +kernel
theorem dX10_file_11 : decode cX10_file 11 = .ok (.iload_n 1, 1) := by decide +kernel
theorem dX10_file_12 : decode cX10_file 12 = .ok (.aload_n 0, 1) := by decide +kernel
theorem dX10_file_13 : decode cX10_file 13 = .ok (.getfield 14, 3) := by decide +kernel
theorem dX10_file_16 : decode cX10_file 16 = .ok (.getfield 99, 3) := by decide +kernel
theorem dX10_file_19 : decode cX10_file 19 = .ok (.if_icmp .gt 12, 3) := by decide +kernel
theorem dX10_file_22 : decode cX10_file 22 = .ok (.aload_n 0, 1) := by decide +kernel
theorem dX10_file_23 : decode cX10_file 23 = .ok (.getfield 82, 3) := by decide +kernel
theorem dX10_file_26 : decode cX10_file 26 = .ok (.bipush 40, 2) := by decide +kernel
theorem dX10_file_28 : decode cX10_file 28 = .ok (.if_icmp .lt 5, 3) := by decide +kernel
theorem dX10_file_31 : decode cX10_file 31 = .ok (.iconst (-1), 1) := by decide +kernel
theorem dX10_file_32 : decode cX10_file 32 = .ok (.ireturn, 1) := by decide +kernel
theorem dX10_file_33 : decode cX10_file 33 = .ok (.aload_n 0, 1) := by decide +kernel
theorem dX10_file_34 : decode cX10_file 34 = .ok (.aload_n 0, 1) := by decide +kernel
theorem dX10_file_35 : decode cX10_file 35 = .ok (.getfield 14, 3) := by decide +kernel
theorem dX10_file_38 : decode cX10_file 38 = .ok (.iload_n 1, 1) := by decide +kernel
theorem dX10_file_39 : decode cX10_file 39 = .ok (.invokevirtual 106, 3) := by decide +kernel
theorem dX10_file_42 : decode cX10_file 42 = .ok (.iconst (-1), 1) := by decide +kernel
theorem dX10_file_43 : decode cX10_file 43 = .ok (.aload_n 0, 1) := by decide +kernel
theorem dX10_file_44 : decode cX10_file 44 = .ok (.getfield 82, 3) := by decide +kernel
theorem dX10_file_47 : decode cX10_file 47 = .ok (.invokevirtual 120, 3) := by decide +kernel
theorem dX10_file_50 : decode cX10_file 50 = .ok (.istore_n 2, 1) := by decide +kernel
theorem dX10_file_51 : decode cX10_file 51 = .ok (.aload_n 0, 1) := by decide +kernel
theorem dX10_file_52 : decode cX10_file 52 = .ok (.getfield 14, 3) := by decide +kernel
theorem dX10_file_55 : decode cX10_file 55 = .ok (.invokevirtual 113, 3) := by decide +kernel
theorem dX10_file_58 : decode cX10_file 58 = .ok (.iload_n 2, 1) := by decide +kernel
theorem dX10_file_59 : decode cX10_file 59 = .ok (.ireturn, 1) := by decide +kernel
theorem dX10_must_0 : decode cX10_must 0 = .ok (.aload_n 0, 1) := by decide +kernel
theorem dX10_must_1 : decode cX10_must 1 = .ok (.iload_n 1, 1) := by decide +kernel
theorem dX10_must_2 : decode cX10_must 2 = .ok (.invokevirtual 124, 3) := by decide +kernel
theorem dX10_must_5 : decode cX10_must 5 = .ok (.astore_n 3, 1) := by decide +kernel
theorem dX10_must_6 : decode cX10_must 6 = .ok (.aload_n 3, 1) := by decide +kernel
theorem dX10_must_7 : decode cX10_must 7 = .ok (.ifnull 10, 3) := by decide +kernel
theorem dX10_must_10 : decode cX10_must 10 = .ok (.iload_n 2, 1) := by decide +kernel
theorem dX10_must_11 : decode cX10_must 11 = .ok (.invokestatic 102, 3) := by decide +kernel
theorem dX10_must_14 : decode cX10_must 14 = .ok (.ifCond .ne 5, 3) := by decide +kernel
theorem dX10_must_17 : decode cX10_must 17 = .ok (.iconst 0, 1) := by decide +kernel
theorem dX10_must_18 : decode cX10_must 18 = .ok (.ireturn, 1) := by decide +kernel
theorem dX10_must_19 : decode cX10_must 19 = .ok (.aload_n 3, 1) := by decide +kernel
theorem dX10_must_20 : decode cX10_must 20 = .ok (.iload_n 2, 1) := by decide +kernel
theorem dX10_must_21 : decode cX10_must 21 = .ok (.putfield 128, 3) := by decide +kernel
theorem dX10_must_24 : decode cX10_must 24 = .ok (.iconst 1, 1) := by decide +kernel
theorem dX10_must_25 : decode cX10_must 25 = .ok (.ireturn, 1) := by decide +kernel
theorem dX10_machine_0 : decode cX10_machine 0 = .ok (.aload_n 0, 1) := by decide +kernel
theorem dX10_machine_1 : decode cX10_machine 1 = .ok (.getfield 36, 3) := by decide +kernel
theorem dX10_machine_4 : decode cX10_machine 4 = .ok (.iload_n 1, 1) := by decide +kernel
theorem dX10_machine_5 : decode cX10_machine 5 = .ok (.invokevirtual 131, 3) := by decide +kernel
theorem dX10_machine_8 : decode cX10_machine 8 = .ok (.ifCond .eq 22, 3) := by decide +kernel
theorem dX10_machine_11 : decode cX10_machine 11 = .ok (.iload_n 2, 1) := by decide +kernel
theorem dX10_machine_12 : decode cX10_machine 12 = .ok (.invokestatic 134, 3) := by decide +kernel
theorem dX10_machine_15 : decode cX10_machine 15 = .ok (.ifCond .eq 15, 3) := by decide +kernel
theorem dX10_machine_18 : decode cX10_machine 18 = .ok (.iload_n 3, 1) := by decide +kernel
theorem dX10_machine_19 : decode cX10_machine 19 = .ok (.invokestatic 134, 3) := by decide +kernel
theorem dX10_machine_22 : decode cX10_machine 22 = .ok (.ifCond .eq 8, 3) := by decide +kernel
theorem dX10_machine_25 : decode cX10_machine 25 = .ok (.iload_n 3, 1) := by decide +kernel
theorem dX10_machine_26 : decode cX10_machine 26 = .ok (.iload_n 2, 1) := by decide +kernel
theorem dX10_machine_27 : decode cX10_machine 27 = .ok (.if_icmp .ge 5, 3) := by decide +kernel
theorem dX10_machine_30 : decode cX10_machine 30 = .ok (.iconst 0, 1) := by decide +kernel
theorem dX10_machine_31 : decode cX10_machine 31 = .ok (.ireturn, 1) := by decide +kernel
theorem dX10_machine_32 : decode cX10_machine 32 = .ok (.aload_n 0, 1) := by decide +kernel
theorem dX10_machine_33 : decode cX10_machine 33 = .ok (.getfield 36, 3) := by decide +kernel
theorem dX10_machine_36 : decode cX10_machine 36 = .ok (.iload_n 1, 1) := by decide +kernel
theorem dX10_machine_37 : decode cX10_machine 37 = .ok (.iload_n 2, 1) := by decide +kernel
theorem dX10_machine_38 : decode cX10_machine 38 = .ok (.iload_n 3, 1) := by decide +kernel
theorem dX10_machine_39 : decode cX10_machine 39 = .ok (.invokevirtual 137, 3) := by decide +kernel
theorem dX10_machine_42 : decode cX10_machine 42 = .ok (.iconst 1, 1) := by decide +kernel
theorem dX10_machine_43 : decode cX10_machine 43 = .ok (.ireturn, 1) := by decide +kernel
theorem dX10_reader_0 : decode cX10_reader 0 = .ok (.aload_n 0, 1) := by decide +kernel
theorem dX10_reader_1 : decode cX10_reader 1 = .ok (.iload_n 1, 1) := by decide +kernel
theorem dX10_reader_2 : decode cX10_reader 2 = .ok (.invokevirtual 141, 3) := by decide +kernel
theorem dX10_reader_5 : decode cX10_reader 5 = .ok (.ifnull 14, 3) := by decide +kernel
theorem dX10_reader_8 : decode cX10_reader 8 = .ok (.aload_n 0, 1) := by decide +kernel
theorem dX10_reader_9 : decode cX10_reader 9 = .ok (.getfield 36, 3) := by decide +kernel
theorem dX10_reader_12 : decode cX10_reader 12 = .ok (.iload_n 2, 1) := by decide +kernel
theorem dX10_reader_13 : decode cX10_reader 13 = .ok (.invokevirtual 131, 3) := by decide +kernel
theorem dX10_reader_16 : decode cX10_reader 16 = .ok (.ifCond .ne 5, 3) := by decide +kernel
theorem dX10_reader_19 : decode cX10_reader 19 = .ok (.iconst 0, 1) := by decide +kernel
theorem dX10_reader_20 : decode cX10_reader 20 = .ok (.ireturn, 1) := by decide +kernel
theorem dX10_reader_21 : decode cX10_reader 21 = .ok (.aload_n 0, 1) := by decide +kernel
theorem dX10_reader_22 : decode cX10_reader 22 = .ok (.getfield 43, 3) := by decide +kernel
theorem dX10_reader_25 : decode cX10_reader 25 = .ok (.iload_n 1, 1) := by decide +kernel
theorem dX10_reader_26 : decode cX10_reader 26 = .ok (.iload_n 2, 1) := by decide +kernel
theorem dX10_reader_27 : decode cX10_reader 27 = .ok (.invokevirtual 145, 3) := by decide +kernel
theorem dX10_reader_30 : decode cX10_reader 30 = .ok (.ireturn, 1) := by decide +kernel
theorem dX10_turner_0 : decode cX10_turner 0 = .ok (.aload_n 0, 1) := by decide +kernel
theorem dX10_turner_1 : decode cX10_turner 1 = .ok (.iload_n 2, 1) := by decide +kernel
theorem dX10_turner_2 : decode cX10_turner 2 = .ok (.invokevirtual 141, 3) := by decide +kernel
theorem dX10_turner_5 : decode cX10_turner 5 = .ok (.astore 6, 2) := by decide +kernel
theorem dX10_turner_7 : decode cX10_turner 7 = .ok (.aload_n 0, 1) := by decide +kernel
theorem dX10_turner_8 : decode cX10_turner 8 = .ok (.iload_n 1, 1) := by decide +kernel
theorem dX10_turner_9 : decode cX10_turner 9 = .ok (.invokevirtual 141, 3) := by decide +kernel
theorem dX10_turner_12 : decode cX10_turner 12 = .ok (.ifnull 13, 3) := by decide +kernel
theorem dX10_turner_15 : decode cX10_turner 15 = .ok (.aload 6, 2) := by decide +kernel
theorem dX10_turner_17 : decode cX10_turner 17 = .ok (.ifnull 8, 3) := by decide +kernel
theorem dX10_turner_20 : decode cX10_turner 20 = .ok (.iload_n 1, 1) := by decide +kernel
theorem dX10_turner_21 : decode cX10_turner 21 = .ok (.iload_n 2, 1) := by decide +kernel
theorem dX10_turner_22 : decode cX10_turner 22 = .ok (.if_icmp .ne 5, 3) := by decide +kernel
theorem dX10_turner_25 : decode cX10_turner 25 = .ok (.iconst (-1), 1) := by decide +kernel
theorem dX10_turner_26 : decode cX10_turner 26 = .ok (.ireturn, 1) := by decide +kernel
theorem dX10_turner_27 : decode cX10_turner 27 = .ok (.iload_n 3, 1) := by decide +kernel
theorem dX10_turner_28 : decode cX10_turner 28 = .ok (.invokestatic 102, 3) := by decide +kernel
theorem dX10_turner_31 : decode cX10_turner 31 = .ok (.ifCond .eq 28, 3) := by decide +kernel
theorem dX10_turner_34 : decode cX10_turner 34 = .ok (.iload 4, 2) := by decide +kernel
theorem dX10_turner_36 : decode cX10_turner 36 = .ok (.ifCond .lt 23, 3) := by decide +kernel
theorem dX10_turner_39 : decode cX10_turner 39 = .ok (.iload 4, 2) := by decide +kernel
theorem dX10_turner_41 : decode cX10_turner 41 = .ok (.sipush 9999, 3) := by decide +kernel
theorem dX10_turner_44 : decode cX10_turner 44 = .ok (.if_icmp .gt 15, 3) := by decide +kernel
theorem dX10_turner_47 : decode cX10_turner 47 = .ok (.aload_n 0, 1) := by decide +kernel
theorem dX10_turner_48 : decode cX10_turner 48 = .ok (.getfield 36, 3) := by decide +kernel
theorem dX10_turner_51 : decode cX10_turner 51 = .ok (.iload 5, 2) := by decide +kernel
theorem dX10_turner_53 : decode cX10_turner 53 = .ok (.invokevirtual 131, 3) := by decide +kernel
theorem dX10_turner_56 : decode cX10_turner 56 = .ok (.ifCond .ne 5, 3) := by decide +kernel
theorem dX10_turner_59 : decode cX10_turner 59 = .ok (.iconst (-1), 1) := by decide +kernel
theorem dX10_turner_60 : decode cX10_turner 60 = .ok (.ireturn, 1) := by decide +kernel
theorem dX10_turner_61 : decode cX10_turner 61 = .ok (.aload_n 0, 1) := by decide +kernel
theorem dX10_turner_62 : decode cX10_turner 62 = .ok (.getfield 50, 3) := by decide +kernel
theorem dX10_turner_65 : decode cX10_turner 65 = .ok (.iload_n 1, 1) := by decide +kernel
theorem dX10_turner_66 : decode cX10_turner 66 = .ok (.iload_n 2, 1) := by decide +kernel
theorem dX10_turner_67 : decode cX10_turner 67 = .ok (.aload 6, 2) := by decide +kernel
theorem dX10_turner_69 : decode cX10_turner 69 = .ok (.getfield 149, 3) := by decide +kernel
theorem dX10_turner_72 : decode cX10_turner 72 = .ok (.iload_n 3, 1) := by decide +kernel
theorem dX10_turner_73 : decode cX10_turner 73 = .ok (.iconst (-1), 1) := by decide +kernel
theorem dX10_turner_74 : decode cX10_turner 74 = .ok (.ixor, 1) := by decide +kernel
theorem dX10_turner_75 : decode cX10_turner 75 = .ok (.iand, 1) := by decide +kernel
theorem dX10_turner_76 : decode cX10_turner 76 = .ok (.iload 4, 2) := by decide +kernel
theorem dX10_turner_78 : decode cX10_turner 78 = .ok (.iload 5, 2) := by decide +kernel
theorem dX10_turner_80 : decode cX10_turner 80 = .ok (.invokevirtual 152, 3) := by decide +kernel
theorem dX10_turner_83 : decode cX10_turner 83 = .ok (.ireturn, 1) := by decide +kernel
theorem dX10_year_0 : decode cX10_year 0 = .ok (.aload_n 0, 1) := by decide +kernel
theorem dX10_year_1 : decode cX10_year 1 = .ok (.iload_n 1, 1) := by decide +kernel
theorem dX10_year_2 : decode cX10_year 2 = .ok (.invokevirtual 155, 3) := by decide +kernel
theorem dX10_year_5 : decode cX10_year 5 = .ok (.ifCond .ne 5, 3) := by decide +kernel
theorem dX10_year_8 : decode cX10_year 8 = .ok (.iconst 0, 1) := by decide +kernel
theorem dX10_year_9 : decode cX10_year 9 = .ok (.ireturn, 1) := by decide +kernel
theorem dX10_year_10 : decode cX10_year 10 = .ok (.aload_n 0, 1) := by decide +kernel
theorem dX10_year_11 : decode cX10_year 11 = .ok (.iload_n 1, 1) := by decide +kernel
theorem dX10_year_12 : decode cX10_year 12 = .ok (.putfield 85, 3) := by decide +kernel
theorem dX10_year_15 : decode cX10_year 15 = .ok (.iconst 1, 1) := by decide +kernel
theorem dX10_year_16 : decode cX10_year 16 = .ok (.ireturn, 1) := by decide +kernel
theorem dX10_bends_0 : decode cX10_bends 0 = .ok (.aload_n 0, 1) := by decide +kernel
theorem dX10_bends_1 : decode cX10_bends 1 = .ok (.iload_n 1, 1) := by decide +kernel
theorem dX10_bends_2 : decode cX10_bends 2 = .ok (.invokevirtual 124, 3) := by decide +kernel
theorem dX10_bends_5 : decode cX10_bends 5 = .ok (.astore_n 3, 1) := by decide +kernel
theorem dX10_bends_6 : decode cX10_bends 6 = .ok (.aload_n 0, 1) := by decide +kernel
theorem dX10_bends_7 : decode cX10_bends 7 = .ok (.iload_n 2, 1) := by decide +kernel
theorem dX10_bends_8 : decode cX10_bends 8 = .ok (.invokevirtual 141, 3) := by decide +kernel
theorem dX10_bends_11 : decode cX10_bends 11 = .ok (.astore 4, 2) := by decide +kernel
theorem dX10_bends_13 : decode cX10_bends 13 = .ok (.aload_n 3, 1) := by decide +kernel
theorem dX10_bends_14 : decode cX10_bends 14 = .ok (.ifnull 8, 3) := by decide +kernel
theorem dX10_bends_17 : decode cX10_bends 17 = .ok (.aload 4, 2) := by decide +kernel
theorem dX10_bends_19 : decode cX10_bends 19 = .ok (.ifnonnull 5, 3) := by decide +kernel
theorem dX10_bends_22 : decode cX10_bends 22 = .ok (.iconst (-1), 1) := by decide +kernel
theorem dX10_bends_23 : decode cX10_bends 23 = .ok (.ireturn, 1) := by decide +kernel
theorem dX10_bends_24 : decode cX10_bends 24 = .ok (.aload_n 0, 1) := by decide +kernel
theorem dX10_bends_25 : decode cX10_bends 25 = .ok (.getfield 71, 3) := by decide +kernel
theorem dX10_bends_28 : decode cX10_bends 28 = .ok (.aload 4, 2) := by decide +kernel
theorem dX10_bends_30 : decode cX10_bends 30 = .ok (.aload_n 3, 1) := by decide +kernel
theorem dX10_bends_31 : decode cX10_bends 31 = .ok (.getfield 158, 3) := by decide +kernel
theorem dX10_bends_34 : decode cX10_bends 34 = .ok (.invokevirtual 162, 3) := by decide +kernel
theorem dX10_bends_37 : decode cX10_bends 37 = .ok (.aload_n 0, 1) := by decide +kernel
theorem dX10_bends_38 : decode cX10_bends 38 = .ok (.getfield 71, 3) := by decide +kernel
theorem dX10_bends_41 : decode cX10_bends 41 = .ok (.getfield 166, 3) := by decide +kernel
theorem dX10_bends_44 : decode cX10_bends 44 = .ok (.ireturn, 1) := by decide +kernel
theorem dX10_know_0 : decode cX10_know 0 = .ok (.aload_n 0, 1) := by decide +kernel
theorem dX10_know_1 : decode cX10_know 1 = .ok (.iload_n 1, 1) := by decide +kernel
theorem dX10_know_2 : decode cX10_know 2 = .ok (.invokevirtual 124, 3) := by decide +kernel
theorem dX10_know_5 : decode cX10_know 5 = .ok (.astore_n 2, 1) := by decide +kernel
theorem dX10_know_6 : decode cX10_know 6 = .ok (.aload_n 2, 1) := by decide +kernel
theorem dX10_know_7 : decode cX10_know 7 = .ok (.ifnonnull 7, 3) := by decide +kernel
theorem dX10_know_10 : decode cX10_know 10 = .ok (.iconst (-1), 1) := by decide +kernel
theorem dX10_know_11 : decode cX10_know 11 = .ok (.goto 7, 3) := by decide +kernel
theorem dX10_know_14 : decode cX10_know 14 = .ok (.aload_n 2, 1) := by decide +kernel
theorem dX10_know_15 : decode cX10_know 15 = .ok (.getfield 169, 3) := by decide +kernel
theorem dX10_know_18 : decode cX10_know 18 = .ok (.ireturn, 1) := by decide +kernel
theorem dX10_record_0 : decode cX10_record 0 = .ok (.aload_n 0, 1) := by decide +kernel
theorem dX10_record_1 : decode cX10_record 1 = .ok (.iload_n 1, 1) := by decide +kernel
theorem dX10_record_2 : decode cX10_record 2 = .ok (.invokevirtual 124, 3) := by decide +kernel
theorem dX10_record_5 : decode cX10_record 5 = .ok (.astore 4, 2) := by decide +kernel
theorem dX10_record_7 : decode cX10_record 7 = .ok (.aload 4, 2) := by decide +kernel
theorem dX10_record_9 : decode cX10_record 9 = .ok (.ifnonnull 5, 3) := by decide +kernel
theorem dX10_record_12 : decode cX10_record 12 = .ok (.iconst (-1), 1) := by decide +kernel
theorem dX10_record_13 : decode cX10_record 13 = .ok (.ireturn, 1) := by decide +kernel
theorem dX10_record_14 : decode cX10_record 14 = .ok (.aload_n 0, 1) := by decide +kernel
theorem dX10_record_15 : decode cX10_record 15 = .ok (.aload 4, 2) := by decide +kernel
theorem dX10_record_17 : decode cX10_record 17 = .ok (.aload_n 0, 1) := by decide +kernel
theorem dX10_record_18 : decode cX10_record 18 = .ok (.getfield 71, 3) := by decide +kernel
theorem dX10_record_21 : decode cX10_record 21 = .ok (.invokevirtual 172, 3) := by decide +kernel
theorem dX10_record_24 : decode cX10_record 24 = .ok (.iload_n 2, 1) := by decide +kernel
theorem dX10_record_25 : decode cX10_record 25 = .ok (.ifCond .lt 14, 3) := by decide +kernel
theorem dX10_record_28 : decode cX10_record 28 = .ok (.iload_n 2, 1) := by decide +kernel
theorem dX10_record_29 : decode cX10_record 29 = .ok (.aload_n 0, 1) := by decide +kernel
theorem dX10_record_30 : decode cX10_record 30 = .ok (.getfield 71, 3) := by decide +kernel
theorem dX10_record_33 : decode cX10_record 33 = .ok (.getfield 176, 3) := by decide +kernel
theorem dX10_record_36 : decode cX10_record 36 = .ok (.if_icmp .lt 5, 3) := by decide +kernel
theorem dX10_record_39 : decode cX10_record 39 = .ok (.iconst (-1), 1) := by decide +kernel
theorem dX10_record_40 : decode cX10_record 40 = .ok (.ireturn, 1) := by decide +kernel
theorem dX10_record_41 : decode cX10_record 41 = .ok (.iload_n 3, 1) := by decide +kernel
theorem dX10_record_42 : decode cX10_record 42 = .ok (.tableswitch 56 0 2 #[26, 36, 46], 26) := by decide +kernel
theorem dX10_record_68 : decode cX10_record 68 = .ok (.aload_n 0, 1) := by decide +kernel
theorem dX10_record_69 : decode cX10_record 69 = .ok (.getfield 71, 3) := by decide +kernel
theorem dX10_record_72 : decode cX10_record 72 = .ok (.getfield 177, 3) := by decide +kernel
theorem dX10_record_75 : decode cX10_record 75 = .ok (.iload_n 2, 1) := by decide +kernel
theorem dX10_record_76 : decode cX10_record 76 = .ok (.iaload, 1) := by decide +kernel
theorem dX10_record_77 : decode cX10_record 77 = .ok (.ireturn, 1) := by decide +kernel
theorem dX10_record_78 : decode cX10_record 78 = .ok (.aload_n 0, 1) := by decide +kernel
theorem dX10_record_79 : decode cX10_record 79 = .ok (.getfield 71, 3) := by decide +kernel
theorem dX10_record_82 : decode cX10_record 82 = .ok (.getfield 180, 3) := by decide +kernel
theorem dX10_record_85 : decode cX10_record 85 = .ok (.iload_n 2, 1) := by decide +kernel
theorem dX10_record_86 : decode cX10_record 86 = .ok (.iaload, 1) := by decide +kernel
theorem dX10_record_87 : decode cX10_record 87 = .ok (.ireturn, 1) := by decide +kernel
theorem dX10_record_88 : decode cX10_record 88 = .ok (.aload_n 0, 1) := by decide +kernel
theorem dX10_record_89 : decode cX10_record 89 = .ok (.getfield 71, 3) := by decide +kernel
theorem dX10_record_92 : decode cX10_record 92 = .ok (.getfield 183, 3) := by decide +kernel
theorem dX10_record_95 : decode cX10_record 95 = .ok (.iload_n 2, 1) := by decide +kernel
theorem dX10_record_96 : decode cX10_record 96 = .ok (.iaload, 1) := by decide +kernel
theorem dX10_record_97 : decode cX10_record 97 = .ok (.ireturn, 1) := by decide +kernel
theorem dX10_record_98 : decode cX10_record 98 = .ok (.iconst (-1), 1) := by decide +kernel
theorem dX10_record_99 : decode cX10_record 99 = .ok (.ireturn, 1) := by decide +kernel
theorem dX10_turn_0 : decode cX10_turn 0 = .ok (.aload_n 0, 1) := by decide +kernel
theorem dX10_turn_1 : decode cX10_turn 1 = .ok (.iload_n 1, 1) := by decide +kernel
theorem dX10_turn_2 : decode cX10_turn 2 = .ok (.invokevirtual 124, 3) := by decide +kernel
theorem dX10_turn_5 : decode cX10_turn 5 = .ok (.astore_n 3, 1) := by decide +kernel
theorem dX10_turn_6 : decode cX10_turn 6 = .ok (.aload_n 0, 1) := by decide +kernel
theorem dX10_turn_7 : decode cX10_turn 7 = .ok (.getfield 50, 3) := by decide +kernel
theorem dX10_turn_10 : decode cX10_turn 10 = .ok (.iload_n 2, 1) := by decide +kernel
theorem dX10_turn_11 : decode cX10_turn 11 = .ok (.invokevirtual 186, 3) := by decide +kernel
theorem dX10_turn_14 : decode cX10_turn 14 = .ok (.astore 4, 2) := by decide +kernel
theorem dX10_turn_16 : decode cX10_turn 16 = .ok (.aload_n 3, 1) := by decide +kernel
theorem dX10_turn_17 : decode cX10_turn 17 = .ok (.ifnull 20, 3) := by decide +kernel
theorem dX10_turn_20 : decode cX10_turn 20 = .ok (.aload 4, 2) := by decide +kernel
theorem dX10_turn_22 : decode cX10_turn 22 = .ok (.ifnull 15, 3) := by decide +kernel
theorem dX10_turn_25 : decode cX10_turn 25 = .ok (.aload_n 3, 1) := by decide +kernel
theorem dX10_turn_26 : decode cX10_turn 26 = .ok (.getfield 169, 3) := by decide +kernel
theorem dX10_turn_29 : decode cX10_turn 29 = .ok (.aload 4, 2) := by decide +kernel
theorem dX10_turn_31 : decode cX10_turn 31 = .ok (.getfield 190, 3) := by decide +kernel
theorem dX10_turn_34 : decode cX10_turn 34 = .ok (.if_icmp .eq 5, 3) := by decide +kernel
theorem dX10_turn_37 : decode cX10_turn 37 = .ok (.iconst (-1), 1) := by decide +kernel
theorem dX10_turn_38 : decode cX10_turn 38 = .ok (.ireturn, 1) := by decide +kernel
theorem dX10_turn_39 : decode cX10_turn 39 = .ok (.aload_n 0, 1) := by decide +kernel
theorem dX10_turn_40 : decode cX10_turn 40 = .ok (.getfield 36, 3) := by decide +kernel
theorem dX10_turn_43 : decode cX10_turn 43 = .ok (.aload 4, 2) := by decide +kernel
theorem dX10_turn_45 : decode cX10_turn 45 = .ok (.getfield 195, 3) := by decide +kernel
theorem dX10_turn_48 : decode cX10_turn 48 = .ok (.aload_n 0, 1) := by decide +kernel
theorem dX10_turn_49 : decode cX10_turn 49 = .ok (.getfield 85, 3) := by decide +kernel
theorem dX10_turn_52 : decode cX10_turn 52 = .ok (.invokevirtual 198, 3) := by decide +kernel
theorem dX10_turn_55 : decode cX10_turn 55 = .ok (.ifCond .eq 12, 3) := by decide +kernel
theorem dX10_turn_58 : decode cX10_turn 58 = .ok (.aload_n 0, 1) := by decide +kernel
theorem dX10_turn_59 : decode cX10_turn 59 = .ok (.getfield 82, 3) := by decide +kernel
theorem dX10_turn_62 : decode cX10_turn 62 = .ok (.bipush 40, 2) := by decide +kernel
theorem dX10_turn_64 : decode cX10_turn 64 = .ok (.if_icmp .lt 5, 3) := by decide +kernel
theorem dX10_turn_67 : decode cX10_turn 67 = .ok (.iconst (-1), 1) := by decide +kernel
theorem dX10_turn_68 : decode cX10_turn 68 = .ok (.ireturn, 1) := by decide +kernel
theorem dX10_turn_69 : decode cX10_turn 69 = .ok (.aload_n 0, 1) := by decide +kernel
theorem dX10_turn_70 : decode cX10_turn 70 = .ok (.aload_n 3, 1) := by decide +kernel
theorem dX10_turn_71 : decode cX10_turn 71 = .ok (.aload 4, 2) := by decide +kernel
theorem dX10_turn_73 : decode cX10_turn 73 = .ok (.invokevirtual 201, 3) := by decide +kernel
theorem dX10_turn_76 : decode cX10_turn 76 = .ok (.ifCond .ne 5, 3) := by decide +kernel
theorem dX10_turn_79 : decode cX10_turn 79 = .ok (.iconst (-1), 1) := by decide +kernel
theorem dX10_turn_80 : decode cX10_turn 80 = .ok (.ireturn, 1) := by decide +kernel
theorem dX10_turn_81 : decode cX10_turn 81 = .ok (.aload_n 3, 1) := by decide +kernel
theorem dX10_turn_82 : decode cX10_turn 82 = .ok (.iconst 1, 1) := by decide +kernel
theorem dX10_turn_83 : decode cX10_turn 83 = .ok (.putfield 205, 3) := by decide +kernel
theorem dX10_turn_86 : decode cX10_turn 86 = .ok (.aload_n 0, 1) := by decide +kernel
theorem dX10_turn_87 : decode cX10_turn 87 = .ok (.aload_n 0, 1) := by decide +kernel
theorem dX10_turn_88 : decode cX10_turn 88 = .ok (.getfield 18, 3) := by decide +kernel
theorem dX10_turn_91 : decode cX10_turn 91 = .ok (.aload_n 0, 1) := by decide +kernel
theorem dX10_turn_92 : decode cX10_turn 92 = .ok (.getfield 18, 3) := by decide +kernel
theorem dX10_turn_95 : decode cX10_turn 95 = .ok (.getfield 99, 3) := by decide +kernel
theorem dX10_turn_98 : decode cX10_turn 98 = .ok (.invokevirtual 106, 3) := by decide +kernel
theorem dX10_turn_101 : decode cX10_turn 101 = .ok (.iload_n 1, 1) := by decide +kernel
theorem dX10_turn_102 : decode cX10_turn 102 = .ok (.aload_n 3, 1) := by decide +kernel
theorem dX10_turn_103 : decode cX10_turn 103 = .ok (.getfield 209, 3) := by decide +kernel
theorem dX10_turn_106 : decode cX10_turn 106 = .ok (.invokevirtual 120, 3) := by decide +kernel
theorem dX10_turn_109 : decode cX10_turn 109 = .ok (.ireturn, 1) := by decide +kernel
theorem dX10_kept_0 : decode cX10_kept 0 = .ok (.aload_n 0, 1) := by decide +kernel
theorem dX10_kept_1 : decode cX10_kept 1 = .ok (.iload_n 1, 1) := by decide +kernel
theorem dX10_kept_2 : decode cX10_kept 2 = .ok (.invokevirtual 124, 3) := by decide +kernel
theorem dX10_kept_5 : decode cX10_kept 5 = .ok (.astore_n 3, 1) := by decide +kernel
theorem dX10_kept_6 : decode cX10_kept 6 = .ok (.aload_n 0, 1) := by decide +kernel
theorem dX10_kept_7 : decode cX10_kept 7 = .ok (.iload_n 2, 1) := by decide +kernel
theorem dX10_kept_8 : decode cX10_kept 8 = .ok (.invokevirtual 124, 3) := by decide +kernel
theorem dX10_kept_11 : decode cX10_kept 11 = .ok (.astore 4, 2) := by decide +kernel
theorem dX10_kept_13 : decode cX10_kept 13 = .ok (.aload_n 3, 1) := by decide +kernel
theorem dX10_kept_14 : decode cX10_kept 14 = .ok (.ifnull 8, 3) := by decide +kernel
theorem dX10_kept_17 : decode cX10_kept 17 = .ok (.aload 4, 2) := by decide +kernel
theorem dX10_kept_19 : decode cX10_kept 19 = .ok (.ifnonnull 5, 3) := by decide +kernel
theorem dX10_kept_22 : decode cX10_kept 22 = .ok (.iconst (-1), 1) := by decide +kernel
theorem dX10_kept_23 : decode cX10_kept 23 = .ok (.ireturn, 1) := by decide +kernel
theorem dX10_kept_24 : decode cX10_kept 24 = .ok (.aload_n 0, 1) := by decide +kernel
theorem dX10_kept_25 : decode cX10_kept 25 = .ok (.aload_n 3, 1) := by decide +kernel
theorem dX10_kept_26 : decode cX10_kept 26 = .ok (.aload_n 0, 1) := by decide +kernel
theorem dX10_kept_27 : decode cX10_kept 27 = .ok (.getfield 71, 3) := by decide +kernel
theorem dX10_kept_30 : decode cX10_kept 30 = .ok (.invokevirtual 172, 3) := by decide +kernel
theorem dX10_kept_33 : decode cX10_kept 33 = .ok (.aload_n 0, 1) := by decide +kernel
theorem dX10_kept_34 : decode cX10_kept 34 = .ok (.aload 4, 2) := by decide +kernel
theorem dX10_kept_36 : decode cX10_kept 36 = .ok (.aload_n 0, 1) := by decide +kernel
theorem dX10_kept_37 : decode cX10_kept 37 = .ok (.getfield 75, 3) := by decide +kernel
theorem dX10_kept_40 : decode cX10_kept 40 = .ok (.invokevirtual 172, 3) := by decide +kernel
theorem dX10_kept_43 : decode cX10_kept 43 = .ok (.iconst 0, 1) := by decide +kernel
theorem dX10_kept_44 : decode cX10_kept 44 = .ok (.istore 5, 2) := by decide +kernel
theorem dX10_kept_46 : decode cX10_kept 46 = .ok (.iconst 0, 1) := by decide +kernel
theorem dX10_kept_47 : decode cX10_kept 47 = .ok (.istore 6, 2) := by decide +kernel
theorem dX10_kept_49 : decode cX10_kept 49 = .ok (.iload 6, 2) := by decide +kernel
theorem dX10_kept_51 : decode cX10_kept 51 = .ok (.bipush 12, 2) := by decide +kernel
theorem dX10_kept_53 : decode cX10_kept 53 = .ok (.if_icmp .ge 49, 3) := by decide +kernel
theorem dX10_kept_56 : decode cX10_kept 56 = .ok (.aload_n 0, 1) := by decide +kernel
theorem dX10_kept_57 : decode cX10_kept 57 = .ok (.getfield 71, 3) := by decide +kernel
theorem dX10_kept_60 : decode cX10_kept 60 = .ok (.getfield 212, 3) := by decide +kernel
theorem dX10_kept_63 : decode cX10_kept 63 = .ok (.iload 6, 2) := by decide +kernel
theorem dX10_kept_65 : decode cX10_kept 65 = .ok (.invokestatic 215, 3) := by decide +kernel
theorem dX10_kept_68 : decode cX10_kept 68 = .ok (.ifCond .eq 28, 3) := by decide +kernel
theorem dX10_kept_71 : decode cX10_kept 71 = .ok (.aload_n 0, 1) := by decide +kernel
theorem dX10_kept_72 : decode cX10_kept 72 = .ok (.getfield 71, 3) := by decide +kernel
theorem dX10_kept_75 : decode cX10_kept 75 = .ok (.aload_n 0, 1) := by decide +kernel
theorem dX10_kept_76 : decode cX10_kept 76 = .ok (.getfield 75, 3) := by decide +kernel
theorem dX10_kept_79 : decode cX10_kept 79 = .ok (.iload 6, 2) := by decide +kernel
theorem dX10_kept_81 : decode cX10_kept 81 = .ok (.invokevirtual 218, 3) := by decide +kernel
theorem dX10_kept_84 : decode cX10_kept 84 = .ok (.ifCond .eq 12, 3) := by decide +kernel
theorem dX10_kept_87 : decode cX10_kept 87 = .ok (.iload 5, 2) := by decide +kernel
theorem dX10_kept_89 : decode cX10_kept 89 = .ok (.iconst 1, 1) := by decide +kernel
theorem dX10_kept_90 : decode cX10_kept 90 = .ok (.iload 6, 2) := by decide +kernel
theorem dX10_kept_92 : decode cX10_kept 92 = .ok (.ishl, 1) := by decide +kernel
theorem dX10_kept_93 : decode cX10_kept 93 = .ok (.ior, 1) := by decide +kernel
theorem dX10_kept_94 : decode cX10_kept 94 = .ok (.istore 5, 2) := by decide +kernel
theorem dX10_kept_96 : decode cX10_kept 96 = .ok (.iinc 6 1, 3) := by decide +kernel
theorem dX10_kept_99 : decode cX10_kept 99 = .ok (.goto (-50), 3) := by decide +kernel
theorem dX10_kept_102 : decode cX10_kept 102 = .ok (.iload 5, 2) := by decide +kernel
theorem dX10_kept_104 : decode cX10_kept 104 = .ok (.ireturn, 1) := by decide +kernel
theorem dX10_road_0 : decode cX10_road 0 = .ok (.aload_n 0, 1) := by decide +kernel
theorem dX10_road_1 : decode cX10_road 1 = .ok (.iload_n 1, 1) := by decide +kernel
theorem dX10_road_2 : decode cX10_road 2 = .ok (.invokevirtual 124, 3) := by decide +kernel
theorem dX10_road_5 : decode cX10_road 5 = .ok (.astore_n 3, 1) := by decide +kernel
theorem dX10_road_6 : decode cX10_road 6 = .ok (.aload_n 3, 1) := by decide +kernel
theorem dX10_road_7 : decode cX10_road 7 = .ok (.ifnull 11, 3) := by decide +kernel
theorem dX10_road_10 : decode cX10_road 10 = .ok (.aload_n 0, 1) := by decide +kernel
theorem dX10_road_11 : decode cX10_road 11 = .ok (.iload_n 2, 1) := by decide +kernel
theorem dX10_road_12 : decode cX10_road 12 = .ok (.invokevirtual 141, 3) := by decide +kernel
theorem dX10_road_15 : decode cX10_road 15 = .ok (.ifnonnull 5, 3) := by decide +kernel
theorem dX10_road_18 : decode cX10_road 18 = .ok (.iconst (-1), 1) := by decide +kernel
theorem dX10_road_19 : decode cX10_road 19 = .ok (.ireturn, 1) := by decide +kernel
theorem dX10_road_20 : decode cX10_road 20 = .ok (.aload_n 0, 1) := by decide +kernel
theorem dX10_road_21 : decode cX10_road 21 = .ok (.getfield 57, 3) := by decide +kernel
theorem dX10_road_24 : decode cX10_road 24 = .ok (.aload_n 3, 1) := by decide +kernel
theorem dX10_road_25 : decode cX10_road 25 = .ok (.aload_n 0, 1) := by decide +kernel
theorem dX10_road_26 : decode cX10_road 26 = .ok (.getfield 50, 3) := by decide +kernel
theorem dX10_road_29 : decode cX10_road 29 = .ok (.aload_n 0, 1) := by decide +kernel
theorem dX10_road_30 : decode cX10_road 30 = .ok (.getfield 36, 3) := by decide +kernel
theorem dX10_road_33 : decode cX10_road 33 = .ok (.aload_n 0, 1) := by decide +kernel
theorem dX10_road_34 : decode cX10_road 34 = .ok (.getfield 85, 3) := by decide +kernel
theorem dX10_road_37 : decode cX10_road 37 = .ok (.invokevirtual 222, 3) := by decide +kernel
theorem dX10_road_40 : decode cX10_road 40 = .ok (.aload_n 0, 1) := by decide +kernel
theorem dX10_road_41 : decode cX10_road 41 = .ok (.getfield 57, 3) := by decide +kernel
theorem dX10_road_44 : decode cX10_road 44 = .ok (.iload_n 2, 1) := by decide +kernel
theorem dX10_road_45 : decode cX10_road 45 = .ok (.invokevirtual 226, 3) := by decide +kernel
theorem dX10_road_48 : decode cX10_road 48 = .ok (.lstore 4, 2) := by decide +kernel
theorem dX10_road_50 : decode cX10_road 50 = .ok (.lload 4, 2) := by decide +kernel
theorem dX10_road_52 : decode cX10_road 52 = .ok (.ldc2_w 230, 3) := by decide +kernel
theorem dX10_road_55 : decode cX10_road 55 = .ok (.lcmp, 1) := by decide +kernel
theorem dX10_road_56 : decode cX10_road 56 = .ok (.ifCond .ne 5, 3) := by decide +kernel
theorem dX10_road_59 : decode cX10_road 59 = .ok (.iconst (-1), 1) := by decide +kernel
theorem dX10_road_60 : decode cX10_road 60 = .ok (.ireturn, 1) := by decide +kernel
theorem dX10_road_61 : decode cX10_road 61 = .ok (.aload_n 0, 1) := by decide +kernel
theorem dX10_road_62 : decode cX10_road 62 = .ok (.lload 4, 2) := by decide +kernel
theorem dX10_road_64 : decode cX10_road 64 = .ok (.putfield 88, 3) := by decide +kernel
theorem dX10_road_67 : decode cX10_road 67 = .ok (.lload 4, 2) := by decide +kernel
theorem dX10_road_69 : decode cX10_road 69 = .ok (.invokestatic 232, 3) := by decide +kernel
theorem dX10_road_72 : decode cX10_road 72 = .ok (.ireturn, 1) := by decide +kernel
theorem dX10_step_0 : decode cX10_step 0 = .ok (.aload_n 0, 1) := by decide +kernel
theorem dX10_step_1 : decode cX10_step 1 = .ok (.getfield 88, 3) := by decide +kernel
theorem dX10_step_4 : decode cX10_step 4 = .ok (.iload_n 1, 1) := by decide +kernel
theorem dX10_step_5 : decode cX10_step 5 = .ok (.invokestatic 236, 3) := by decide +kernel
theorem dX10_step_8 : decode cX10_step 8 = .ok (.ireturn, 1) := by decide +kernel
theorem dX10_last_0 : decode cX10_last 0 = .ok (.aload_n 0, 1) := by decide +kernel
theorem dX10_last_1 : decode cX10_last 1 = .ok (.iload_n 1, 1) := by decide +kernel
theorem dX10_last_2 : decode cX10_last 2 = .ok (.invokevirtual 124, 3) := by decide +kernel
theorem dX10_last_5 : decode cX10_last 5 = .ok (.astore_n 3, 1) := by decide +kernel
theorem dX10_last_6 : decode cX10_last 6 = .ok (.aload_n 3, 1) := by decide +kernel
theorem dX10_last_7 : decode cX10_last 7 = .ok (.ifnonnull 5, 3) := by decide +kernel
theorem dX10_last_10 : decode cX10_last 10 = .ok (.iconst (-1), 1) := by decide +kernel
theorem dX10_last_11 : decode cX10_last 11 = .ok (.ireturn, 1) := by decide +kernel
theorem dX10_last_12 : decode cX10_last 12 = .ok (.aload_n 0, 1) := by decide +kernel
theorem dX10_last_13 : decode cX10_last 13 = .ok (.getfield 64, 3) := by decide +kernel
theorem dX10_last_16 : decode cX10_last 16 = .ok (.aload_n 0, 1) := by decide +kernel
theorem dX10_last_17 : decode cX10_last 17 = .ok (.getfield 43, 3) := by decide +kernel
theorem dX10_last_20 : decode cX10_last 20 = .ok (.aload_n 0, 1) := by decide +kernel
theorem dX10_last_21 : decode cX10_last 21 = .ok (.getfield 50, 3) := by decide +kernel
theorem dX10_last_24 : decode cX10_last 24 = .ok (.aload_n 0, 1) := by decide +kernel
theorem dX10_last_25 : decode cX10_last 25 = .ok (.getfield 36, 3) := by decide +kernel
theorem dX10_last_28 : decode cX10_last 28 = .ok (.iload_n 2, 1) := by decide +kernel
theorem dX10_last_29 : decode cX10_last 29 = .ok (.invokevirtual 240, 3) := by decide +kernel
theorem dX10_last_32 : decode cX10_last 32 = .ok (.aload_n 0, 1) := by decide +kernel
theorem dX10_last_33 : decode cX10_last 33 = .ok (.getfield 64, 3) := by decide +kernel
theorem dX10_last_36 : decode cX10_last 36 = .ok (.aload_n 3, 1) := by decide +kernel
theorem dX10_last_37 : decode cX10_last 37 = .ok (.getfield 169, 3) := by decide +kernel
theorem dX10_last_40 : decode cX10_last 40 = .ok (.invokevirtual 244, 3) := by decide +kernel
theorem dX10_last_43 : decode cX10_last 43 = .ok (.ireturn, 1) := by decide +kernel
theorem dX10_plan_0 : decode cX10_plan 0 = .ok (.aload_n 0, 1) := by decide +kernel
theorem dX10_plan_1 : decode cX10_plan 1 = .ok (.iload_n 1, 1) := by decide +kernel
theorem dX10_plan_2 : decode cX10_plan 2 = .ok (.invokevirtual 155, 3) := by decide +kernel
theorem dX10_plan_5 : decode cX10_plan 5 = .ok (.ifCond .ne 5, 3) := by decide +kernel
theorem dX10_plan_8 : decode cX10_plan 8 = .ok (.iconst (-1), 1) := by decide +kernel
theorem dX10_plan_9 : decode cX10_plan 9 = .ok (.ireturn, 1) := by decide +kernel
theorem dX10_plan_10 : decode cX10_plan 10 = .ok (.aload_n 0, 1) := by decide +kernel
theorem dX10_plan_11 : decode cX10_plan 11 = .ok (.getfield 43, 3) := by decide +kernel
theorem dX10_plan_14 : decode cX10_plan 14 = .ok (.aload_n 0, 1) := by decide +kernel
theorem dX10_plan_15 : decode cX10_plan 15 = .ok (.getfield 36, 3) := by decide +kernel
theorem dX10_plan_18 : decode cX10_plan 18 = .ok (.iload_n 1, 1) := by decide +kernel
theorem dX10_plan_19 : decode cX10_plan 19 = .ok (.invokevirtual 248, 3) := by decide +kernel
theorem dX10_plan_22 : decode cX10_plan 22 = .ok (.istore_n 2, 1) := by decide +kernel
theorem dX10_plan_23 : decode cX10_plan 23 = .ok (.iconst 0, 1) := by decide +kernel
theorem dX10_plan_24 : decode cX10_plan 24 = .ok (.istore_n 3, 1) := by decide +kernel
theorem dX10_plan_25 : decode cX10_plan 25 = .ok (.iconst 0, 1) := by decide +kernel
theorem dX10_plan_26 : decode cX10_plan 26 = .ok (.istore 4, 2) := by decide +kernel
theorem dX10_plan_28 : decode cX10_plan 28 = .ok (.iload 4, 2) := by decide +kernel
theorem dX10_plan_30 : decode cX10_plan 30 = .ok (.aload_n 0, 1) := by decide +kernel
theorem dX10_plan_31 : decode cX10_plan 31 = .ok (.getfield 82, 3) := by decide +kernel
theorem dX10_plan_34 : decode cX10_plan 34 = .ok (.if_icmp .ge 59, 3) := by decide +kernel
theorem dX10_plan_37 : decode cX10_plan 37 = .ok (.aload_n 0, 1) := by decide +kernel
theorem dX10_plan_38 : decode cX10_plan 38 = .ok (.getfield 29, 3) := by decide +kernel
theorem dX10_plan_41 : decode cX10_plan 41 = .ok (.iload 4, 2) := by decide +kernel
theorem dX10_plan_43 : decode cX10_plan 43 = .ok (.aaload, 1) := by decide +kernel
theorem dX10_plan_44 : decode cX10_plan 44 = .ok (.astore 5, 2) := by decide +kernel
theorem dX10_plan_46 : decode cX10_plan 46 = .ok (.aload 5, 2) := by decide +kernel
theorem dX10_plan_48 : decode cX10_plan 48 = .ok (.invokestatic 252, 3) := by decide +kernel
theorem dX10_plan_51 : decode cX10_plan 51 = .ok (.ifCond .eq 36, 3) := by decide +kernel
theorem dX10_plan_54 : decode cX10_plan 54 = .ok (.aload_n 0, 1) := by decide +kernel
theorem dX10_plan_55 : decode cX10_plan 55 = .ok (.aload 5, 2) := by decide +kernel
theorem dX10_plan_57 : decode cX10_plan 57 = .ok (.iload_n 2, 1) := by decide +kernel
theorem dX10_plan_58 : decode cX10_plan 58 = .ok (.invokevirtual 256, 3) := by decide +kernel
theorem dX10_plan_61 : decode cX10_plan 61 = .ok (.istore 6, 2) := by decide +kernel
theorem dX10_plan_63 : decode cX10_plan 63 = .ok (.iload 6, 2) := by decide +kernel
theorem dX10_plan_65 : decode cX10_plan 65 = .ok (.iconst (-1), 1) := by decide +kernel
theorem dX10_plan_66 : decode cX10_plan 66 = .ok (.if_icmp .ne 6, 3) := by decide +kernel
theorem dX10_plan_69 : decode cX10_plan 69 = .ok (.bipush (-2), 2) := by decide +kernel
theorem dX10_plan_71 : decode cX10_plan 71 = .ok (.ireturn, 1) := by decide +kernel
theorem dX10_plan_72 : decode cX10_plan 72 = .ok (.iload_n 3, 1) := by decide +kernel
theorem dX10_plan_73 : decode cX10_plan 73 = .ok (.aload_n 0, 1) := by decide +kernel
theorem dX10_plan_74 : decode cX10_plan 74 = .ok (.getfield 57, 3) := by decide +kernel
theorem dX10_plan_77 : decode cX10_plan 77 = .ok (.iload 6, 2) := by decide +kernel
theorem dX10_plan_79 : decode cX10_plan 79 = .ok (.invokevirtual 226, 3) := by decide +kernel
theorem dX10_plan_82 : decode cX10_plan 82 = .ok (.invokestatic 232, 3) := by decide +kernel
theorem dX10_plan_85 : decode cX10_plan 85 = .ok (.iadd, 1) := by decide +kernel
theorem dX10_plan_86 : decode cX10_plan 86 = .ok (.istore_n 3, 1) := by decide +kernel
theorem dX10_plan_87 : decode cX10_plan 87 = .ok (.iinc 4 1, 3) := by decide +kernel
theorem dX10_plan_90 : decode cX10_plan 90 = .ok (.goto (-62), 3) := by decide +kernel
theorem dX10_plan_93 : decode cX10_plan 93 = .ok (.iload_n 3, 1) := by decide +kernel
theorem dX10_plan_94 : decode cX10_plan 94 = .ok (.ireturn, 1) := by decide +kernel
theorem dX10_goal_0 : decode cX10_goal 0 = .ok (.aload_n 0, 1) := by decide +kernel
theorem dX10_goal_1 : decode cX10_goal 1 = .ok (.iload_n 2, 1) := by decide +kernel
theorem dX10_goal_2 : decode cX10_goal 2 = .ok (.invokevirtual 124, 3) := by decide +kernel
theorem dX10_goal_5 : decode cX10_goal 5 = .ok (.astore_n 3, 1) := by decide +kernel
theorem dX10_goal_6 : decode cX10_goal 6 = .ok (.aload_n 0, 1) := by decide +kernel
theorem dX10_goal_7 : decode cX10_goal 7 = .ok (.iload_n 1, 1) := by decide +kernel
theorem dX10_goal_8 : decode cX10_goal 8 = .ok (.invokevirtual 155, 3) := by decide +kernel
theorem dX10_goal_11 : decode cX10_goal 11 = .ok (.ifCond .eq 10, 3) := by decide +kernel
theorem dX10_goal_14 : decode cX10_goal 14 = .ok (.aload_n 3, 1) := by decide +kernel
theorem dX10_goal_15 : decode cX10_goal 15 = .ok (.invokestatic 252, 3) := by decide +kernel
theorem dX10_goal_18 : decode cX10_goal 18 = .ok (.ifCond .ne 5, 3) := by decide +kernel
theorem dX10_goal_21 : decode cX10_goal 21 = .ok (.iconst (-1), 1) := by decide +kernel
theorem dX10_goal_22 : decode cX10_goal 22 = .ok (.ireturn, 1) := by decide +kernel
theorem dX10_goal_23 : decode cX10_goal 23 = .ok (.aload_n 0, 1) := by decide +kernel
theorem dX10_goal_24 : decode cX10_goal 24 = .ok (.aload_n 3, 1) := by decide +kernel
theorem dX10_goal_25 : decode cX10_goal 25 = .ok (.aload_n 0, 1) := by decide +kernel
theorem dX10_goal_26 : decode cX10_goal 26 = .ok (.getfield 43, 3) := by decide +kernel
theorem dX10_goal_29 : decode cX10_goal 29 = .ok (.aload_n 0, 1) := by decide +kernel
theorem dX10_goal_30 : decode cX10_goal 30 = .ok (.getfield 36, 3) := by decide +kernel
theorem dX10_goal_33 : decode cX10_goal 33 = .ok (.iload_n 1, 1) := by decide +kernel
theorem dX10_goal_34 : decode cX10_goal 34 = .ok (.invokevirtual 248, 3) := by decide +kernel
theorem dX10_goal_37 : decode cX10_goal 37 = .ok (.invokevirtual 256, 3) := by decide +kernel
theorem dX10_goal_40 : decode cX10_goal 40 = .ok (.ireturn, 1) := by decide +kernel
theorem dX10_look_0 : decode cX10_look 0 = .ok (.aload_n 0, 1) := by decide +kernel
theorem dX10_look_1 : decode cX10_look 1 = .ok (.iload_n 1, 1) := by decide +kernel
theorem dX10_look_2 : decode cX10_look 2 = .ok (.invokevirtual 124, 3) := by decide +kernel
theorem dX10_look_5 : decode cX10_look 5 = .ok (.astore_n 3, 1) := by decide +kernel
theorem dX10_look_6 : decode cX10_look 6 = .ok (.aload_n 3, 1) := by decide +kernel
theorem dX10_look_7 : decode cX10_look 7 = .ok (.ifnonnull 5, 3) := by decide +kernel
theorem dX10_look_10 : decode cX10_look 10 = .ok (.iconst (-1), 1) := by decide +kernel
theorem dX10_look_11 : decode cX10_look 11 = .ok (.ireturn, 1) := by decide +kernel
theorem dX10_look_12 : decode cX10_look 12 = .ok (.iload_n 2, 1) := by decide +kernel
theorem dX10_look_13 : decode cX10_look 13 = .ok (.tableswitch 70 0 5 #[39, 45, 50, 55, 60, 65], 39) := by decide +kernel
theorem dX10_look_52 : decode cX10_look 52 = .ok (.aload_n 3, 1) := by decide +kernel
theorem dX10_look_53 : decode cX10_look 53 = .ok (.getfield 158, 3) := by decide +kernel
theorem dX10_look_56 : decode cX10_look 56 = .ok (.arraylength, 1) := by decide +kernel
theorem dX10_look_57 : decode cX10_look 57 = .ok (.ireturn, 1) := by decide +kernel
theorem dX10_look_58 : decode cX10_look 58 = .ok (.aload_n 3, 1) := by decide +kernel
theorem dX10_look_59 : decode cX10_look 59 = .ok (.getfield 260, 3) := by decide +kernel
theorem dX10_look_62 : decode cX10_look 62 = .ok (.ireturn, 1) := by decide +kernel
theorem dX10_look_63 : decode cX10_look 63 = .ok (.aload_n 3, 1) := by decide +kernel
theorem dX10_look_64 : decode cX10_look 64 = .ok (.getfield 263, 3) := by decide +kernel
theorem dX10_look_67 : decode cX10_look 67 = .ok (.ireturn, 1) := by decide +kernel
theorem dX10_look_68 : decode cX10_look 68 = .ok (.aload_n 3, 1) := by decide +kernel
theorem dX10_look_69 : decode cX10_look 69 = .ok (.getfield 128, 3) := by decide +kernel
theorem dX10_look_72 : decode cX10_look 72 = .ok (.ireturn, 1) := by decide +kernel
theorem dX10_look_73 : decode cX10_look 73 = .ok (.aload_n 3, 1) := by decide +kernel
theorem dX10_look_74 : decode cX10_look 74 = .ok (.getfield 264, 3) := by decide +kernel
theorem dX10_look_77 : decode cX10_look 77 = .ok (.ireturn, 1) := by decide +kernel
theorem dX10_look_78 : decode cX10_look 78 = .ok (.aload_n 3, 1) := by decide +kernel
theorem dX10_look_79 : decode cX10_look 79 = .ok (.getfield 209, 3) := by decide +kernel
theorem dX10_look_82 : decode cX10_look 82 = .ok (.ireturn, 1) := by decide +kernel
theorem dX10_look_83 : decode cX10_look 83 = .ok (.aload_n 3, 1) := by decide +kernel
theorem dX10_look_84 : decode cX10_look 84 = .ok (.getfield 158, 3) := by decide +kernel
theorem dX10_look_87 : decode cX10_look 87 = .ok (.iload_n 2, 1) := by decide +kernel
theorem dX10_look_88 : decode cX10_look 88 = .ok (.invokestatic 265, 3) := by decide +kernel
theorem dX10_look_91 : decode cX10_look 91 = .ok (.ireturn, 1) := by decide +kernel
theorem dX10_count_0 : decode cX10_count 0 = .ok (.iload_n 1, 1) := by decide +kernel
theorem dX10_count_1 : decode cX10_count 1 = .ok (.tableswitch 96 0 7 #[47, 52, 57, 65, 73, 78, 86, 91], 47) := by decide +kernel
theorem dX10_count_48 : decode cX10_count 48 = .ok (.aload_n 0, 1) := by decide +kernel
theorem dX10_count_49 : decode cX10_count 49 = .ok (.getfield 78, 3) := by decide +kernel
theorem dX10_count_52 : decode cX10_count 52 = .ok (.ireturn, 1) := by decide +kernel
theorem dX10_count_53 : decode cX10_count 53 = .ok (.aload_n 0, 1) := by decide +kernel
theorem dX10_count_54 : decode cX10_count 54 = .ok (.getfield 82, 3) := by decide +kernel
theorem dX10_count_57 : decode cX10_count 57 = .ok (.ireturn, 1) := by decide +kernel
theorem dX10_count_58 : decode cX10_count 58 = .ok (.aload_n 0, 1) := by decide +kernel
theorem dX10_count_59 : decode cX10_count 59 = .ok (.getfield 43, 3) := by decide +kernel
theorem dX10_count_62 : decode cX10_count 62 = .ok (.getfield 269, 3) := by decide +kernel
theorem dX10_count_65 : decode cX10_count 65 = .ok (.ireturn, 1) := by decide +kernel
theorem dX10_count_66 : decode cX10_count 66 = .ok (.aload_n 0, 1) := by decide +kernel
theorem dX10_count_67 : decode cX10_count 67 = .ok (.getfield 50, 3) := by decide +kernel
theorem dX10_count_70 : decode cX10_count 70 = .ok (.getfield 270, 3) := by decide +kernel
theorem dX10_count_73 : decode cX10_count 73 = .ok (.ireturn, 1) := by decide +kernel
theorem dX10_count_74 : decode cX10_count 74 = .ok (.aload_n 0, 1) := by decide +kernel
theorem dX10_count_75 : decode cX10_count 75 = .ok (.getfield 85, 3) := by decide +kernel
theorem dX10_count_78 : decode cX10_count 78 = .ok (.ireturn, 1) := by decide +kernel
theorem dX10_count_79 : decode cX10_count 79 = .ok (.aload_n 0, 1) := by decide +kernel
theorem dX10_count_80 : decode cX10_count 80 = .ok (.getfield 14, 3) := by decide +kernel
theorem dX10_count_83 : decode cX10_count 83 = .ok (.getfield 99, 3) := by decide +kernel
theorem dX10_count_86 : decode cX10_count 86 = .ok (.ireturn, 1) := by decide +kernel
theorem dX10_count_87 : decode cX10_count 87 = .ok (.aload_n 0, 1) := by decide +kernel
end
section
theorem dX10_count_88 : decode cX10_count 88 = .ok (.invokevirtual 271, 3) := by decide +kernel
theorem dX10_count_91 : decode cX10_count 91 = .ok (.ireturn, 1) := by decide +kernel
theorem dX10_count_92 : decode cX10_count 92 = .ok (.aload_n 0, 1) := by decide +kernel
theorem dX10_count_93 : decode cX10_count 93 = .ok (.invokevirtual 274, 3) := by decide +kernel
theorem dX10_count_96 : decode cX10_count 96 = .ok (.ireturn, 1) := by decide +kernel
theorem dX10_count_97 : decode cX10_count 97 = .ok (.iconst (-1), 1) := by decide +kernel
theorem dX10_count_98 : decode cX10_count 98 = .ok (.ireturn, 1) := by decide +kernel
theorem dX10_areProperties_0 : decode cX10_areProperties 0 = .ok (.iload_n 0, 1) := by decide +kernel
theorem dX10_areProperties_1 : decode cX10_areProperties 1 = .ok (.ifCond .lt 14, 3) := by decide +kernel
theorem dX10_areProperties_4 : decode cX10_areProperties 4 = .ok (.iload_n 0, 1) := by decide +kernel
theorem dX10_areProperties_5 : decode cX10_areProperties 5 = .ok (.sipush 4095, 3) := by decide +kernel
theorem dX10_areProperties_8 : decode cX10_areProperties 8 = .ok (.if_icmp .gt 7, 3) := by decide +kernel
theorem dX10_areProperties_11 : decode cX10_areProperties 11 = .ok (.iconst 1, 1) := by decide +kernel
theorem dX10_areProperties_12 : decode cX10_areProperties 12 = .ok (.goto 4, 3) := by decide +kernel
theorem dX10_areProperties_15 : decode cX10_areProperties 15 = .ok (.iconst 0, 1) := by decide +kernel
theorem dX10_areProperties_16 : decode cX10_areProperties 16 = .ok (.ireturn, 1) := by decide +kernel
theorem dX10_holds_0 : decode cX10_holds 0 = .ok (.iload_n 1, 1) := by decide +kernel
theorem dX10_holds_1 : decode cX10_holds 1 = .ok (.ifCond .lt 22, 3) := by decide +kernel
theorem dX10_holds_4 : decode cX10_holds 4 = .ok (.iload_n 1, 1) := by decide +kernel
theorem dX10_holds_5 : decode cX10_holds 5 = .ok (.bipush 12, 2) := by decide +kernel
theorem dX10_holds_7 : decode cX10_holds 7 = .ok (.if_icmp .ge 16, 3) := by decide +kernel
theorem dX10_holds_10 : decode cX10_holds 10 = .ok (.iload_n 0, 1) := by decide +kernel
theorem dX10_holds_11 : decode cX10_holds 11 = .ok (.iload_n 1, 1) := by decide +kernel
theorem dX10_holds_12 : decode cX10_holds 12 = .ok (.ishr, 1) := by decide +kernel
theorem dX10_holds_13 : decode cX10_holds 13 = .ok (.iconst 1, 1) := by decide +kernel
theorem dX10_holds_14 : decode cX10_holds 14 = .ok (.iand, 1) := by decide +kernel
theorem dX10_holds_15 : decode cX10_holds 15 = .ok (.iconst 1, 1) := by decide +kernel
theorem dX10_holds_16 : decode cX10_holds 16 = .ok (.if_icmp .ne 7, 3) := by decide +kernel
theorem dX10_holds_19 : decode cX10_holds 19 = .ok (.iconst 1, 1) := by decide +kernel
theorem dX10_holds_20 : decode cX10_holds 20 = .ok (.goto 4, 3) := by decide +kernel
theorem dX10_holds_23 : decode cX10_holds 23 = .ok (.iconst 0, 1) := by decide +kernel
theorem dX10_holds_24 : decode cX10_holds 24 = .ok (.ireturn, 1) := by decide +kernel
theorem dX10_isYear_0 : decode cX10_isYear 0 = .ok (.iload_n 0, 1) := by decide +kernel
theorem dX10_isYear_1 : decode cX10_isYear 1 = .ok (.ifCond .lt 14, 3) := by decide +kernel
theorem dX10_isYear_4 : decode cX10_isYear 4 = .ok (.iload_n 0, 1) := by decide +kernel
theorem dX10_isYear_5 : decode cX10_isYear 5 = .ok (.sipush 999, 3) := by decide +kernel
theorem dX10_isYear_8 : decode cX10_isYear 8 = .ok (.if_icmp .gt 7, 3) := by decide +kernel
theorem dX10_isYear_11 : decode cX10_isYear 11 = .ok (.iconst 1, 1) := by decide +kernel
theorem dX10_isYear_12 : decode cX10_isYear 12 = .ok (.goto 4, 3) := by decide +kernel
theorem dX10_isYear_15 : decode cX10_isYear 15 = .ok (.iconst 0, 1) := by decide +kernel
theorem dX10_isYear_16 : decode cX10_isYear 16 = .ok (.ireturn, 1) := by decide +kernel
theorem dX10_isYearToCome_0 : decode cX10_isYearToCome 0 = .ok (.iload_n 1, 1) := by decide +kernel
theorem dX10_isYearToCome_1 : decode cX10_isYearToCome 1 = .ok (.invokestatic 134, 3) := by decide +kernel
theorem dX10_isYearToCome_4 : decode cX10_isYearToCome 4 = .ok (.ifCond .eq 15, 3) := by decide +kernel
theorem dX10_isYearToCome_7 : decode cX10_isYearToCome 7 = .ok (.iload_n 1, 1) := by decide +kernel
theorem dX10_isYearToCome_8 : decode cX10_isYearToCome 8 = .ok (.aload_n 0, 1) := by decide +kernel
theorem dX10_isYearToCome_9 : decode cX10_isYearToCome 9 = .ok (.getfield 85, 3) := by decide +kernel
theorem dX10_isYearToCome_12 : decode cX10_isYearToCome 12 = .ok (.if_icmp .lt 7, 3) := by decide +kernel
theorem dX10_isYearToCome_15 : decode cX10_isYearToCome 15 = .ok (.iconst 1, 1) := by decide +kernel
theorem dX10_isYearToCome_16 : decode cX10_isYearToCome 16 = .ok (.goto 4, 3) := by decide +kernel
theorem dX10_isYearToCome_19 : decode cX10_isYearToCome 19 = .ok (.iconst 0, 1) := by decide +kernel
theorem dX10_isYearToCome_20 : decode cX10_isYearToCome 20 = .ok (.ireturn, 1) := by decide +kernel
theorem dX10_makeAt_0 : decode cX10_makeAt 0 = .ok (.iload_n 1, 1) := by decide +kernel
theorem dX10_makeAt_1 : decode cX10_makeAt 1 = .ok (.ifCond .lt 20, 3) := by decide +kernel
theorem dX10_makeAt_4 : decode cX10_makeAt 4 = .ok (.iload_n 1, 1) := by decide +kernel
theorem dX10_makeAt_5 : decode cX10_makeAt 5 = .ok (.aload_n 0, 1) := by decide +kernel
theorem dX10_makeAt_6 : decode cX10_makeAt 6 = .ok (.getfield 78, 3) := by decide +kernel
theorem dX10_makeAt_9 : decode cX10_makeAt 9 = .ok (.if_icmp .ge 12, 3) := by decide +kernel
theorem dX10_makeAt_12 : decode cX10_makeAt 12 = .ok (.aload_n 0, 1) := by decide +kernel
theorem dX10_makeAt_13 : decode cX10_makeAt 13 = .ok (.getfield 23, 3) := by decide +kernel
theorem dX10_makeAt_16 : decode cX10_makeAt 16 = .ok (.iload_n 1, 1) := by decide +kernel
theorem dX10_makeAt_17 : decode cX10_makeAt 17 = .ok (.aaload, 1) := by decide +kernel
theorem dX10_makeAt_18 : decode cX10_makeAt 18 = .ok (.goto 4, 3) := by decide +kernel
theorem dX10_makeAt_21 : decode cX10_makeAt 21 = .ok (.aconst_null, 1) := by decide +kernel
theorem dX10_makeAt_22 : decode cX10_makeAt 22 = .ok (.areturn, 1) := by decide +kernel
theorem dX10_fileAt_0 : decode cX10_fileAt 0 = .ok (.iload_n 1, 1) := by decide +kernel
theorem dX10_fileAt_1 : decode cX10_fileAt 1 = .ok (.ifCond .lt 20, 3) := by decide +kernel
theorem dX10_fileAt_4 : decode cX10_fileAt 4 = .ok (.iload_n 1, 1) := by decide +kernel
theorem dX10_fileAt_5 : decode cX10_fileAt 5 = .ok (.aload_n 0, 1) := by decide +kernel
theorem dX10_fileAt_6 : decode cX10_fileAt 6 = .ok (.getfield 82, 3) := by decide +kernel
theorem dX10_fileAt_9 : decode cX10_fileAt 9 = .ok (.if_icmp .ge 12, 3) := by decide +kernel
theorem dX10_fileAt_12 : decode cX10_fileAt 12 = .ok (.aload_n 0, 1) := by decide +kernel
theorem dX10_fileAt_13 : decode cX10_fileAt 13 = .ok (.getfield 29, 3) := by decide +kernel
theorem dX10_fileAt_16 : decode cX10_fileAt 16 = .ok (.iload_n 1, 1) := by decide +kernel
theorem dX10_fileAt_17 : decode cX10_fileAt 17 = .ok (.aaload, 1) := by decide +kernel
theorem dX10_fileAt_18 : decode cX10_fileAt 18 = .ok (.goto 4, 3) := by decide +kernel
theorem dX10_fileAt_21 : decode cX10_fileAt 21 = .ok (.aconst_null, 1) := by decide +kernel
theorem dX10_fileAt_22 : decode cX10_fileAt 22 = .ok (.areturn, 1) := by decide +kernel
theorem dX10_store_0 : decode cX10_store 0 = .ok (.aload_n 0, 1) := by decide +kernel
theorem dX10_store_1 : decode cX10_store 1 = .ok (.getfield 82, 3) := by decide +kernel
theorem dX10_store_4 : decode cX10_store 4 = .ok (.istore 4, 2) := by decide +kernel
theorem dX10_store_6 : decode cX10_store 6 = .ok (.new 27, 3) := by decide +kernel
theorem dX10_store_9 : decode cX10_store 9 = .ok (.dup, 1) := by decide +kernel
theorem dX10_store_10 : decode cX10_store 10 = .ok (.aload_n 1, 1) := by decide +kernel
theorem dX10_store_11 : decode cX10_store 11 = .ok (.iload_n 2, 1) := by decide +kernel
theorem dX10_store_12 : decode cX10_store 12 = .ok (.iload_n 3, 1) := by decide +kernel
theorem dX10_store_13 : decode cX10_store 13 = .ok (.invokespecial 277, 3) := by decide +kernel
theorem dX10_store_16 : decode cX10_store 16 = .ok (.astore 5, 2) := by decide +kernel
theorem dX10_store_18 : decode cX10_store 18 = .ok (.aload_n 0, 1) := by decide +kernel
theorem dX10_store_19 : decode cX10_store 19 = .ok (.getfield 29, 3) := by decide +kernel
theorem dX10_store_22 : decode cX10_store 22 = .ok (.iload 4, 2) := by decide +kernel
theorem dX10_store_24 : decode cX10_store 24 = .ok (.aload 5, 2) := by decide +kernel
theorem dX10_store_26 : decode cX10_store 26 = .ok (.aastore, 1) := by decide +kernel
theorem dX10_store_27 : decode cX10_store 27 = .ok (.aload_n 0, 1) := by decide +kernel
theorem dX10_store_28 : decode cX10_store 28 = .ok (.dup, 1) := by decide +kernel
theorem dX10_store_29 : decode cX10_store 29 = .ok (.getfield 82, 3) := by decide +kernel
theorem dX10_store_32 : decode cX10_store 32 = .ok (.iconst 1, 1) := by decide +kernel
theorem dX10_store_33 : decode cX10_store 33 = .ok (.iadd, 1) := by decide +kernel
theorem dX10_store_34 : decode cX10_store 34 = .ok (.putfield 82, 3) := by decide +kernel
theorem dX10_store_37 : decode cX10_store 37 = .ok (.iconst 0, 1) := by decide +kernel
theorem dX10_store_38 : decode cX10_store 38 = .ok (.istore 6, 2) := by decide +kernel
theorem dX10_store_40 : decode cX10_store 40 = .ok (.iload 6, 2) := by decide +kernel
theorem dX10_store_42 : decode cX10_store 42 = .ok (.aload_n 0, 1) := by decide +kernel
theorem dX10_store_43 : decode cX10_store 43 = .ok (.getfield 78, 3) := by decide +kernel
theorem dX10_store_46 : decode cX10_store 46 = .ok (.if_icmp .ge 17, 3) := by decide +kernel
theorem dX10_store_49 : decode cX10_store 49 = .ok (.aload_n 0, 1) := by decide +kernel
theorem dX10_store_50 : decode cX10_store 50 = .ok (.aload 5, 2) := by decide +kernel
theorem dX10_store_52 : decode cX10_store 52 = .ok (.iload 6, 2) := by decide +kernel
theorem dX10_store_54 : decode cX10_store 54 = .ok (.invokevirtual 116, 3) := by decide +kernel
theorem dX10_store_57 : decode cX10_store 57 = .ok (.iinc 6 1, 3) := by decide +kernel
theorem dX10_store_60 : decode cX10_store 60 = .ok (.goto (-20), 3) := by decide +kernel
theorem dX10_store_63 : decode cX10_store 63 = .ok (.iload 4, 2) := by decide +kernel
theorem dX10_store_65 : decode cX10_store 65 = .ok (.ireturn, 1) := by decide +kernel
theorem dX10_judge_0 : decode cX10_judge 0 = .ok (.aload_n 0, 1) := by decide +kernel
theorem dX10_judge_1 : decode cX10_judge 1 = .ok (.iload_n 2, 1) := by decide +kernel
theorem dX10_judge_2 : decode cX10_judge 2 = .ok (.invokevirtual 141, 3) := by decide +kernel
theorem dX10_judge_5 : decode cX10_judge 5 = .ok (.astore_n 3, 1) := by decide +kernel
theorem dX10_judge_6 : decode cX10_judge 6 = .ok (.aload_n 1, 1) := by decide +kernel
theorem dX10_judge_7 : decode cX10_judge 7 = .ok (.ifnull 7, 3) := by decide +kernel
theorem dX10_judge_10 : decode cX10_judge 10 = .ok (.aload_n 3, 1) := by decide +kernel
theorem dX10_judge_11 : decode cX10_judge 11 = .ok (.ifnonnull 4, 3) := by decide +kernel
theorem dX10_judge_14 : decode cX10_judge 14 = .ok (.return_, 1) := by decide +kernel
theorem dX10_judge_15 : decode cX10_judge 15 = .ok (.aload_n 0, 1) := by decide +kernel
theorem dX10_judge_16 : decode cX10_judge 16 = .ok (.getfield 71, 3) := by decide +kernel
theorem dX10_judge_19 : decode cX10_judge 19 = .ok (.aload_n 3, 1) := by decide +kernel
theorem dX10_judge_20 : decode cX10_judge 20 = .ok (.aload_n 1, 1) := by decide +kernel
theorem dX10_judge_21 : decode cX10_judge 21 = .ok (.getfield 158, 3) := by decide +kernel
theorem dX10_judge_24 : decode cX10_judge 24 = .ok (.invokevirtual 162, 3) := by decide +kernel
theorem dX10_judge_27 : decode cX10_judge 27 = .ok (.aload_n 0, 1) := by decide +kernel
theorem dX10_judge_28 : decode cX10_judge 28 = .ok (.getfield 71, 3) := by decide +kernel
theorem dX10_judge_31 : decode cX10_judge 31 = .ok (.getfield 166, 3) := by decide +kernel
theorem dX10_judge_34 : decode cX10_judge 34 = .ok (.bipush (-2), 2) := by decide +kernel
theorem dX10_judge_36 : decode cX10_judge 36 = .ok (.if_icmp .eq 17, 3) := by decide +kernel
theorem dX10_judge_39 : decode cX10_judge 39 = .ok (.aload_n 0, 1) := by decide +kernel
theorem dX10_judge_40 : decode cX10_judge 40 = .ok (.getfield 71, 3) := by decide +kernel
theorem dX10_judge_43 : decode cX10_judge 43 = .ok (.getfield 166, 3) := by decide +kernel
theorem dX10_judge_46 : decode cX10_judge 46 = .ok (.aload_n 3, 1) := by decide +kernel
theorem dX10_judge_47 : decode cX10_judge 47 = .ok (.getfield 280, 3) := by decide +kernel
theorem dX10_judge_50 : decode cX10_judge 50 = .ok (.if_icmp .le 4, 3) := by decide +kernel
theorem dX10_judge_53 : decode cX10_judge 53 = .ok (.return_, 1) := by decide +kernel
theorem dX10_judge_54 : decode cX10_judge 54 = .ok (.aload_n 0, 1) := by decide +kernel
theorem dX10_judge_55 : decode cX10_judge 55 = .ok (.getfield 71, 3) := by decide +kernel
theorem dX10_judge_58 : decode cX10_judge 58 = .ok (.getfield 166, 3) := by decide +kernel
theorem dX10_judge_61 : decode cX10_judge 61 = .ok (.aload_n 1, 1) := by decide +kernel
theorem dX10_judge_62 : decode cX10_judge 62 = .ok (.getfield 283, 3) := by decide +kernel
theorem dX10_judge_65 : decode cX10_judge 65 = .ok (.if_icmp .ge 41, 3) := by decide +kernel
theorem dX10_judge_68 : decode cX10_judge 68 = .ok (.aload_n 1, 1) := by decide +kernel
theorem dX10_judge_69 : decode cX10_judge 69 = .ok (.iload_n 2, 1) := by decide +kernel
theorem dX10_judge_70 : decode cX10_judge 70 = .ok (.putfield 169, 3) := by decide +kernel
theorem dX10_judge_73 : decode cX10_judge 73 = .ok (.aload_n 1, 1) := by decide +kernel
theorem dX10_judge_74 : decode cX10_judge 74 = .ok (.aload_n 0, 1) := by decide +kernel
theorem dX10_judge_75 : decode cX10_judge 75 = .ok (.getfield 71, 3) := by decide +kernel
theorem dX10_judge_78 : decode cX10_judge 78 = .ok (.getfield 166, 3) := by decide +kernel
theorem dX10_judge_81 : decode cX10_judge 81 = .ok (.putfield 283, 3) := by decide +kernel
theorem dX10_judge_84 : decode cX10_judge 84 = .ok (.aload_n 1, 1) := by decide +kernel
theorem dX10_judge_85 : decode cX10_judge 85 = .ok (.aload_n 0, 1) := by decide +kernel
theorem dX10_judge_86 : decode cX10_judge 86 = .ok (.getfield 71, 3) := by decide +kernel
theorem dX10_judge_89 : decode cX10_judge 89 = .ok (.getfield 212, 3) := by decide +kernel
theorem dX10_judge_92 : decode cX10_judge 92 = .ok (.putfield 263, 3) := by decide +kernel
theorem dX10_judge_95 : decode cX10_judge 95 = .ok (.aload_n 1, 1) := by decide +kernel
theorem dX10_judge_96 : decode cX10_judge 96 = .ok (.aload_n 0, 1) := by decide +kernel
theorem dX10_judge_97 : decode cX10_judge 97 = .ok (.getfield 71, 3) := by decide +kernel
theorem dX10_judge_100 : decode cX10_judge 100 = .ok (.getfield 176, 3) := by decide +kernel
theorem dX10_judge_103 : decode cX10_judge 103 = .ok (.putfield 260, 3) := by decide +kernel
theorem dX10_judge_106 : decode cX10_judge 106 = .ok (.return_, 1) := by decide +kernel
theorem dX10_readByOwnMake_0 : decode cX10_readByOwnMake 0 = .ok (.aload_n 0, 1) := by decide +kernel
theorem dX10_readByOwnMake_1 : decode cX10_readByOwnMake 1 = .ok (.aload_n 1, 1) := by decide +kernel
theorem dX10_readByOwnMake_2 : decode cX10_readByOwnMake 2 = .ok (.getfield 169, 3) := by decide +kernel
theorem dX10_readByOwnMake_5 : decode cX10_readByOwnMake 5 = .ok (.invokevirtual 141, 3) := by decide +kernel
theorem dX10_readByOwnMake_8 : decode cX10_readByOwnMake 8 = .ok (.astore_n 3, 1) := by decide +kernel
theorem dX10_readByOwnMake_9 : decode cX10_readByOwnMake 9 = .ok (.aload_n 3, 1) := by decide +kernel
theorem dX10_readByOwnMake_10 : decode cX10_readByOwnMake 10 = .ok (.ifnonnull 10, 3) := by decide +kernel
theorem dX10_readByOwnMake_13 : decode cX10_readByOwnMake 13 = .ok (.aload_n 2, 1) := by decide +kernel
theorem dX10_readByOwnMake_14 : decode cX10_readByOwnMake 14 = .ok (.invokevirtual 284, 3) := by decide +kernel
theorem dX10_readByOwnMake_17 : decode cX10_readByOwnMake 17 = .ok (.goto 12, 3) := by decide +kernel
theorem dX10_readByOwnMake_20 : decode cX10_readByOwnMake 20 = .ok (.aload_n 2, 1) := by decide +kernel
theorem dX10_readByOwnMake_21 : decode cX10_readByOwnMake 21 = .ok (.aload_n 3, 1) := by decide +kernel
theorem dX10_readByOwnMake_22 : decode cX10_readByOwnMake 22 = .ok (.aload_n 1, 1) := by decide +kernel
theorem dX10_readByOwnMake_23 : decode cX10_readByOwnMake 23 = .ok (.getfield 158, 3) := by decide +kernel
theorem dX10_readByOwnMake_26 : decode cX10_readByOwnMake 26 = .ok (.invokevirtual 162, 3) := by decide +kernel
theorem dX10_readByOwnMake_29 : decode cX10_readByOwnMake 29 = .ok (.return_, 1) := by decide +kernel
theorem dX10_draftTurned_0 : decode cX10_draftTurned 0 = .ok (.aload_n 0, 1) := by decide +kernel
theorem dX10_draftTurned_1 : decode cX10_draftTurned 1 = .ok (.aload_n 2, 1) := by decide +kernel
theorem dX10_draftTurned_2 : decode cX10_draftTurned 2 = .ok (.getfield 285, 3) := by decide +kernel
theorem dX10_draftTurned_5 : decode cX10_draftTurned 5 = .ok (.invokevirtual 141, 3) := by decide +kernel
theorem dX10_draftTurned_8 : decode cX10_draftTurned 8 = .ok (.astore_n 3, 1) := by decide +kernel
theorem dX10_draftTurned_9 : decode cX10_draftTurned 9 = .ok (.aload_n 3, 1) := by decide +kernel
theorem dX10_draftTurned_10 : decode cX10_draftTurned 10 = .ok (.ifnonnull 5, 3) := by decide +kernel
theorem dX10_draftTurned_13 : decode cX10_draftTurned 13 = .ok (.iconst 0, 1) := by decide +kernel
theorem dX10_draftTurned_14 : decode cX10_draftTurned 14 = .ok (.ireturn, 1) := by decide +kernel
theorem dX10_draftTurned_15 : decode cX10_draftTurned 15 = .ok (.aload_n 0, 1) := by decide +kernel
theorem dX10_draftTurned_16 : decode cX10_draftTurned 16 = .ok (.aload_n 1, 1) := by decide +kernel
theorem dX10_draftTurned_17 : decode cX10_draftTurned 17 = .ok (.aload_n 0, 1) := by decide +kernel
theorem dX10_draftTurned_18 : decode cX10_draftTurned 18 = .ok (.getfield 71, 3) := by decide +kernel
theorem dX10_draftTurned_21 : decode cX10_draftTurned 21 = .ok (.invokevirtual 172, 3) := by decide +kernel
theorem dX10_draftTurned_24 : decode cX10_draftTurned 24 = .ok (.aload_n 0, 1) := by decide +kernel
theorem dX10_draftTurned_25 : decode cX10_draftTurned 25 = .ok (.getfield 18, 3) := by decide +kernel
theorem dX10_draftTurned_28 : decode cX10_draftTurned 28 = .ok (.invokevirtual 113, 3) := by decide +kernel
theorem dX10_draftTurned_31 : decode cX10_draftTurned 31 = .ok (.aload_n 0, 1) := by decide +kernel
theorem dX10_draftTurned_32 : decode cX10_draftTurned 32 = .ok (.getfield 18, 3) := by decide +kernel
theorem dX10_draftTurned_35 : decode cX10_draftTurned 35 = .ok (.aload_n 3, 1) := by decide +kernel
theorem dX10_draftTurned_36 : decode cX10_draftTurned 36 = .ok (.getfield 288, 3) := by decide +kernel
theorem dX10_draftTurned_39 : decode cX10_draftTurned 39 = .ok (.iconst 0, 1) := by decide +kernel
theorem dX10_draftTurned_40 : decode cX10_draftTurned 40 = .ok (.aload_n 3, 1) := by decide +kernel
theorem dX10_draftTurned_41 : decode cX10_draftTurned 41 = .ok (.getfield 288, 3) := by decide +kernel
theorem dX10_draftTurned_44 : decode cX10_draftTurned 44 = .ok (.arraylength, 1) := by decide +kernel
theorem dX10_draftTurned_45 : decode cX10_draftTurned 45 = .ok (.invokevirtual 291, 3) := by decide +kernel
theorem dX10_draftTurned_48 : decode cX10_draftTurned 48 = .ok (.istore 4, 2) := by decide +kernel
theorem dX10_draftTurned_50 : decode cX10_draftTurned 50 = .ok (.iconst 0, 1) := by decide +kernel
theorem dX10_draftTurned_51 : decode cX10_draftTurned 51 = .ok (.istore 5, 2) := by decide +kernel
theorem dX10_draftTurned_53 : decode cX10_draftTurned 53 = .ok (.iload 5, 2) := by decide +kernel
theorem dX10_draftTurned_55 : decode cX10_draftTurned 55 = .ok (.aload_n 0, 1) := by decide +kernel
theorem dX10_draftTurned_56 : decode cX10_draftTurned 56 = .ok (.getfield 71, 3) := by decide +kernel
theorem dX10_draftTurned_59 : decode cX10_draftTurned 59 = .ok (.getfield 176, 3) := by decide +kernel
theorem dX10_draftTurned_62 : decode cX10_draftTurned 62 = .ok (.if_icmp .ge 71, 3) := by decide +kernel
theorem dX10_draftTurned_65 : decode cX10_draftTurned 65 = .ok (.iload 4, 2) := by decide +kernel
theorem dX10_draftTurned_67 : decode cX10_draftTurned 67 = .ok (.ifCond .eq 66, 3) := by decide +kernel
theorem dX10_draftTurned_70 : decode cX10_draftTurned 70 = .ok (.aload_n 2, 1) := by decide +kernel
theorem dX10_draftTurned_71 : decode cX10_draftTurned 71 = .ok (.getfield 295, 3) := by decide +kernel
theorem dX10_draftTurned_74 : decode cX10_draftTurned 74 = .ok (.aload_n 0, 1) := by decide +kernel
theorem dX10_draftTurned_75 : decode cX10_draftTurned 75 = .ok (.getfield 71, 3) := by decide +kernel
theorem dX10_draftTurned_78 : decode cX10_draftTurned 78 = .ok (.getfield 177, 3) := by decide +kernel
theorem dX10_draftTurned_81 : decode cX10_draftTurned 81 = .ok (.iload 5, 2) := by decide +kernel
theorem dX10_draftTurned_83 : decode cX10_draftTurned 83 = .ok (.iaload, 1) := by decide +kernel
theorem dX10_draftTurned_84 : decode cX10_draftTurned 84 = .ok (.invokestatic 215, 3) := by decide +kernel
theorem dX10_draftTurned_87 : decode cX10_draftTurned 87 = .ok (.ifCond .eq 40, 3) := by decide +kernel
theorem dX10_draftTurned_90 : decode cX10_draftTurned 90 = .ok (.aload_n 0, 1) := by decide +kernel
theorem dX10_draftTurned_91 : decode cX10_draftTurned 91 = .ok (.getfield 18, 3) := by decide +kernel
theorem dX10_draftTurned_94 : decode cX10_draftTurned 94 = .ok (.aload_n 1, 1) := by decide +kernel
theorem dX10_draftTurned_95 : decode cX10_draftTurned 95 = .ok (.getfield 158, 3) := by decide +kernel
theorem dX10_draftTurned_98 : decode cX10_draftTurned 98 = .ok (.aload_n 0, 1) := by decide +kernel
theorem dX10_draftTurned_99 : decode cX10_draftTurned 99 = .ok (.getfield 71, 3) := by decide +kernel
theorem dX10_draftTurned_102 : decode cX10_draftTurned 102 = .ok (.getfield 183, 3) := by decide +kernel
theorem dX10_draftTurned_105 : decode cX10_draftTurned 105 = .ok (.iload 5, 2) := by decide +kernel
theorem dX10_draftTurned_107 : decode cX10_draftTurned 107 = .ok (.iaload, 1) := by decide +kernel
theorem dX10_draftTurned_108 : decode cX10_draftTurned 108 = .ok (.iconst 2, 1) := by decide +kernel
theorem dX10_draftTurned_109 : decode cX10_draftTurned 109 = .ok (.isub, 1) := by decide +kernel
theorem dX10_draftTurned_110 : decode cX10_draftTurned 110 = .ok (.aload_n 0, 1) := by decide +kernel
theorem dX10_draftTurned_111 : decode cX10_draftTurned 111 = .ok (.getfield 71, 3) := by decide +kernel
theorem dX10_draftTurned_114 : decode cX10_draftTurned 114 = .ok (.getfield 180, 3) := by decide +kernel
theorem dX10_draftTurned_117 : decode cX10_draftTurned 117 = .ok (.iload 5, 2) := by decide +kernel
theorem dX10_draftTurned_119 : decode cX10_draftTurned 119 = .ok (.iaload, 1) := by decide +kernel
theorem dX10_draftTurned_120 : decode cX10_draftTurned 120 = .ok (.iconst 2, 1) := by decide +kernel
theorem dX10_draftTurned_121 : decode cX10_draftTurned 121 = .ok (.iadd, 1) := by decide +kernel
theorem dX10_draftTurned_122 : decode cX10_draftTurned 122 = .ok (.invokevirtual 291, 3) := by decide +kernel
theorem dX10_draftTurned_125 : decode cX10_draftTurned 125 = .ok (.istore 4, 2) := by decide +kernel
theorem dX10_draftTurned_127 : decode cX10_draftTurned 127 = .ok (.iinc 5 1, 3) := by decide +kernel
theorem dX10_draftTurned_130 : decode cX10_draftTurned 130 = .ok (.goto (-77), 3) := by decide +kernel
theorem dX10_draftTurned_133 : decode cX10_draftTurned 133 = .ok (.iload 4, 2) := by decide +kernel
theorem dX10_draftTurned_135 : decode cX10_draftTurned 135 = .ok (.ifCond .eq 36, 3) := by decide +kernel
theorem dX10_draftTurned_138 : decode cX10_draftTurned 138 = .ok (.aload_n 3, 1) := by decide +kernel
theorem dX10_draftTurned_139 : decode cX10_draftTurned 139 = .ok (.getfield 298, 3) := by decide +kernel
theorem dX10_draftTurned_142 : decode cX10_draftTurned 142 = .ok (.ifCond .eq 29, 3) := by decide +kernel
theorem dX10_draftTurned_145 : decode cX10_draftTurned 145 = .ok (.aload_n 0, 1) := by decide +kernel
theorem dX10_draftTurned_146 : decode cX10_draftTurned 146 = .ok (.getfield 18, 3) := by decide +kernel
theorem dX10_draftTurned_149 : decode cX10_draftTurned 149 = .ok (.aload_n 0, 1) := by decide +kernel
theorem dX10_draftTurned_150 : decode cX10_draftTurned 150 = .ok (.getfield 18, 3) := by decide +kernel
theorem dX10_draftTurned_153 : decode cX10_draftTurned 153 = .ok (.getfield 301, 3) := by decide +kernel
theorem dX10_draftTurned_156 : decode cX10_draftTurned 156 = .ok (.aload_n 0, 1) := by decide +kernel
theorem dX10_draftTurned_157 : decode cX10_draftTurned 157 = .ok (.getfield 18, 3) := by decide +kernel
theorem dX10_draftTurned_160 : decode cX10_draftTurned 160 = .ok (.getfield 99, 3) := by decide +kernel
theorem dX10_draftTurned_163 : decode cX10_draftTurned 163 = .ok (.invokestatic 302, 3) := by decide +kernel
theorem dX10_draftTurned_166 : decode cX10_draftTurned 166 = .ok (.invokevirtual 305, 3) := by decide +kernel
theorem dX10_draftTurned_169 : decode cX10_draftTurned 169 = .ok (.istore 4, 2) := by decide +kernel
theorem dX10_draftTurned_171 : decode cX10_draftTurned 171 = .ok (.iload 4, 2) := by decide +kernel
theorem dX10_draftTurned_173 : decode cX10_draftTurned 173 = .ok (.ireturn, 1) := by decide +kernel
theorem dX10_sumOfFirst_0 : decode cX10_sumOfFirst 0 = .ok (.iconst 0, 1) := by decide +kernel
theorem dX10_sumOfFirst_1 : decode cX10_sumOfFirst 1 = .ok (.istore_n 2, 1) := by decide +kernel
theorem dX10_sumOfFirst_2 : decode cX10_sumOfFirst 2 = .ok (.iconst 0, 1) := by decide +kernel
theorem dX10_sumOfFirst_3 : decode cX10_sumOfFirst 3 = .ok (.istore_n 3, 1) := by decide +kernel
theorem dX10_sumOfFirst_4 : decode cX10_sumOfFirst 4 = .ok (.iload_n 3, 1) := by decide +kernel
theorem dX10_sumOfFirst_5 : decode cX10_sumOfFirst 5 = .ok (.iload_n 1, 1) := by decide +kernel
theorem dX10_sumOfFirst_6 : decode cX10_sumOfFirst 6 = .ok (.if_icmp .ge 21, 3) := by decide +kernel
theorem dX10_sumOfFirst_9 : decode cX10_sumOfFirst 9 = .ok (.iload_n 3, 1) := by decide +kernel
theorem dX10_sumOfFirst_10 : decode cX10_sumOfFirst 10 = .ok (.aload_n 0, 1) := by decide +kernel
theorem dX10_sumOfFirst_11 : decode cX10_sumOfFirst 11 = .ok (.arraylength, 1) := by decide +kernel
theorem dX10_sumOfFirst_12 : decode cX10_sumOfFirst 12 = .ok (.if_icmp .ge 15, 3) := by decide +kernel
theorem dX10_sumOfFirst_15 : decode cX10_sumOfFirst 15 = .ok (.iload_n 2, 1) := by decide +kernel
theorem dX10_sumOfFirst_16 : decode cX10_sumOfFirst 16 = .ok (.aload_n 0, 1) := by decide +kernel
theorem dX10_sumOfFirst_17 : decode cX10_sumOfFirst 17 = .ok (.iload_n 3, 1) := by decide +kernel
theorem dX10_sumOfFirst_18 : decode cX10_sumOfFirst 18 = .ok (.iaload, 1) := by decide +kernel
theorem dX10_sumOfFirst_19 : decode cX10_sumOfFirst 19 = .ok (.iadd, 1) := by decide +kernel
theorem dX10_sumOfFirst_20 : decode cX10_sumOfFirst 20 = .ok (.istore_n 2, 1) := by decide +kernel
theorem dX10_sumOfFirst_21 : decode cX10_sumOfFirst 21 = .ok (.iinc 3 1, 3) := by decide +kernel
theorem dX10_sumOfFirst_24 : decode cX10_sumOfFirst 24 = .ok (.goto (-20), 3) := by decide +kernel
theorem dX10_sumOfFirst_27 : decode cX10_sumOfFirst 27 = .ok (.iload_n 2, 1) := by decide +kernel
theorem dX10_sumOfFirst_28 : decode cX10_sumOfFirst 28 = .ok (.sipush 255, 3) := by decide +kernel
theorem dX10_sumOfFirst_31 : decode cX10_sumOfFirst 31 = .ok (.iand, 1) := by decide +kernel
theorem dX10_sumOfFirst_32 : decode cX10_sumOfFirst 32 = .ok (.ireturn, 1) := by decide +kernel
theorem dX10_isPlanned_0 : decode cX10_isPlanned 0 = .ok (.aload_n 0, 1) := by decide +kernel
theorem dX10_isPlanned_1 : decode cX10_isPlanned 1 = .ok (.ifnull 22, 3) := by decide +kernel
theorem dX10_isPlanned_4 : decode cX10_isPlanned 4 = .ok (.aload_n 0, 1) := by decide +kernel
theorem dX10_isPlanned_5 : decode cX10_isPlanned 5 = .ok (.getfield 205, 3) := by decide +kernel
theorem dX10_isPlanned_8 : decode cX10_isPlanned 8 = .ok (.ifCond .ne 15, 3) := by decide +kernel
theorem dX10_isPlanned_11 : decode cX10_isPlanned 11 = .ok (.aload_n 0, 1) := by decide +kernel
theorem dX10_isPlanned_12 : decode cX10_isPlanned 12 = .ok (.getfield 169, 3) := by decide +kernel
theorem dX10_isPlanned_15 : decode cX10_isPlanned 15 = .ok (.iconst (-1), 1) := by decide +kernel
theorem dX10_isPlanned_16 : decode cX10_isPlanned 16 = .ok (.if_icmp .eq 7, 3) := by decide +kernel
theorem dX10_isPlanned_19 : decode cX10_isPlanned 19 = .ok (.iconst 1, 1) := by decide +kernel
theorem dX10_isPlanned_20 : decode cX10_isPlanned 20 = .ok (.goto 4, 3) := by decide +kernel
theorem dX10_isPlanned_23 : decode cX10_isPlanned 23 = .ok (.iconst 0, 1) := by decide +kernel
theorem dX10_isPlanned_24 : decode cX10_isPlanned 24 = .ok (.ireturn, 1) := by decide +kernel
theorem dX10_cheapestGoal_0 : decode cX10_cheapestGoal 0 = .ok (.aload_n 0, 1) := by decide +kernel
theorem dX10_cheapestGoal_1 : decode cX10_cheapestGoal 1 = .ok (.getfield 57, 3) := by decide +kernel
theorem dX10_cheapestGoal_4 : decode cX10_cheapestGoal 4 = .ok (.aload_n 1, 1) := by decide +kernel
theorem dX10_cheapestGoal_5 : decode cX10_cheapestGoal 5 = .ok (.aload_n 0, 1) := by decide +kernel
theorem dX10_cheapestGoal_6 : decode cX10_cheapestGoal 6 = .ok (.getfield 50, 3) := by decide +kernel
theorem dX10_cheapestGoal_9 : decode cX10_cheapestGoal 9 = .ok (.aload_n 0, 1) := by decide +kernel
theorem dX10_cheapestGoal_10 : decode cX10_cheapestGoal 10 = .ok (.getfield 36, 3) := by decide +kernel
theorem dX10_cheapestGoal_13 : decode cX10_cheapestGoal 13 = .ok (.aload_n 0, 1) := by decide +kernel
theorem dX10_cheapestGoal_14 : decode cX10_cheapestGoal 14 = .ok (.getfield 85, 3) := by decide +kernel
theorem dX10_cheapestGoal_17 : decode cX10_cheapestGoal 17 = .ok (.invokevirtual 222, 3) := by decide +kernel
theorem dX10_cheapestGoal_20 : decode cX10_cheapestGoal 20 = .ok (.iconst (-1), 1) := by decide +kernel
theorem dX10_cheapestGoal_21 : decode cX10_cheapestGoal 21 = .ok (.istore_n 3, 1) := by decide +kernel
theorem dX10_cheapestGoal_22 : decode cX10_cheapestGoal 22 = .ok (.ldc2_w 230, 3) := by decide +kernel
theorem dX10_cheapestGoal_25 : decode cX10_cheapestGoal 25 = .ok (.lstore 4, 2) := by decide +kernel
theorem dX10_cheapestGoal_27 : decode cX10_cheapestGoal 27 = .ok (.iconst 0, 1) := by decide +kernel
theorem dX10_cheapestGoal_28 : decode cX10_cheapestGoal 28 = .ok (.istore 6, 2) := by decide +kernel
theorem dX10_cheapestGoal_30 : decode cX10_cheapestGoal 30 = .ok (.iload 6, 2) := by decide +kernel
theorem dX10_cheapestGoal_32 : decode cX10_cheapestGoal 32 = .ok (.aload_n 0, 1) := by decide +kernel
theorem dX10_cheapestGoal_33 : decode cX10_cheapestGoal 33 = .ok (.getfield 78, 3) := by decide +kernel
theorem dX10_cheapestGoal_36 : decode cX10_cheapestGoal 36 = .ok (.if_icmp .ge 48, 3) := by decide +kernel
theorem dX10_cheapestGoal_39 : decode cX10_cheapestGoal 39 = .ok (.iload_n 2, 1) := by decide +kernel
theorem dX10_cheapestGoal_40 : decode cX10_cheapestGoal 40 = .ok (.iload 6, 2) := by decide +kernel
theorem dX10_cheapestGoal_42 : decode cX10_cheapestGoal 42 = .ok (.ishr, 1) := by decide +kernel
theorem dX10_cheapestGoal_43 : decode cX10_cheapestGoal 43 = .ok (.iconst 1, 1) := by decide +kernel
theorem dX10_cheapestGoal_44 : decode cX10_cheapestGoal 44 = .ok (.iand, 1) := by decide +kernel
theorem dX10_cheapestGoal_45 : decode cX10_cheapestGoal 45 = .ok (.iconst 1, 1) := by decide +kernel
theorem dX10_cheapestGoal_46 : decode cX10_cheapestGoal 46 = .ok (.if_icmp .ne 32, 3) := by decide +kernel
theorem dX10_cheapestGoal_49 : decode cX10_cheapestGoal 49 = .ok (.aload_n 0, 1) := by decide +kernel
theorem dX10_cheapestGoal_50 : decode cX10_cheapestGoal 50 = .ok (.getfield 57, 3) := by decide +kernel
theorem dX10_cheapestGoal_53 : decode cX10_cheapestGoal 53 = .ok (.iload 6, 2) := by decide +kernel
theorem dX10_cheapestGoal_55 : decode cX10_cheapestGoal 55 = .ok (.invokevirtual 226, 3) := by decide +kernel
theorem dX10_cheapestGoal_58 : decode cX10_cheapestGoal 58 = .ok (.lload 4, 2) := by decide +kernel
theorem dX10_cheapestGoal_60 : decode cX10_cheapestGoal 60 = .ok (.lcmp, 1) := by decide +kernel
theorem dX10_cheapestGoal_61 : decode cX10_cheapestGoal 61 = .ok (.ifCond .ge 17, 3) := by decide +kernel
theorem dX10_cheapestGoal_64 : decode cX10_cheapestGoal 64 = .ok (.aload_n 0, 1) := by decide +kernel
theorem dX10_cheapestGoal_65 : decode cX10_cheapestGoal 65 = .ok (.getfield 57, 3) := by decide +kernel
theorem dX10_cheapestGoal_68 : decode cX10_cheapestGoal 68 = .ok (.iload 6, 2) := by decide +kernel
theorem dX10_cheapestGoal_70 : decode cX10_cheapestGoal 70 = .ok (.invokevirtual 226, 3) := by decide +kernel
theorem dX10_cheapestGoal_73 : decode cX10_cheapestGoal 73 = .ok (.lstore 4, 2) := by decide +kernel
theorem dX10_cheapestGoal_75 : decode cX10_cheapestGoal 75 = .ok (.iload 6, 2) := by decide +kernel
theorem dX10_cheapestGoal_77 : decode cX10_cheapestGoal 77 = .ok (.istore_n 3, 1) := by decide +kernel
theorem dX10_cheapestGoal_78 : decode cX10_cheapestGoal 78 = .ok (.iinc 6 1, 3) := by decide +kernel
theorem dX10_cheapestGoal_81 : decode cX10_cheapestGoal 81 = .ok (.goto (-51), 3) := by decide +kernel
theorem dX10_cheapestGoal_84 : decode cX10_cheapestGoal 84 = .ok (.iload_n 3, 1) := by decide +kernel
theorem dX10_cheapestGoal_85 : decode cX10_cheapestGoal 85 = .ok (.ireturn, 1) := by decide +kernel
theorem dX10_byteAsked_0 : decode cX10_byteAsked 0 = .ok (.iload_n 1, 1) := by decide +kernel
theorem dX10_byteAsked_1 : decode cX10_byteAsked 1 = .ok (.bipush 100, 2) := by decide +kernel
theorem dX10_byteAsked_3 : decode cX10_byteAsked 3 = .ok (.if_icmp .lt 12, 3) := by decide +kernel
theorem dX10_byteAsked_6 : decode cX10_byteAsked 6 = .ok (.iload_n 1, 1) := by decide +kernel
theorem dX10_byteAsked_7 : decode cX10_byteAsked 7 = .ok (.bipush 100, 2) := by decide +kernel
theorem dX10_byteAsked_9 : decode cX10_byteAsked 9 = .ok (.isub, 1) := by decide +kernel
theorem dX10_byteAsked_10 : decode cX10_byteAsked 10 = .ok (.aload_n 0, 1) := by decide +kernel
theorem dX10_byteAsked_11 : decode cX10_byteAsked 11 = .ok (.arraylength, 1) := by decide +kernel
theorem dX10_byteAsked_12 : decode cX10_byteAsked 12 = .ok (.if_icmp .lt 5, 3) := by decide +kernel
theorem dX10_byteAsked_15 : decode cX10_byteAsked 15 = .ok (.iconst (-1), 1) := by decide +kernel
theorem dX10_byteAsked_16 : decode cX10_byteAsked 16 = .ok (.ireturn, 1) := by decide +kernel
theorem dX10_byteAsked_17 : decode cX10_byteAsked 17 = .ok (.aload_n 0, 1) := by decide +kernel
theorem dX10_byteAsked_18 : decode cX10_byteAsked 18 = .ok (.iload_n 1, 1) := by decide +kernel
theorem dX10_byteAsked_19 : decode cX10_byteAsked 19 = .ok (.bipush 100, 2) := by decide +kernel
theorem dX10_byteAsked_21 : decode cX10_byteAsked 21 = .ok (.isub, 1) := by decide +kernel
theorem dX10_byteAsked_22 : decode cX10_byteAsked 22 = .ok (.iaload, 1) := by decide +kernel
theorem dX10_byteAsked_23 : decode cX10_byteAsked 23 = .ok (.ireturn, 1) := by decide +kernel
theorem dX10_filesWithoutMake_0 : decode cX10_filesWithoutMake 0 = .ok (.iconst 0, 1) := by decide +kernel
theorem dX10_filesWithoutMake_1 : decode cX10_filesWithoutMake 1 = .ok (.istore_n 1, 1) := by decide +kernel
theorem dX10_filesWithoutMake_2 : decode cX10_filesWithoutMake 2 = .ok (.iconst 0, 1) := by decide +kernel
theorem dX10_filesWithoutMake_3 : decode cX10_filesWithoutMake 3 = .ok (.istore_n 2, 1) := by decide +kernel
theorem dX10_filesWithoutMake_4 : decode cX10_filesWithoutMake 4 = .ok (.iload_n 2, 1) := by decide +kernel
theorem dX10_filesWithoutMake_5 : decode cX10_filesWithoutMake 5 = .ok (.aload_n 0, 1) := by decide +kernel
theorem dX10_filesWithoutMake_6 : decode cX10_filesWithoutMake 6 = .ok (.getfield 82, 3) := by decide +kernel
theorem dX10_filesWithoutMake_9 : decode cX10_filesWithoutMake 9 = .ok (.if_icmp .ge 21, 3) := by decide +kernel
theorem dX10_filesWithoutMake_12 : decode cX10_filesWithoutMake 12 = .ok (.aload_n 0, 1) := by decide +kernel
theorem dX10_filesWithoutMake_13 : decode cX10_filesWithoutMake 13 = .ok (.iload_n 2, 1) := by decide +kernel
theorem dX10_filesWithoutMake_14 : decode cX10_filesWithoutMake 14 = .ok (.invokevirtual 308, 3) := by decide +kernel
theorem dX10_filesWithoutMake_17 : decode cX10_filesWithoutMake 17 = .ok (.iconst (-1), 1) := by decide +kernel
theorem dX10_filesWithoutMake_18 : decode cX10_filesWithoutMake 18 = .ok (.if_icmp .ne 6, 3) := by decide +kernel
theorem dX10_filesWithoutMake_21 : decode cX10_filesWithoutMake 21 = .ok (.iinc 1 1, 3) := by decide +kernel
theorem dX10_filesWithoutMake_24 : decode cX10_filesWithoutMake 24 = .ok (.iinc 2 1, 3) := by decide +kernel
theorem dX10_filesWithoutMake_27 : decode cX10_filesWithoutMake 27 = .ok (.goto (-23), 3) := by decide +kernel
theorem dX10_filesWithoutMake_30 : decode cX10_filesWithoutMake 30 = .ok (.iload_n 1, 1) := by decide +kernel
theorem dX10_filesWithoutMake_31 : decode cX10_filesWithoutMake 31 = .ok (.ireturn, 1) := by decide +kernel
theorem dX10_filesBeyondReading_0 : decode cX10_filesBeyondReading 0 = .ok (.aload_n 0, 1) := by decide +kernel
theorem dX10_filesBeyondReading_1 : decode cX10_filesBeyondReading 1 = .ok (.getfield 64, 3) := by decide +kernel
theorem dX10_filesBeyondReading_4 : decode cX10_filesBeyondReading 4 = .ok (.aload_n 0, 1) := by decide +kernel
theorem dX10_filesBeyondReading_5 : decode cX10_filesBeyondReading 5 = .ok (.getfield 43, 3) := by decide +kernel
theorem dX10_filesBeyondReading_8 : decode cX10_filesBeyondReading 8 = .ok (.aload_n 0, 1) := by decide +kernel
theorem dX10_filesBeyondReading_9 : decode cX10_filesBeyondReading 9 = .ok (.getfield 50, 3) := by decide +kernel
theorem dX10_filesBeyondReading_12 : decode cX10_filesBeyondReading 12 = .ok (.aload_n 0, 1) := by decide +kernel
theorem dX10_filesBeyondReading_13 : decode cX10_filesBeyondReading 13 = .ok (.getfield 36, 3) := by decide +kernel
theorem dX10_filesBeyondReading_16 : decode cX10_filesBeyondReading 16 = .ok (.iconst 0, 1) := by decide +kernel
theorem dX10_filesBeyondReading_17 : decode cX10_filesBeyondReading 17 = .ok (.invokevirtual 240, 3) := by decide +kernel
theorem dX10_filesBeyondReading_20 : decode cX10_filesBeyondReading 20 = .ok (.iconst 0, 1) := by decide +kernel
theorem dX10_filesBeyondReading_21 : decode cX10_filesBeyondReading 21 = .ok (.istore_n 1, 1) := by decide +kernel
theorem dX10_filesBeyondReading_22 : decode cX10_filesBeyondReading 22 = .ok (.iconst 0, 1) := by decide +kernel
theorem dX10_filesBeyondReading_23 : decode cX10_filesBeyondReading 23 = .ok (.istore_n 2, 1) := by decide +kernel
theorem dX10_filesBeyondReading_24 : decode cX10_filesBeyondReading 24 = .ok (.iload_n 2, 1) := by decide +kernel
theorem dX10_filesBeyondReading_25 : decode cX10_filesBeyondReading 25 = .ok (.aload_n 0, 1) := by decide +kernel
theorem dX10_filesBeyondReading_26 : decode cX10_filesBeyondReading 26 = .ok (.getfield 82, 3) := by decide +kernel
theorem dX10_filesBeyondReading_29 : decode cX10_filesBeyondReading 29 = .ok (.if_icmp .ge 31, 3) := by decide +kernel
theorem dX10_filesBeyondReading_32 : decode cX10_filesBeyondReading 32 = .ok (.aload_n 0, 1) := by decide +kernel
theorem dX10_filesBeyondReading_33 : decode cX10_filesBeyondReading 33 = .ok (.getfield 64, 3) := by decide +kernel
theorem dX10_filesBeyondReading_36 : decode cX10_filesBeyondReading 36 = .ok (.aload_n 0, 1) := by decide +kernel
theorem dX10_filesBeyondReading_37 : decode cX10_filesBeyondReading 37 = .ok (.iload_n 2, 1) := by decide +kernel
theorem dX10_filesBeyondReading_38 : decode cX10_filesBeyondReading 38 = .ok (.invokevirtual 308, 3) := by decide +kernel
theorem dX10_filesBeyondReading_41 : decode cX10_filesBeyondReading 41 = .ok (.invokevirtual 244, 3) := by decide +kernel
theorem dX10_filesBeyondReading_44 : decode cX10_filesBeyondReading 44 = .ok (.aload_n 0, 1) := by decide +kernel
theorem dX10_filesBeyondReading_45 : decode cX10_filesBeyondReading 45 = .ok (.getfield 85, 3) := by decide +kernel
theorem dX10_filesBeyondReading_48 : decode cX10_filesBeyondReading 48 = .ok (.if_icmp .ge 6, 3) := by decide +kernel
theorem dX10_filesBeyondReading_51 : decode cX10_filesBeyondReading 51 = .ok (.iinc 1 1, 3) := by decide +kernel
theorem dX10_filesBeyondReading_54 : decode cX10_filesBeyondReading 54 = .ok (.iinc 2 1, 3) := by decide +kernel
theorem dX10_filesBeyondReading_57 : decode cX10_filesBeyondReading 57 = .ok (.goto (-33), 3) := by decide +kernel
theorem dX10_filesBeyondReading_60 : decode cX10_filesBeyondReading 60 = .ok (.iload_n 1, 1) := by decide +kernel
theorem dX10_filesBeyondReading_61 : decode cX10_filesBeyondReading 61 = .ok (.ireturn, 1) := by decide +kernel
theorem dX11_init_0 : decode cX11_init 0 = .ok (.aload_n 0, 1) := by decide +kernel
theorem dX11_init_1 : decode cX11_init 1 = .ok (.invokespecial 1, 3) := by decide +kernel
theorem dX11_init_4 : decode cX11_init 4 = .ok (.aload_n 0, 1) := by decide +kernel
theorem dX11_init_5 : decode cX11_init 5 = .ok (.bipush 80, 2) := by decide +kernel
theorem dX11_init_7 : decode cX11_init 7 = .ok (.newarray .byte, 2) := by decide +kernel
theorem dX11_init_9 : decode cX11_init 9 = .ok (.putfield 7, 3) := by decide +kernel
theorem dX11_init_12 : decode cX11_init 12 = .ok (.aload_n 0, 1) := by decide +kernel
theorem dX11_init_13 : decode cX11_init 13 = .ok (.bipush 48, 2) := by decide +kernel
theorem dX11_init_15 : decode cX11_init 15 = .ok (.newarray .int, 2) := by decide +kernel
theorem dX11_init_17 : decode cX11_init 17 = .ok (.putfield 13, 3) := by decide +kernel
theorem dX11_init_20 : decode cX11_init 20 = .ok (.aload_n 0, 1) := by decide +kernel
theorem dX11_init_21 : decode cX11_init 21 = .ok (.bipush 12, 2) := by decide +kernel
theorem dX11_init_23 : decode cX11_init 23 = .ok (.newarray .int, 2) := by decide +kernel
theorem dX11_init_25 : decode cX11_init 25 = .ok (.putfield 17, 3) := by decide +kernel
theorem dX11_init_28 : decode cX11_init 28 = .ok (.aload_n 0, 1) := by decide +kernel
theorem dX11_init_29 : decode cX11_init 29 = .ok (.bipush 12, 2) := by decide +kernel
theorem dX11_init_31 : decode cX11_init 31 = .ok (.newarray .int, 2) := by decide +kernel
theorem dX11_init_33 : decode cX11_init 33 = .ok (.putfield 20, 3) := by decide +kernel
theorem dX11_init_36 : decode cX11_init 36 = .ok (.aload_n 0, 1) := by decide +kernel
theorem dX11_init_37 : decode cX11_init 37 = .ok (.bipush 12, 2) := by decide +kernel
theorem dX11_init_39 : decode cX11_init 39 = .ok (.newarray .boolean, 2) := by decide +kernel
theorem dX11_init_41 : decode cX11_init 41 = .ok (.putfield 23, 3) := by decide +kernel
theorem dX11_init_44 : decode cX11_init 44 = .ok (.aload_n 0, 1) := by decide +kernel
theorem dX11_init_45 : decode cX11_init 45 = .ok (.bipush 12, 2) := by decide +kernel
theorem dX11_init_47 : decode cX11_init 47 = .ok (.newarray .int, 2) := by decide +kernel
theorem dX11_init_49 : decode cX11_init 49 = .ok (.putfield 27, 3) := by decide +kernel
theorem dX11_init_52 : decode cX11_init 52 = .ok (.aload_n 0, 1) := by decide +kernel
theorem dX11_init_53 : decode cX11_init 53 = .ok (.sipush 2400, 3) := by decide +kernel
theorem dX11_init_56 : decode cX11_init 56 = .ok (.newarray .int, 2) := by decide +kernel
theorem dX11_init_58 : decode cX11_init 58 = .ok (.putfield 30, 3) := by decide +kernel
theorem dX11_init_61 : decode cX11_init 61 = .ok (.aload_n 0, 1) := by decide +kernel
theorem dX11_init_62 : decode cX11_init 62 = .ok (.bipush 40, 2) := by decide +kernel
theorem dX11_init_64 : decode cX11_init 64 = .ok (.newarray .int, 2) := by decide +kernel
theorem dX11_init_66 : decode cX11_init 66 = .ok (.putfield 33, 3) := by decide +kernel
theorem dX11_init_69 : decode cX11_init 69 = .ok (.aload_n 0, 1) := by decide +kernel
theorem dX11_init_70 : decode cX11_init 70 = .ok (.bipush 40, 2) := by decide +kernel
theorem dX11_init_72 : decode cX11_init 72 = .ok (.newarray .int, 2) := by decide +kernel
theorem dX11_init_74 : decode cX11_init 74 = .ok (.putfield 36, 3) := by decide +kernel
theorem dX11_init_77 : decode cX11_init 77 = .ok (.aload_n 0, 1) := by decide +kernel
theorem dX11_init_78 : decode cX11_init 78 = .ok (.bipush 40, 2) := by decide +kernel
theorem dX11_init_80 : decode cX11_init 80 = .ok (.newarray .int, 2) := by decide +kernel
theorem dX11_init_82 : decode cX11_init 82 = .ok (.putfield 39, 3) := by decide +kernel
theorem dX11_init_85 : decode cX11_init 85 = .ok (.aload_n 0, 1) := by decide +kernel
theorem dX11_init_86 : decode cX11_init 86 = .ok (.bipush 8, 2) := by decide +kernel
theorem dX11_init_88 : decode cX11_init 88 = .ok (.newarray .int, 2) := by decide +kernel
theorem dX11_init_90 : decode cX11_init 90 = .ok (.putfield 42, 3) := by decide +kernel
theorem dX11_init_93 : decode cX11_init 93 = .ok (.aload_n 0, 1) := by decide +kernel
theorem dX11_init_94 : decode cX11_init 94 = .ok (.bipush 8, 2) := by decide +kernel
theorem dX11_init_96 : decode cX11_init 96 = .ok (.newarray .int, 2) := by decide +kernel
theorem dX11_init_98 : decode cX11_init 98 = .ok (.putfield 45, 3) := by decide +kernel
theorem dX11_init_101 : decode cX11_init 101 = .ok (.aload_n 0, 1) := by decide +kernel
theorem dX11_init_102 : decode cX11_init 102 = .ok (.bipush 24, 2) := by decide +kernel
theorem dX11_init_104 : decode cX11_init 104 = .ok (.newarray .int, 2) := by decide +kernel
theorem dX11_init_106 : decode cX11_init 106 = .ok (.putfield 48, 3) := by decide +kernel
theorem dX11_init_109 : decode cX11_init 109 = .ok (.aload_n 0, 1) := by decide +kernel
theorem dX11_init_110 : decode cX11_init 110 = .ok (.bipush 24, 2) := by decide +kernel
theorem dX11_init_112 : decode cX11_init 112 = .ok (.newarray .int, 2) := by decide +kernel
theorem dX11_init_114 : decode cX11_init 114 = .ok (.putfield 51, 3) := by decide +kernel
theorem dX11_init_117 : decode cX11_init 117 = .ok (.aload_n 0, 1) := by decide +kernel
theorem dX11_init_118 : decode cX11_init 118 = .ok (.bipush 24, 2) := by decide +kernel
theorem dX11_init_120 : decode cX11_init 120 = .ok (.newarray .int, 2) := by decide +kernel
theorem dX11_init_122 : decode cX11_init 122 = .ok (.putfield 54, 3) := by decide +kernel
theorem dX11_init_125 : decode cX11_init 125 = .ok (.aload_n 0, 1) := by decide +kernel
theorem dX11_init_126 : decode cX11_init 126 = .ok (.bipush 24, 2) := by decide +kernel
theorem dX11_init_128 : decode cX11_init 128 = .ok (.newarray .int, 2) := by decide +kernel
theorem dX11_init_130 : decode cX11_init 130 = .ok (.putfield 57, 3) := by decide +kernel
theorem dX11_init_133 : decode cX11_init 133 = .ok (.aload_n 0, 1) := by decide +kernel
theorem dX11_init_134 : decode cX11_init 134 = .ok (.bipush 24, 2) := by decide +kernel
theorem dX11_init_136 : decode cX11_init 136 = .ok (.newarray .int, 2) := by decide +kernel
theorem dX11_init_138 : decode cX11_init 138 = .ok (.putfield 60, 3) := by decide +kernel
theorem dX11_init_141 : decode cX11_init 141 = .ok (.aload_n 0, 1) := by decide +kernel
theorem dX11_init_142 : decode cX11_init 142 = .ok (.bipush 24, 2) := by decide +kernel
theorem dX11_init_144 : decode cX11_init 144 = .ok (.newarray .int, 2) := by decide +kernel
theorem dX11_init_146 : decode cX11_init 146 = .ok (.putfield 63, 3) := by decide +kernel
theorem dX11_init_149 : decode cX11_init 149 = .ok (.aload_n 0, 1) := by decide +kernel
theorem dX11_init_150 : decode cX11_init 150 = .ok (.bipush 24, 2) := by decide +kernel
theorem dX11_init_152 : decode cX11_init 152 = .ok (.newarray .int, 2) := by decide +kernel
theorem dX11_init_154 : decode cX11_init 154 = .ok (.putfield 66, 3) := by decide +kernel
theorem dX11_init_157 : decode cX11_init 157 = .ok (.aload_n 0, 1) := by decide +kernel
theorem dX11_init_158 : decode cX11_init 158 = .ok (.bipush 30, 2) := by decide +kernel
theorem dX11_init_160 : decode cX11_init 160 = .ok (.newarray .int, 2) := by decide +kernel
theorem dX11_init_162 : decode cX11_init 162 = .ok (.putfield 69, 3) := by decide +kernel
theorem dX11_init_165 : decode cX11_init 165 = .ok (.aload_n 0, 1) := by decide +kernel
theorem dX11_init_166 : decode cX11_init 166 = .ok (.bipush 30, 2) := by decide +kernel
theorem dX11_init_168 : decode cX11_init 168 = .ok (.newarray .int, 2) := by decide +kernel
theorem dX11_init_170 : decode cX11_init 170 = .ok (.putfield 72, 3) := by decide +kernel
theorem dX11_init_173 : decode cX11_init 173 = .ok (.aload_n 0, 1) := by decide +kernel
theorem dX11_init_174 : decode cX11_init 174 = .ok (.bipush 30, 2) := by decide +kernel
theorem dX11_init_176 : decode cX11_init 176 = .ok (.newarray .int, 2) := by decide +kernel
theorem dX11_init_178 : decode cX11_init 178 = .ok (.putfield 75, 3) := by decide +kernel
theorem dX11_init_181 : decode cX11_init 181 = .ok (.aload_n 0, 1) := by decide +kernel
theorem dX11_init_182 : decode cX11_init 182 = .ok (.bipush 30, 2) := by decide +kernel
theorem dX11_init_184 : decode cX11_init 184 = .ok (.newarray .int, 2) := by decide +kernel
theorem dX11_init_186 : decode cX11_init 186 = .ok (.putfield 78, 3) := by decide +kernel
theorem dX11_init_189 : decode cX11_init 189 = .ok (.aload_n 0, 1) := by decide +kernel
theorem dX11_init_190 : decode cX11_init 190 = .ok (.bipush 30, 2) := by decide +kernel
theorem dX11_init_192 : decode cX11_init 192 = .ok (.newarray .int, 2) := by decide +kernel
theorem dX11_init_194 : decode cX11_init 194 = .ok (.putfield 81, 3) := by decide +kernel
theorem dX11_init_197 : decode cX11_init 197 = .ok (.aload_n 0, 1) := by decide +kernel
theorem dX11_init_198 : decode cX11_init 198 = .ok (.bipush 30, 2) := by decide +kernel
theorem dX11_init_200 : decode cX11_init 200 = .ok (.newarray .int, 2) := by decide +kernel
theorem dX11_init_202 : decode cX11_init 202 = .ok (.putfield 84, 3) := by decide +kernel
theorem dX11_init_205 : decode cX11_init 205 = .ok (.aload_n 0, 1) := by decide +kernel
theorem dX11_init_206 : decode cX11_init 206 = .ok (.bipush 60, 2) := by decide +kernel
theorem dX11_init_208 : decode cX11_init 208 = .ok (.newarray .int, 2) := by decide +kernel
theorem dX11_init_210 : decode cX11_init 210 = .ok (.putfield 87, 3) := by decide +kernel
theorem dX11_init_213 : decode cX11_init 213 = .ok (.aload_n 0, 1) := by decide +kernel
theorem dX11_init_214 : decode cX11_init 214 = .ok (.iconst 4, 1) := by decide +kernel
theorem dX11_init_215 : decode cX11_init 215 = .ok (.newarray .int, 2) := by decide +kernel
theorem dX11_init_217 : decode cX11_init 217 = .ok (.putfield 90, 3) := by decide +kernel
theorem dX11_init_220 : decode cX11_init 220 = .ok (.aload_n 0, 1) := by decide +kernel
theorem dX11_init_221 : decode cX11_init 221 = .ok (.iconst 4, 1) := by decide +kernel
theorem dX11_init_222 : decode cX11_init 222 = .ok (.newarray .int, 2) := by decide +kernel
theorem dX11_init_224 : decode cX11_init 224 = .ok (.putfield 93, 3) := by decide +kernel
theorem dX11_init_227 : decode cX11_init 227 = .ok (.aload_n 0, 1) := by decide +kernel
theorem dX11_init_228 : decode cX11_init 228 = .ok (.bipush 60, 2) := by decide +kernel
theorem dX11_init_230 : decode cX11_init 230 = .ok (.newarray .int, 2) := by decide +kernel
theorem dX11_init_232 : decode cX11_init 232 = .ok (.putfield 96, 3) := by decide +kernel
theorem dX11_init_235 : decode cX11_init 235 = .ok (.aload_n 0, 1) := by decide +kernel
theorem dX11_init_236 : decode cX11_init 236 = .ok (.iconst 4, 1) := by decide +kernel
theorem dX11_init_237 : decode cX11_init 237 = .ok (.newarray .int, 2) := by decide +kernel
theorem dX11_init_239 : decode cX11_init 239 = .ok (.putfield 99, 3) := by decide +kernel
theorem dX11_init_242 : decode cX11_init 242 = .ok (.iconst 0, 1) := by decide +kernel
theorem dX11_init_243 : decode cX11_init 243 = .ok (.istore_n 1, 1) := by decide +kernel
theorem dX11_init_244 : decode cX11_init 244 = .ok (.iload_n 1, 1) := by decide +kernel
theorem dX11_init_245 : decode cX11_init 245 = .ok (.bipush 8, 2) := by decide +kernel
theorem dX11_init_247 : decode cX11_init 247 = .ok (.if_icmp .ge 27, 3) := by decide +kernel
theorem dX11_init_250 : decode cX11_init 250 = .ok (.aload_n 0, 1) := by decide +kernel
theorem dX11_init_251 : decode cX11_init 251 = .ok (.getfield 42, 3) := by decide +kernel
theorem dX11_init_254 : decode cX11_init 254 = .ok (.iload_n 1, 1) := by decide +kernel
theorem dX11_init_255 : decode cX11_init 255 = .ok (.sipush 999, 3) := by decide +kernel
theorem dX11_init_258 : decode cX11_init 258 = .ok (.iastore, 1) := by decide +kernel
theorem dX11_init_259 : decode cX11_init 259 = .ok (.aload_n 0, 1) := by decide +kernel
theorem dX11_init_260 : decode cX11_init 260 = .ok (.getfield 45, 3) := by decide +kernel
theorem dX11_init_263 : decode cX11_init 263 = .ok (.iload_n 1, 1) := by decide +kernel
theorem dX11_init_264 : decode cX11_init 264 = .ok (.sipush 999, 3) := by decide +kernel
theorem dX11_init_267 : decode cX11_init 267 = .ok (.iastore, 1) := by decide +kernel
theorem dX11_init_268 : decode cX11_init 268 = .ok (.iinc 1 1, 3) := by decide +kernel
theorem dX11_init_271 : decode cX11_init 271 = .ok (.goto (-27), 3) := by decide +kernel
theorem dX11_init_274 : decode cX11_init 274 = .ok (.return_, 1) := by decide +kernel
theorem dX11_lies_0 : decode cX11_lies 0 = .ok (.iload_n 0, 1) := by decide +kernel
theorem dX11_lies_1 : decode cX11_lies 1 = .ok (.iload_n 1, 1) := by decide +kernel
theorem dX11_lies_2 : decode cX11_lies 2 = .ok (.if_icmp .lt 12, 3) := by decide +kernel
theorem dX11_lies_5 : decode cX11_lies 5 = .ok (.iload_n 0, 1) := by decide +kernel
theorem dX11_lies_6 : decode cX11_lies 6 = .ok (.iload_n 2, 1) := by decide +kernel
theorem dX11_lies_7 : decode cX11_lies 7 = .ok (.if_icmp .gt 7, 3) := by decide +kernel
theorem dX11_lies_10 : decode cX11_lies 10 = .ok (.iconst 1, 1) := by decide +kernel
theorem dX11_lies_11 : decode cX11_lies 11 = .ok (.goto 4, 3) := by decide +kernel
theorem dX11_lies_14 : decode cX11_lies 14 = .ok (.iconst 0, 1) := by decide +kernel
theorem dX11_lies_15 : decode cX11_lies 15 = .ok (.ireturn, 1) := by decide +kernel
theorem dX11_has_0 : decode cX11_has 0 = .ok (.iload_n 0, 1) := by decide +kernel
theorem dX11_has_1 : decode cX11_has 1 = .ok (.iload_n 1, 1) := by decide +kernel
theorem dX11_has_2 : decode cX11_has 2 = .ok (.ishr, 1) := by decide +kernel
theorem dX11_has_3 : decode cX11_has 3 = .ok (.iconst 1, 1) := by decide +kernel
theorem dX11_has_4 : decode cX11_has 4 = .ok (.iand, 1) := by decide +kernel
theorem dX11_has_5 : decode cX11_has 5 = .ok (.iconst 1, 1) := by decide +kernel
theorem dX11_has_6 : decode cX11_has 6 = .ok (.if_icmp .ne 7, 3) := by decide +kernel
theorem dX11_has_9 : decode cX11_has 9 = .ok (.iconst 1, 1) := by decide +kernel
theorem dX11_has_10 : decode cX11_has 10 = .ok (.goto 4, 3) := by decide +kernel
theorem dX11_has_13 : decode cX11_has 13 = .ok (.iconst 0, 1) := by decide +kernel
theorem dX11_has_14 : decode cX11_has 14 = .ok (.ireturn, 1) := by decide +kernel
theorem dX11_push_0 : decode cX11_push 0 = .ok (.bipush 24, 2) := by decide +kernel
theorem dX11_push_2 : decode cX11_push 2 = .ok (.istore_n 2, 1) := by decide +kernel
theorem dX11_push_3 : decode cX11_push 3 = .ok (.iload_n 2, 1) := by decide +kernel
theorem dX11_push_4 : decode cX11_push 4 = .ok (.ifCond .lt 32, 3) := by decide +kernel
theorem dX11_push_7 : decode cX11_push 7 = .ok (.aload_n 0, 1) := by decide +kernel
theorem dX11_push_8 : decode cX11_push 8 = .ok (.getfield 7, 3) := by decide +kernel
theorem dX11_push_11 : decode cX11_push 11 = .ok (.aload_n 0, 1) := by decide +kernel
theorem dX11_push_12 : decode cX11_push 12 = .ok (.getfield 102, 3) := by decide +kernel
theorem dX11_push_15 : decode cX11_push 15 = .ok (.iload_n 1, 1) := by decide +kernel
theorem dX11_push_16 : decode cX11_push 16 = .ok (.iload_n 2, 1) := by decide +kernel
theorem dX11_push_17 : decode cX11_push 17 = .ok (.ishr, 1) := by decide +kernel
theorem dX11_push_18 : decode cX11_push 18 = .ok (.i2b, 1) := by decide +kernel
theorem dX11_push_19 : decode cX11_push 19 = .ok (.bastore, 1) := by decide +kernel
theorem dX11_push_20 : decode cX11_push 20 = .ok (.aload_n 0, 1) := by decide +kernel
theorem dX11_push_21 : decode cX11_push 21 = .ok (.dup, 1) := by decide +kernel
theorem dX11_push_22 : decode cX11_push 22 = .ok (.getfield 102, 3) := by decide +kernel
theorem dX11_push_25 : decode cX11_push 25 = .ok (.iconst 1, 1) := by decide +kernel
theorem dX11_push_26 : decode cX11_push 26 = .ok (.iadd, 1) := by decide +kernel
theorem dX11_push_27 : decode cX11_push 27 = .ok (.putfield 102, 3) := by decide +kernel
theorem dX11_push_30 : decode cX11_push 30 = .ok (.iinc 2 (-8), 3) := by decide +kernel
theorem dX11_push_33 : decode cX11_push 33 = .ok (.goto (-30), 3) := by decide +kernel
theorem dX11_push_36 : decode cX11_push 36 = .ok (.return_, 1) := by decide +kernel
theorem dX11_feed_0 : decode cX11_feed 0 = .ok (.aload_n 0, 1) := by decide +kernel
theorem dX11_feed_1 : decode cX11_feed 1 = .ok (.getfield 102, 3) := by decide +kernel
theorem dX11_feed_4 : decode cX11_feed 4 = .ok (.bipush 20, 2) := by decide +kernel
theorem dX11_feed_6 : decode cX11_feed 6 = .ok (.iadd, 1) := by decide +kernel
theorem dX11_feed_7 : decode cX11_feed 7 = .ok (.bipush 80, 2) := by decide +kernel
theorem dX11_feed_9 : decode cX11_feed 9 = .ok (.if_icmp .le 5, 3) := by decide +kernel
theorem dX11_feed_12 : decode cX11_feed 12 = .ok (.iconst (-1), 1) := by decide +kernel
theorem dX11_feed_13 : decode cX11_feed 13 = .ok (.ireturn, 1) := by decide +kernel
theorem dX11_feed_14 : decode cX11_feed 14 = .ok (.aload_n 0, 1) := by decide +kernel
theorem dX11_feed_15 : decode cX11_feed 15 = .ok (.iload_n 1, 1) := by decide +kernel
theorem dX11_feed_16 : decode cX11_feed 16 = .ok (.invokevirtual 106, 3) := by decide +kernel
theorem dX11_feed_19 : decode cX11_feed 19 = .ok (.aload_n 0, 1) := by decide +kernel
theorem dX11_feed_20 : decode cX11_feed 20 = .ok (.iload_n 2, 1) := by decide +kernel
theorem dX11_feed_21 : decode cX11_feed 21 = .ok (.invokevirtual 106, 3) := by decide +kernel
theorem dX11_feed_24 : decode cX11_feed 24 = .ok (.aload_n 0, 1) := by decide +kernel
theorem dX11_feed_25 : decode cX11_feed 25 = .ok (.iload_n 3, 1) := by decide +kernel
theorem dX11_feed_26 : decode cX11_feed 26 = .ok (.invokevirtual 106, 3) := by decide +kernel
theorem dX11_feed_29 : decode cX11_feed 29 = .ok (.aload_n 0, 1) := by decide +kernel
theorem dX11_feed_30 : decode cX11_feed 30 = .ok (.iload 4, 2) := by decide +kernel
theorem dX11_feed_32 : decode cX11_feed 32 = .ok (.invokevirtual 106, 3) := by decide +kernel
theorem dX11_feed_35 : decode cX11_feed 35 = .ok (.aload_n 0, 1) := by decide +kernel
theorem dX11_feed_36 : decode cX11_feed 36 = .ok (.iload 5, 2) := by decide +kernel
theorem dX11_feed_38 : decode cX11_feed 38 = .ok (.invokevirtual 106, 3) := by decide +kernel
theorem dX11_feed_41 : decode cX11_feed 41 = .ok (.aload_n 0, 1) := by decide +kernel
theorem dX11_feed_42 : decode cX11_feed 42 = .ok (.getfield 102, 3) := by decide +kernel
theorem dX11_feed_45 : decode cX11_feed 45 = .ok (.ireturn, 1) := by decide +kernel
theorem dX11_make_0 : decode cX11_make 0 = .ok (.iload_n 1, 1) := by decide +kernel
theorem dX11_make_1 : decode cX11_make 1 = .ok (.iconst 1, 1) := by decide +kernel
theorem dX11_make_2 : decode cX11_make 2 = .ok (.iconst 4, 1) := by decide +kernel
theorem dX11_make_3 : decode cX11_make 3 = .ok (.invokestatic 110, 3) := by decide +kernel
theorem dX11_make_6 : decode cX11_make 6 = .ok (.ifCond .eq 41, 3) := by decide +kernel
theorem dX11_make_9 : decode cX11_make 9 = .ok (.iload_n 2, 1) := by decide +kernel
theorem dX11_make_10 : decode cX11_make 10 = .ok (.iconst 0, 1) := by decide +kernel
theorem dX11_make_11 : decode cX11_make 11 = .ok (.sipush 4095, 3) := by decide +kernel
theorem dX11_make_14 : decode cX11_make 14 = .ok (.invokestatic 110, 3) := by decide +kernel
theorem dX11_make_17 : decode cX11_make 17 = .ok (.ifCond .eq 30, 3) := by decide +kernel
theorem dX11_make_20 : decode cX11_make 20 = .ok (.iload 4, 2) := by decide +kernel
theorem dX11_make_22 : decode cX11_make 22 = .ok (.iconst 0, 1) := by decide +kernel
theorem dX11_make_23 : decode cX11_make 23 = .ok (.iconst 3, 1) := by decide +kernel
theorem dX11_make_24 : decode cX11_make 24 = .ok (.invokestatic 110, 3) := by decide +kernel
theorem dX11_make_27 : decode cX11_make 27 = .ok (.ifCond .eq 20, 3) := by decide +kernel
theorem dX11_make_30 : decode cX11_make 30 = .ok (.aload_n 0, 1) := by decide +kernel
theorem dX11_make_31 : decode cX11_make 31 = .ok (.getfield 114, 3) := by decide +kernel
theorem dX11_make_34 : decode cX11_make 34 = .ok (.bipush 12, 2) := by decide +kernel
theorem dX11_make_36 : decode cX11_make 36 = .ok (.if_icmp .eq 11, 3) := by decide +kernel
theorem dX11_make_39 : decode cX11_make 39 = .ok (.iload_n 1, 1) := by decide +kernel
theorem dX11_make_40 : decode cX11_make 40 = .ok (.aload_n 0, 1) := by decide +kernel
theorem dX11_make_41 : decode cX11_make 41 = .ok (.getfield 102, 3) := by decide +kernel
theorem dX11_make_44 : decode cX11_make 44 = .ok (.if_icmp .le 5, 3) := by decide +kernel
theorem dX11_make_47 : decode cX11_make 47 = .ok (.iconst (-1), 1) := by decide +kernel
theorem dX11_make_48 : decode cX11_make 48 = .ok (.ireturn, 1) := by decide +kernel
theorem dX11_make_49 : decode cX11_make 49 = .ok (.iconst 0, 1) := by decide +kernel
theorem dX11_make_50 : decode cX11_make 50 = .ok (.istore 5, 2) := by decide +kernel
theorem dX11_make_52 : decode cX11_make 52 = .ok (.iload 5, 2) := by decide +kernel
theorem dX11_make_54 : decode cX11_make 54 = .ok (.iload_n 1, 1) := by decide +kernel
theorem dX11_make_55 : decode cX11_make 55 = .ok (.if_icmp .ge 34, 3) := by decide +kernel
theorem dX11_make_58 : decode cX11_make 58 = .ok (.aload_n 0, 1) := by decide +kernel
theorem dX11_make_59 : decode cX11_make 59 = .ok (.getfield 13, 3) := by decide +kernel
theorem dX11_make_62 : decode cX11_make 62 = .ok (.iconst 4, 1) := by decide +kernel
theorem dX11_make_63 : decode cX11_make 63 = .ok (.aload_n 0, 1) := by decide +kernel
theorem dX11_make_64 : decode cX11_make 64 = .ok (.getfield 114, 3) := by decide +kernel
theorem dX11_make_67 : decode cX11_make 67 = .ok (.imul, 1) := by decide +kernel
theorem dX11_make_68 : decode cX11_make 68 = .ok (.iload 5, 2) := by decide +kernel
theorem dX11_make_70 : decode cX11_make 70 = .ok (.iadd, 1) := by decide +kernel
theorem dX11_make_71 : decode cX11_make 71 = .ok (.aload_n 0, 1) := by decide +kernel
theorem dX11_make_72 : decode cX11_make 72 = .ok (.getfield 7, 3) := by decide +kernel
theorem dX11_make_75 : decode cX11_make 75 = .ok (.iload 5, 2) := by decide +kernel
theorem dX11_make_77 : decode cX11_make 77 = .ok (.baload, 1) := by decide +kernel
theorem dX11_make_78 : decode cX11_make 78 = .ok (.sipush 255, 3) := by decide +kernel
theorem dX11_make_81 : decode cX11_make 81 = .ok (.iand, 1) := by decide +kernel
theorem dX11_make_82 : decode cX11_make 82 = .ok (.iastore, 1) := by decide +kernel
theorem dX11_make_83 : decode cX11_make 83 = .ok (.iinc 5 1, 3) := by decide +kernel
theorem dX11_make_86 : decode cX11_make 86 = .ok (.goto (-34), 3) := by decide +kernel
theorem dX11_make_89 : decode cX11_make 89 = .ok (.aload_n 0, 1) := by decide +kernel
theorem dX11_make_90 : decode cX11_make 90 = .ok (.iconst 0, 1) := by decide +kernel
theorem dX11_make_91 : decode cX11_make 91 = .ok (.putfield 102, 3) := by decide +kernel
theorem dX11_make_94 : decode cX11_make 94 = .ok (.aload_n 0, 1) := by decide +kernel
theorem dX11_make_95 : decode cX11_make 95 = .ok (.getfield 17, 3) := by decide +kernel
theorem dX11_make_98 : decode cX11_make 98 = .ok (.aload_n 0, 1) := by decide +kernel
theorem dX11_make_99 : decode cX11_make 99 = .ok (.getfield 114, 3) := by decide +kernel
theorem dX11_make_102 : decode cX11_make 102 = .ok (.iload_n 1, 1) := by decide +kernel
theorem dX11_make_103 : decode cX11_make 103 = .ok (.iastore, 1) := by decide +kernel
theorem dX11_make_104 : decode cX11_make 104 = .ok (.aload_n 0, 1) := by decide +kernel
theorem dX11_make_105 : decode cX11_make 105 = .ok (.getfield 20, 3) := by decide +kernel
theorem dX11_make_108 : decode cX11_make 108 = .ok (.aload_n 0, 1) := by decide +kernel
theorem dX11_make_109 : decode cX11_make 109 = .ok (.getfield 114, 3) := by decide +kernel
theorem dX11_make_112 : decode cX11_make 112 = .ok (.iload_n 2, 1) := by decide +kernel
theorem dX11_make_113 : decode cX11_make 113 = .ok (.iastore, 1) := by decide +kernel
theorem dX11_make_114 : decode cX11_make 114 = .ok (.aload_n 0, 1) := by decide +kernel
theorem dX11_make_115 : decode cX11_make 115 = .ok (.getfield 23, 3) := by decide +kernel
theorem dX11_make_118 : decode cX11_make 118 = .ok (.aload_n 0, 1) := by decide +kernel
theorem dX11_make_119 : decode cX11_make 119 = .ok (.getfield 114, 3) := by decide +kernel
theorem dX11_make_122 : decode cX11_make 122 = .ok (.iload_n 3, 1) := by decide +kernel
theorem dX11_make_123 : decode cX11_make 123 = .ok (.bastore, 1) := by decide +kernel
theorem dX11_make_124 : decode cX11_make 124 = .ok (.aload_n 0, 1) := by decide +kernel
theorem dX11_make_125 : decode cX11_make 125 = .ok (.getfield 27, 3) := by decide +kernel
theorem dX11_make_128 : decode cX11_make 128 = .ok (.aload_n 0, 1) := by decide +kernel
theorem dX11_make_129 : decode cX11_make 129 = .ok (.getfield 114, 3) := by decide +kernel
theorem dX11_make_132 : decode cX11_make 132 = .ok (.iload 4, 2) := by decide +kernel
theorem dX11_make_134 : decode cX11_make 134 = .ok (.iastore, 1) := by decide +kernel
theorem dX11_make_135 : decode cX11_make 135 = .ok (.aload_n 0, 1) := by decide +kernel
theorem dX11_make_136 : decode cX11_make 136 = .ok (.dup, 1) := by decide +kernel
theorem dX11_make_137 : decode cX11_make 137 = .ok (.getfield 114, 3) := by decide +kernel
theorem dX11_make_140 : decode cX11_make 140 = .ok (.iconst 1, 1) := by decide +kernel
theorem dX11_make_141 : decode cX11_make 141 = .ok (.iadd, 1) := by decide +kernel
theorem dX11_make_142 : decode cX11_make 142 = .ok (.putfield 114, 3) := by decide +kernel
theorem dX11_make_145 : decode cX11_make 145 = .ok (.aload_n 0, 1) := by decide +kernel
theorem dX11_make_146 : decode cX11_make 146 = .ok (.getfield 114, 3) := by decide +kernel
theorem dX11_make_149 : decode cX11_make 149 = .ok (.iconst 1, 1) := by decide +kernel
theorem dX11_make_150 : decode cX11_make 150 = .ok (.isub, 1) := by decide +kernel
theorem dX11_make_151 : decode cX11_make 151 = .ok (.ireturn, 1) := by decide +kernel
theorem dX11_file_0 : decode cX11_file 0 = .ok (.iload_n 1, 1) := by decide +kernel
theorem dX11_file_1 : decode cX11_file 1 = .ok (.iconst 1, 1) := by decide +kernel
theorem dX11_file_2 : decode cX11_file 2 = .ok (.bipush 60, 2) := by decide +kernel
theorem dX11_file_4 : decode cX11_file 4 = .ok (.invokestatic 110, 3) := by decide +kernel
theorem dX11_file_7 : decode cX11_file 7 = .ok (.ifCond .eq 20, 3) := by decide +kernel
theorem dX11_file_10 : decode cX11_file 10 = .ok (.aload_n 0, 1) := by decide +kernel
theorem dX11_file_11 : decode cX11_file 11 = .ok (.getfield 117, 3) := by decide +kernel
theorem dX11_file_14 : decode cX11_file 14 = .ok (.bipush 40, 2) := by decide +kernel
theorem dX11_file_16 : decode cX11_file 16 = .ok (.if_icmp .eq 11, 3) := by decide +kernel
theorem dX11_file_19 : decode cX11_file 19 = .ok (.iload_n 1, 1) := by decide +kernel
theorem dX11_file_20 : decode cX11_file 20 = .ok (.aload_n 0, 1) := by decide +kernel
theorem dX11_file_21 : decode cX11_file 21 = .ok (.getfield 102, 3) := by decide +kernel
theorem dX11_file_24 : decode cX11_file 24 = .ok (.if_icmp .le 5, 3) := by decide +kernel
theorem dX11_file_27 : decode cX11_file 27 = .ok (.iconst (-1), 1) := by decide +kernel
theorem dX11_file_28 : decode cX11_file 28 = .ok (.ireturn, 1) := by decide +kernel
theorem dX11_file_29 : decode cX11_file 29 = .ok (.iconst 0, 1) := by decide +kernel
theorem dX11_file_30 : decode cX11_file 30 = .ok (.istore_n 2, 1) := by decide +kernel
theorem dX11_file_31 : decode cX11_file 31 = .ok (.iload_n 2, 1) := by decide +kernel
theorem dX11_file_32 : decode cX11_file 32 = .ok (.iload_n 1, 1) := by decide +kernel
theorem dX11_file_33 : decode cX11_file 33 = .ok (.if_icmp .ge 33, 3) := by decide +kernel
theorem dX11_file_36 : decode cX11_file 36 = .ok (.aload_n 0, 1) := by decide +kernel
theorem dX11_file_37 : decode cX11_file 37 = .ok (.getfield 30, 3) := by decide +kernel
theorem dX11_file_40 : decode cX11_file 40 = .ok (.bipush 60, 2) := by decide +kernel
theorem dX11_file_42 : decode cX11_file 42 = .ok (.aload_n 0, 1) := by decide +kernel
theorem dX11_file_43 : decode cX11_file 43 = .ok (.getfield 117, 3) := by decide +kernel
theorem dX11_file_46 : decode cX11_file 46 = .ok (.imul, 1) := by decide +kernel
theorem dX11_file_47 : decode cX11_file 47 = .ok (.iload_n 2, 1) := by decide +kernel
theorem dX11_file_48 : decode cX11_file 48 = .ok (.iadd, 1) := by decide +kernel
theorem dX11_file_49 : decode cX11_file 49 = .ok (.aload_n 0, 1) := by decide +kernel
theorem dX11_file_50 : decode cX11_file 50 = .ok (.getfield 7, 3) := by decide +kernel
theorem dX11_file_53 : decode cX11_file 53 = .ok (.iload_n 2, 1) := by decide +kernel
theorem dX11_file_54 : decode cX11_file 54 = .ok (.baload, 1) := by decide +kernel
theorem dX11_file_55 : decode cX11_file 55 = .ok (.sipush 255, 3) := by decide +kernel
theorem dX11_file_58 : decode cX11_file 58 = .ok (.iand, 1) := by decide +kernel
theorem dX11_file_59 : decode cX11_file 59 = .ok (.iastore, 1) := by decide +kernel
theorem dX11_file_60 : decode cX11_file 60 = .ok (.iinc 2 1, 3) := by decide +kernel
theorem dX11_file_63 : decode cX11_file 63 = .ok (.goto (-32), 3) := by decide +kernel
theorem dX11_file_66 : decode cX11_file 66 = .ok (.aload_n 0, 1) := by decide +kernel
theorem dX11_file_67 : decode cX11_file 67 = .ok (.iconst 0, 1) := by decide +kernel
theorem dX11_file_68 : decode cX11_file 68 = .ok (.putfield 102, 3) := by decide +kernel
theorem dX11_file_71 : decode cX11_file 71 = .ok (.aload_n 0, 1) := by decide +kernel
theorem dX11_file_72 : decode cX11_file 72 = .ok (.getfield 33, 3) := by decide +kernel
theorem dX11_file_75 : decode cX11_file 75 = .ok (.aload_n 0, 1) := by decide +kernel
theorem dX11_file_76 : decode cX11_file 76 = .ok (.getfield 117, 3) := by decide +kernel
theorem dX11_file_79 : decode cX11_file 79 = .ok (.iload_n 1, 1) := by decide +kernel
theorem dX11_file_80 : decode cX11_file 80 = .ok (.iastore, 1) := by decide +kernel
theorem dX11_file_81 : decode cX11_file 81 = .ok (.aload_n 0, 1) := by decide +kernel
theorem dX11_file_82 : decode cX11_file 82 = .ok (.getfield 39, 3) := by decide +kernel
theorem dX11_file_85 : decode cX11_file 85 = .ok (.aload_n 0, 1) := by decide +kernel
theorem dX11_file_86 : decode cX11_file 86 = .ok (.getfield 117, 3) := by decide +kernel
theorem dX11_file_89 : decode cX11_file 89 = .ok (.iconst (-1), 1) := by decide +kernel
theorem dX11_file_90 : decode cX11_file 90 = .ok (.iastore, 1) := by decide +kernel
theorem dX11_file_91 : decode cX11_file 91 = .ok (.aload_n 0, 1) := by decide +kernel
theorem dX11_file_92 : decode cX11_file 92 = .ok (.dup, 1) := by decide +kernel
theorem dX11_file_93 : decode cX11_file 93 = .ok (.getfield 117, 3) := by decide +kernel
theorem dX11_file_96 : decode cX11_file 96 = .ok (.iconst 1, 1) := by decide +kernel
theorem dX11_file_97 : decode cX11_file 97 = .ok (.iadd, 1) := by decide +kernel
theorem dX11_file_98 : decode cX11_file 98 = .ok (.putfield 117, 3) := by decide +kernel
theorem dX11_file_101 : decode cX11_file 101 = .ok (.aload_n 0, 1) := by decide +kernel
theorem dX11_file_102 : decode cX11_file 102 = .ok (.getfield 117, 3) := by decide +kernel
theorem dX11_file_105 : decode cX11_file 105 = .ok (.iconst 1, 1) := by decide +kernel
theorem dX11_file_106 : decode cX11_file 106 = .ok (.isub, 1) := by decide +kernel
theorem dX11_file_107 : decode cX11_file 107 = .ok (.ireturn, 1) := by decide +kernel
theorem dX11_isFile_0 : decode cX11_isFile 0 = .ok (.iload_n 1, 1) := by decide +kernel
theorem dX11_isFile_1 : decode cX11_isFile 1 = .ok (.iconst 0, 1) := by decide +kernel
theorem dX11_isFile_2 : decode cX11_isFile 2 = .ok (.aload_n 0, 1) := by decide +kernel
theorem dX11_isFile_3 : decode cX11_isFile 3 = .ok (.getfield 117, 3) := by decide +kernel
theorem dX11_isFile_6 : decode cX11_isFile 6 = .ok (.iconst 1, 1) := by decide +kernel
theorem dX11_isFile_7 : decode cX11_isFile 7 = .ok (.isub, 1) := by decide +kernel
theorem dX11_isFile_8 : decode cX11_isFile 8 = .ok (.invokestatic 110, 3) := by decide +kernel
theorem dX11_isFile_11 : decode cX11_isFile 11 = .ok (.ireturn, 1) := by decide +kernel
theorem dX11_isMake_0 : decode cX11_isMake 0 = .ok (.iload_n 1, 1) := by decide +kernel
theorem dX11_isMake_1 : decode cX11_isMake 1 = .ok (.iconst 0, 1) := by decide +kernel
theorem dX11_isMake_2 : decode cX11_isMake 2 = .ok (.aload_n 0, 1) := by decide +kernel
theorem dX11_isMake_3 : decode cX11_isMake 3 = .ok (.getfield 114, 3) := by decide +kernel
theorem dX11_isMake_6 : decode cX11_isMake 6 = .ok (.iconst 1, 1) := by decide +kernel
theorem dX11_isMake_7 : decode cX11_isMake 7 = .ok (.isub, 1) := by decide +kernel
theorem dX11_isMake_8 : decode cX11_isMake 8 = .ok (.invokestatic 110, 3) := by decide +kernel
theorem dX11_isMake_11 : decode cX11_isMake 11 = .ok (.ireturn, 1) := by decide +kernel
theorem dX11_isMachine_0 : decode cX11_isMachine 0 = .ok (.iload_n 0, 1) := by decide +kernel
theorem dX11_isMachine_1 : decode cX11_isMachine 1 = .ok (.iconst 0, 1) := by decide +kernel
theorem dX11_isMachine_2 : decode cX11_isMachine 2 = .ok (.bipush 7, 2) := by decide +kernel
theorem dX11_isMachine_4 : decode cX11_isMachine 4 = .ok (.invokestatic 110, 3) := by decide +kernel
theorem dX11_isMachine_7 : decode cX11_isMachine 7 = .ok (.ireturn, 1) := by decide +kernel
theorem dX11_must_0 : decode cX11_must 0 = .ok (.aload_n 0, 1) := by decide +kernel
theorem dX11_must_1 : decode cX11_must 1 = .ok (.iload_n 1, 1) := by decide +kernel
theorem dX11_must_2 : decode cX11_must 2 = .ok (.invokevirtual 120, 3) := by decide +kernel
theorem dX11_must_5 : decode cX11_must 5 = .ok (.ifCond .eq 14, 3) := by decide +kernel
theorem dX11_must_8 : decode cX11_must 8 = .ok (.iload_n 2, 1) := by decide +kernel
theorem dX11_must_9 : decode cX11_must 9 = .ok (.iconst 0, 1) := by decide +kernel
theorem dX11_must_10 : decode cX11_must 10 = .ok (.sipush 4095, 3) := by decide +kernel
theorem dX11_must_13 : decode cX11_must 13 = .ok (.invokestatic 110, 3) := by decide +kernel
theorem dX11_must_16 : decode cX11_must 16 = .ok (.ifCond .ne 5, 3) := by decide +kernel
theorem dX11_must_19 : decode cX11_must 19 = .ok (.iconst 0, 1) := by decide +kernel
theorem dX11_must_20 : decode cX11_must 20 = .ok (.ireturn, 1) := by decide +kernel
theorem dX11_must_21 : decode cX11_must 21 = .ok (.aload_n 0, 1) := by decide +kernel
theorem dX11_must_22 : decode cX11_must 22 = .ok (.getfield 36, 3) := by decide +kernel
theorem dX11_must_25 : decode cX11_must 25 = .ok (.iload_n 1, 1) := by decide +kernel
theorem dX11_must_26 : decode cX11_must 26 = .ok (.iload_n 2, 1) := by decide +kernel
theorem dX11_must_27 : decode cX11_must 27 = .ok (.iastore, 1) := by decide +kernel
theorem dX11_must_28 : decode cX11_must 28 = .ok (.iconst 1, 1) := by decide +kernel
theorem dX11_must_29 : decode cX11_must 29 = .ok (.ireturn, 1) := by decide +kernel
theorem dX11_machine_0 : decode cX11_machine 0 = .ok (.iload_n 1, 1) := by decide +kernel
theorem dX11_machine_1 : decode cX11_machine 1 = .ok (.invokestatic 124, 3) := by decide +kernel
theorem dX11_machine_4 : decode cX11_machine 4 = .ok (.ifCond .eq 25, 3) := by decide +kernel
theorem dX11_machine_7 : decode cX11_machine 7 = .ok (.iload_n 2, 1) := by decide +kernel
theorem dX11_machine_8 : decode cX11_machine 8 = .ok (.iconst 0, 1) := by decide +kernel
theorem dX11_machine_9 : decode cX11_machine 9 = .ok (.sipush 999, 3) := by decide +kernel
theorem dX11_machine_12 : decode cX11_machine 12 = .ok (.invokestatic 110, 3) := by decide +kernel
theorem dX11_machine_15 : decode cX11_machine 15 = .ok (.ifCond .eq 14, 3) := by decide +kernel
theorem dX11_machine_18 : decode cX11_machine 18 = .ok (.iload_n 3, 1) := by decide +kernel
theorem dX11_machine_19 : decode cX11_machine 19 = .ok (.iload_n 2, 1) := by decide +kernel
theorem dX11_machine_20 : decode cX11_machine 20 = .ok (.sipush 999, 3) := by decide +kernel
theorem dX11_machine_23 : decode cX11_machine 23 = .ok (.invokestatic 110, 3) := by decide +kernel
theorem dX11_machine_26 : decode cX11_machine 26 = .ok (.ifCond .ne 5, 3) := by decide +kernel
theorem dX11_machine_29 : decode cX11_machine 29 = .ok (.iconst 0, 1) := by decide +kernel
theorem dX11_machine_30 : decode cX11_machine 30 = .ok (.ireturn, 1) := by decide +kernel
theorem dX11_machine_31 : decode cX11_machine 31 = .ok (.aload_n 0, 1) := by decide +kernel
theorem dX11_machine_32 : decode cX11_machine 32 = .ok (.getfield 42, 3) := by decide +kernel
theorem dX11_machine_35 : decode cX11_machine 35 = .ok (.iload_n 1, 1) := by decide +kernel
theorem dX11_machine_36 : decode cX11_machine 36 = .ok (.iload_n 2, 1) := by decide +kernel
theorem dX11_machine_37 : decode cX11_machine 37 = .ok (.iastore, 1) := by decide +kernel
theorem dX11_machine_38 : decode cX11_machine 38 = .ok (.aload_n 0, 1) := by decide +kernel
theorem dX11_machine_39 : decode cX11_machine 39 = .ok (.getfield 45, 3) := by decide +kernel
theorem dX11_machine_42 : decode cX11_machine 42 = .ok (.iload_n 1, 1) := by decide +kernel
theorem dX11_machine_43 : decode cX11_machine 43 = .ok (.iload_n 3, 1) := by decide +kernel
theorem dX11_machine_44 : decode cX11_machine 44 = .ok (.iastore, 1) := by decide +kernel
theorem dX11_machine_45 : decode cX11_machine 45 = .ok (.iconst 1, 1) := by decide +kernel
theorem dX11_machine_46 : decode cX11_machine 46 = .ok (.ireturn, 1) := by decide +kernel
theorem dX11_reader_0 : decode cX11_reader 0 = .ok (.aload_n 0, 1) := by decide +kernel
theorem dX11_reader_1 : decode cX11_reader 1 = .ok (.iload_n 1, 1) := by decide +kernel
theorem dX11_reader_2 : decode cX11_reader 2 = .ok (.invokevirtual 127, 3) := by decide +kernel
theorem dX11_reader_5 : decode cX11_reader 5 = .ok (.ifCond .eq 19, 3) := by decide +kernel
theorem dX11_reader_8 : decode cX11_reader 8 = .ok (.iload_n 2, 1) := by decide +kernel
theorem dX11_reader_9 : decode cX11_reader 9 = .ok (.invokestatic 124, 3) := by decide +kernel
theorem dX11_reader_12 : decode cX11_reader 12 = .ok (.ifCond .eq 12, 3) := by decide +kernel
theorem dX11_reader_15 : decode cX11_reader 15 = .ok (.aload_n 0, 1) := by decide +kernel
theorem dX11_reader_16 : decode cX11_reader 16 = .ok (.getfield 130, 3) := by decide +kernel
theorem dX11_reader_19 : decode cX11_reader 19 = .ok (.bipush 24, 2) := by decide +kernel
theorem dX11_reader_21 : decode cX11_reader 21 = .ok (.if_icmp .ne 5, 3) := by decide +kernel
theorem dX11_reader_24 : decode cX11_reader 24 = .ok (.iconst 0, 1) := by decide +kernel
theorem dX11_reader_25 : decode cX11_reader 25 = .ok (.ireturn, 1) := by decide +kernel
theorem dX11_reader_26 : decode cX11_reader 26 = .ok (.iconst 0, 1) := by decide +kernel
theorem dX11_reader_27 : decode cX11_reader 27 = .ok (.istore_n 3, 1) := by decide +kernel
theorem dX11_reader_28 : decode cX11_reader 28 = .ok (.iload_n 3, 1) := by decide +kernel
theorem dX11_reader_29 : decode cX11_reader 29 = .ok (.aload_n 0, 1) := by decide +kernel
theorem dX11_reader_30 : decode cX11_reader 30 = .ok (.getfield 130, 3) := by decide +kernel
theorem dX11_reader_33 : decode cX11_reader 33 = .ok (.if_icmp .ge 31, 3) := by decide +kernel
theorem dX11_reader_36 : decode cX11_reader 36 = .ok (.aload_n 0, 1) := by decide +kernel
theorem dX11_reader_37 : decode cX11_reader 37 = .ok (.getfield 48, 3) := by decide +kernel
theorem dX11_reader_40 : decode cX11_reader 40 = .ok (.iload_n 3, 1) := by decide +kernel
theorem dX11_reader_41 : decode cX11_reader 41 = .ok (.iaload, 1) := by decide +kernel
theorem dX11_reader_42 : decode cX11_reader 42 = .ok (.iload_n 1, 1) := by decide +kernel
theorem dX11_reader_43 : decode cX11_reader 43 = .ok (.if_icmp .ne 15, 3) := by decide +kernel
theorem dX11_reader_46 : decode cX11_reader 46 = .ok (.aload_n 0, 1) := by decide +kernel
theorem dX11_reader_47 : decode cX11_reader 47 = .ok (.getfield 51, 3) := by decide +kernel
theorem dX11_reader_50 : decode cX11_reader 50 = .ok (.iload_n 3, 1) := by decide +kernel
theorem dX11_reader_51 : decode cX11_reader 51 = .ok (.iaload, 1) := by decide +kernel
theorem dX11_reader_52 : decode cX11_reader 52 = .ok (.iload_n 2, 1) := by decide +kernel
theorem dX11_reader_53 : decode cX11_reader 53 = .ok (.if_icmp .ne 5, 3) := by decide +kernel
theorem dX11_reader_56 : decode cX11_reader 56 = .ok (.iconst 0, 1) := by decide +kernel
theorem dX11_reader_57 : decode cX11_reader 57 = .ok (.ireturn, 1) := by decide +kernel
theorem dX11_reader_58 : decode cX11_reader 58 = .ok (.iinc 3 1, 3) := by decide +kernel
theorem dX11_reader_61 : decode cX11_reader 61 = .ok (.goto (-33), 3) := by decide +kernel
theorem dX11_reader_64 : decode cX11_reader 64 = .ok (.aload_n 0, 1) := by decide +kernel
theorem dX11_reader_65 : decode cX11_reader 65 = .ok (.getfield 48, 3) := by decide +kernel
theorem dX11_reader_68 : decode cX11_reader 68 = .ok (.aload_n 0, 1) := by decide +kernel
theorem dX11_reader_69 : decode cX11_reader 69 = .ok (.getfield 130, 3) := by decide +kernel
theorem dX11_reader_72 : decode cX11_reader 72 = .ok (.iload_n 1, 1) := by decide +kernel
theorem dX11_reader_73 : decode cX11_reader 73 = .ok (.iastore, 1) := by decide +kernel
theorem dX11_reader_74 : decode cX11_reader 74 = .ok (.aload_n 0, 1) := by decide +kernel
theorem dX11_reader_75 : decode cX11_reader 75 = .ok (.getfield 51, 3) := by decide +kernel
theorem dX11_reader_78 : decode cX11_reader 78 = .ok (.aload_n 0, 1) := by decide +kernel
theorem dX11_reader_79 : decode cX11_reader 79 = .ok (.getfield 130, 3) := by decide +kernel
theorem dX11_reader_82 : decode cX11_reader 82 = .ok (.iload_n 2, 1) := by decide +kernel
theorem dX11_reader_83 : decode cX11_reader 83 = .ok (.iastore, 1) := by decide +kernel
theorem dX11_reader_84 : decode cX11_reader 84 = .ok (.aload_n 0, 1) := by decide +kernel
theorem dX11_reader_85 : decode cX11_reader 85 = .ok (.dup, 1) := by decide +kernel
theorem dX11_reader_86 : decode cX11_reader 86 = .ok (.getfield 130, 3) := by decide +kernel
theorem dX11_reader_89 : decode cX11_reader 89 = .ok (.iconst 1, 1) := by decide +kernel
theorem dX11_reader_90 : decode cX11_reader 90 = .ok (.iadd, 1) := by decide +kernel
theorem dX11_reader_91 : decode cX11_reader 91 = .ok (.putfield 130, 3) := by decide +kernel
theorem dX11_reader_94 : decode cX11_reader 94 = .ok (.iconst 1, 1) := by decide +kernel
theorem dX11_reader_95 : decode cX11_reader 95 = .ok (.ireturn, 1) := by decide +kernel
theorem dX11_turner_0 : decode cX11_turner 0 = .ok (.aload_n 0, 1) := by decide +kernel
theorem dX11_turner_1 : decode cX11_turner 1 = .ok (.iload_n 1, 1) := by decide +kernel
theorem dX11_turner_2 : decode cX11_turner 2 = .ok (.invokevirtual 127, 3) := by decide +kernel
theorem dX11_turner_5 : decode cX11_turner 5 = .ok (.ifCond .eq 56, 3) := by decide +kernel
theorem dX11_turner_8 : decode cX11_turner 8 = .ok (.aload_n 0, 1) := by decide +kernel
theorem dX11_turner_9 : decode cX11_turner 9 = .ok (.iload_n 2, 1) := by decide +kernel
theorem dX11_turner_10 : decode cX11_turner 10 = .ok (.invokevirtual 127, 3) := by decide +kernel
theorem dX11_turner_13 : decode cX11_turner 13 = .ok (.ifCond .eq 48, 3) := by decide +kernel
end
section
theorem dX11_turner_16 : decode cX11_turner 16 = .ok (.iload_n 1, 1) := by decide +kernel
theorem dX11_turner_17 : decode cX11_turner 17 = .ok (.iload_n 2, 1) := by decide +kernel
theorem dX11_turner_18 : decode cX11_turner 18 = .ok (.if_icmp .eq 43, 3) := by decide +kernel
theorem dX11_turner_21 : decode cX11_turner 21 = .ok (.iload_n 3, 1) := by decide +kernel
theorem dX11_turner_22 : decode cX11_turner 22 = .ok (.iconst 0, 1) := by decide +kernel
theorem dX11_turner_23 : decode cX11_turner 23 = .ok (.sipush 4095, 3) := by decide +kernel
theorem dX11_turner_26 : decode cX11_turner 26 = .ok (.invokestatic 110, 3) := by decide +kernel
theorem dX11_turner_29 : decode cX11_turner 29 = .ok (.ifCond .eq 32, 3) := by decide +kernel
theorem dX11_turner_32 : decode cX11_turner 32 = .ok (.iload 4, 2) := by decide +kernel
theorem dX11_turner_34 : decode cX11_turner 34 = .ok (.iconst 0, 1) := by decide +kernel
theorem dX11_turner_35 : decode cX11_turner 35 = .ok (.sipush 9999, 3) := by decide +kernel
theorem dX11_turner_38 : decode cX11_turner 38 = .ok (.invokestatic 110, 3) := by decide +kernel
theorem dX11_turner_41 : decode cX11_turner 41 = .ok (.ifCond .eq 20, 3) := by decide +kernel
theorem dX11_turner_44 : decode cX11_turner 44 = .ok (.iload 5, 2) := by decide +kernel
theorem dX11_turner_46 : decode cX11_turner 46 = .ok (.invokestatic 124, 3) := by decide +kernel
theorem dX11_turner_49 : decode cX11_turner 49 = .ok (.ifCond .eq 12, 3) := by decide +kernel
theorem dX11_turner_52 : decode cX11_turner 52 = .ok (.aload_n 0, 1) := by decide +kernel
theorem dX11_turner_53 : decode cX11_turner 53 = .ok (.getfield 133, 3) := by decide +kernel
theorem dX11_turner_56 : decode cX11_turner 56 = .ok (.bipush 24, 2) := by decide +kernel
theorem dX11_turner_58 : decode cX11_turner 58 = .ok (.if_icmp .ne 5, 3) := by decide +kernel
theorem dX11_turner_61 : decode cX11_turner 61 = .ok (.iconst (-1), 1) := by decide +kernel
theorem dX11_turner_62 : decode cX11_turner 62 = .ok (.ireturn, 1) := by decide +kernel
theorem dX11_turner_63 : decode cX11_turner 63 = .ok (.aload_n 0, 1) := by decide +kernel
theorem dX11_turner_64 : decode cX11_turner 64 = .ok (.getfield 54, 3) := by decide +kernel
theorem dX11_turner_67 : decode cX11_turner 67 = .ok (.aload_n 0, 1) := by decide +kernel
theorem dX11_turner_68 : decode cX11_turner 68 = .ok (.getfield 133, 3) := by decide +kernel
theorem dX11_turner_71 : decode cX11_turner 71 = .ok (.iload_n 1, 1) := by decide +kernel
theorem dX11_turner_72 : decode cX11_turner 72 = .ok (.iastore, 1) := by decide +kernel
theorem dX11_turner_73 : decode cX11_turner 73 = .ok (.aload_n 0, 1) := by decide +kernel
theorem dX11_turner_74 : decode cX11_turner 74 = .ok (.getfield 57, 3) := by decide +kernel
theorem dX11_turner_77 : decode cX11_turner 77 = .ok (.aload_n 0, 1) := by decide +kernel
theorem dX11_turner_78 : decode cX11_turner 78 = .ok (.getfield 133, 3) := by decide +kernel
theorem dX11_turner_81 : decode cX11_turner 81 = .ok (.iload_n 2, 1) := by decide +kernel
theorem dX11_turner_82 : decode cX11_turner 82 = .ok (.iastore, 1) := by decide +kernel
theorem dX11_turner_83 : decode cX11_turner 83 = .ok (.aload_n 0, 1) := by decide +kernel
theorem dX11_turner_84 : decode cX11_turner 84 = .ok (.getfield 60, 3) := by decide +kernel
theorem dX11_turner_87 : decode cX11_turner 87 = .ok (.aload_n 0, 1) := by decide +kernel
theorem dX11_turner_88 : decode cX11_turner 88 = .ok (.getfield 133, 3) := by decide +kernel
theorem dX11_turner_91 : decode cX11_turner 91 = .ok (.iload_n 3, 1) := by decide +kernel
theorem dX11_turner_92 : decode cX11_turner 92 = .ok (.iastore, 1) := by decide +kernel
theorem dX11_turner_93 : decode cX11_turner 93 = .ok (.aload_n 0, 1) := by decide +kernel
theorem dX11_turner_94 : decode cX11_turner 94 = .ok (.getfield 63, 3) := by decide +kernel
theorem dX11_turner_97 : decode cX11_turner 97 = .ok (.aload_n 0, 1) := by decide +kernel
theorem dX11_turner_98 : decode cX11_turner 98 = .ok (.getfield 133, 3) := by decide +kernel
theorem dX11_turner_101 : decode cX11_turner 101 = .ok (.iload 4, 2) := by decide +kernel
theorem dX11_turner_103 : decode cX11_turner 103 = .ok (.iastore, 1) := by decide +kernel
theorem dX11_turner_104 : decode cX11_turner 104 = .ok (.aload_n 0, 1) := by decide +kernel
theorem dX11_turner_105 : decode cX11_turner 105 = .ok (.getfield 66, 3) := by decide +kernel
theorem dX11_turner_108 : decode cX11_turner 108 = .ok (.aload_n 0, 1) := by decide +kernel
theorem dX11_turner_109 : decode cX11_turner 109 = .ok (.getfield 133, 3) := by decide +kernel
theorem dX11_turner_112 : decode cX11_turner 112 = .ok (.iload 5, 2) := by decide +kernel
theorem dX11_turner_114 : decode cX11_turner 114 = .ok (.iastore, 1) := by decide +kernel
theorem dX11_turner_115 : decode cX11_turner 115 = .ok (.aload_n 0, 1) := by decide +kernel
theorem dX11_turner_116 : decode cX11_turner 116 = .ok (.dup, 1) := by decide +kernel
theorem dX11_turner_117 : decode cX11_turner 117 = .ok (.getfield 133, 3) := by decide +kernel
theorem dX11_turner_120 : decode cX11_turner 120 = .ok (.iconst 1, 1) := by decide +kernel
theorem dX11_turner_121 : decode cX11_turner 121 = .ok (.iadd, 1) := by decide +kernel
theorem dX11_turner_122 : decode cX11_turner 122 = .ok (.putfield 133, 3) := by decide +kernel
theorem dX11_turner_125 : decode cX11_turner 125 = .ok (.aload_n 0, 1) := by decide +kernel
theorem dX11_turner_126 : decode cX11_turner 126 = .ok (.getfield 133, 3) := by decide +kernel
theorem dX11_turner_129 : decode cX11_turner 129 = .ok (.iconst 1, 1) := by decide +kernel
theorem dX11_turner_130 : decode cX11_turner 130 = .ok (.isub, 1) := by decide +kernel
theorem dX11_turner_131 : decode cX11_turner 131 = .ok (.ireturn, 1) := by decide +kernel
theorem dX11_year_0 : decode cX11_year 0 = .ok (.iload_n 1, 1) := by decide +kernel
theorem dX11_year_1 : decode cX11_year 1 = .ok (.aload_n 0, 1) := by decide +kernel
theorem dX11_year_2 : decode cX11_year 2 = .ok (.getfield 136, 3) := by decide +kernel
theorem dX11_year_5 : decode cX11_year 5 = .ok (.sipush 999, 3) := by decide +kernel
theorem dX11_year_8 : decode cX11_year 8 = .ok (.invokestatic 110, 3) := by decide +kernel
theorem dX11_year_11 : decode cX11_year 11 = .ok (.ifCond .ne 5, 3) := by decide +kernel
theorem dX11_year_14 : decode cX11_year 14 = .ok (.iconst 0, 1) := by decide +kernel
theorem dX11_year_15 : decode cX11_year 15 = .ok (.ireturn, 1) := by decide +kernel
theorem dX11_year_16 : decode cX11_year 16 = .ok (.aload_n 0, 1) := by decide +kernel
theorem dX11_year_17 : decode cX11_year 17 = .ok (.iload_n 1, 1) := by decide +kernel
theorem dX11_year_18 : decode cX11_year 18 = .ok (.putfield 136, 3) := by decide +kernel
theorem dX11_year_21 : decode cX11_year 21 = .ok (.iconst 1, 1) := by decide +kernel
theorem dX11_year_22 : decode cX11_year 22 = .ok (.ireturn, 1) := by decide +kernel
theorem dX11_byteAt_0 : decode cX11_byteAt 0 = .ok (.aload_n 0, 1) := by decide +kernel
theorem dX11_byteAt_1 : decode cX11_byteAt 1 = .ok (.getfield 30, 3) := by decide +kernel
theorem dX11_byteAt_4 : decode cX11_byteAt 4 = .ok (.bipush 60, 2) := by decide +kernel
theorem dX11_byteAt_6 : decode cX11_byteAt 6 = .ok (.iload_n 1, 1) := by decide +kernel
theorem dX11_byteAt_7 : decode cX11_byteAt 7 = .ok (.imul, 1) := by decide +kernel
theorem dX11_byteAt_8 : decode cX11_byteAt 8 = .ok (.iload_n 2, 1) := by decide +kernel
theorem dX11_byteAt_9 : decode cX11_byteAt 9 = .ok (.iadd, 1) := by decide +kernel
theorem dX11_byteAt_10 : decode cX11_byteAt 10 = .ok (.iaload, 1) := by decide +kernel
theorem dX11_byteAt_11 : decode cX11_byteAt 11 = .ok (.ireturn, 1) := by decide +kernel
theorem dX11_reads_0 : decode cX11_reads 0 = .ok (.aload_n 0, 1) := by decide +kernel
theorem dX11_reads_1 : decode cX11_reads 1 = .ok (.iconst 0, 1) := by decide +kernel
theorem dX11_reads_2 : decode cX11_reads 2 = .ok (.putfield 139, 3) := by decide +kernel
theorem dX11_reads_5 : decode cX11_reads 5 = .ok (.aload_n 0, 1) := by decide +kernel
theorem dX11_reads_6 : decode cX11_reads 6 = .ok (.iconst 0, 1) := by decide +kernel
theorem dX11_reads_7 : decode cX11_reads 7 = .ok (.putfield 142, 3) := by decide +kernel
theorem dX11_reads_10 : decode cX11_reads 10 = .ok (.aload_n 0, 1) := by decide +kernel
theorem dX11_reads_11 : decode cX11_reads 11 = .ok (.getfield 33, 3) := by decide +kernel
theorem dX11_reads_14 : decode cX11_reads 14 = .ok (.iload_n 1, 1) := by decide +kernel
theorem dX11_reads_15 : decode cX11_reads 15 = .ok (.iaload, 1) := by decide +kernel
theorem dX11_reads_16 : decode cX11_reads 16 = .ok (.aload_n 0, 1) := by decide +kernel
theorem dX11_reads_17 : decode cX11_reads 17 = .ok (.getfield 17, 3) := by decide +kernel
theorem dX11_reads_20 : decode cX11_reads 20 = .ok (.iload_n 2, 1) := by decide +kernel
theorem dX11_reads_21 : decode cX11_reads 21 = .ok (.iaload, 1) := by decide +kernel
theorem dX11_reads_22 : decode cX11_reads 22 = .ok (.if_icmp .ge 5, 3) := by decide +kernel
theorem dX11_reads_25 : decode cX11_reads 25 = .ok (.iconst 0, 1) := by decide +kernel
theorem dX11_reads_26 : decode cX11_reads 26 = .ok (.ireturn, 1) := by decide +kernel
theorem dX11_reads_27 : decode cX11_reads 27 = .ok (.iconst 0, 1) := by decide +kernel
theorem dX11_reads_28 : decode cX11_reads 28 = .ok (.istore_n 3, 1) := by decide +kernel
theorem dX11_reads_29 : decode cX11_reads 29 = .ok (.iload_n 3, 1) := by decide +kernel
theorem dX11_reads_30 : decode cX11_reads 30 = .ok (.aload_n 0, 1) := by decide +kernel
theorem dX11_reads_31 : decode cX11_reads 31 = .ok (.getfield 17, 3) := by decide +kernel
theorem dX11_reads_34 : decode cX11_reads 34 = .ok (.iload_n 2, 1) := by decide +kernel
theorem dX11_reads_35 : decode cX11_reads 35 = .ok (.iaload, 1) := by decide +kernel
theorem dX11_reads_36 : decode cX11_reads 36 = .ok (.if_icmp .ge 30, 3) := by decide +kernel
theorem dX11_reads_39 : decode cX11_reads 39 = .ok (.aload_n 0, 1) := by decide +kernel
theorem dX11_reads_40 : decode cX11_reads 40 = .ok (.iload_n 1, 1) := by decide +kernel
theorem dX11_reads_41 : decode cX11_reads 41 = .ok (.iload_n 3, 1) := by decide +kernel
theorem dX11_reads_42 : decode cX11_reads 42 = .ok (.invokevirtual 145, 3) := by decide +kernel
theorem dX11_reads_45 : decode cX11_reads 45 = .ok (.aload_n 0, 1) := by decide +kernel
theorem dX11_reads_46 : decode cX11_reads 46 = .ok (.getfield 13, 3) := by decide +kernel
theorem dX11_reads_49 : decode cX11_reads 49 = .ok (.iconst 4, 1) := by decide +kernel
theorem dX11_reads_50 : decode cX11_reads 50 = .ok (.iload_n 2, 1) := by decide +kernel
theorem dX11_reads_51 : decode cX11_reads 51 = .ok (.imul, 1) := by decide +kernel
theorem dX11_reads_52 : decode cX11_reads 52 = .ok (.iload_n 3, 1) := by decide +kernel
theorem dX11_reads_53 : decode cX11_reads 53 = .ok (.iadd, 1) := by decide +kernel
theorem dX11_reads_54 : decode cX11_reads 54 = .ok (.iaload, 1) := by decide +kernel
theorem dX11_reads_55 : decode cX11_reads 55 = .ok (.if_icmp .eq 5, 3) := by decide +kernel
theorem dX11_reads_58 : decode cX11_reads 58 = .ok (.iconst 0, 1) := by decide +kernel
theorem dX11_reads_59 : decode cX11_reads 59 = .ok (.ireturn, 1) := by decide +kernel
theorem dX11_reads_60 : decode cX11_reads 60 = .ok (.iinc 3 1, 3) := by decide +kernel
theorem dX11_reads_63 : decode cX11_reads 63 = .ok (.goto (-34), 3) := by decide +kernel
theorem dX11_reads_66 : decode cX11_reads 66 = .ok (.aload_n 0, 1) := by decide +kernel
theorem dX11_reads_67 : decode cX11_reads 67 = .ok (.getfield 33, 3) := by decide +kernel
theorem dX11_reads_70 : decode cX11_reads 70 = .ok (.iload_n 1, 1) := by decide +kernel
theorem dX11_reads_71 : decode cX11_reads 71 = .ok (.iaload, 1) := by decide +kernel
theorem dX11_reads_72 : decode cX11_reads 72 = .ok (.istore_n 3, 1) := by decide +kernel
theorem dX11_reads_73 : decode cX11_reads 73 = .ok (.aload_n 0, 1) := by decide +kernel
theorem dX11_reads_74 : decode cX11_reads 74 = .ok (.getfield 23, 3) := by decide +kernel
theorem dX11_reads_77 : decode cX11_reads 77 = .ok (.iload_n 2, 1) := by decide +kernel
theorem dX11_reads_78 : decode cX11_reads 78 = .ok (.baload, 1) := by decide +kernel
theorem dX11_reads_79 : decode cX11_reads 79 = .ok (.ifCond .eq 116, 3) := by decide +kernel
theorem dX11_reads_82 : decode cX11_reads 82 = .ok (.aload_n 0, 1) := by decide +kernel
theorem dX11_reads_83 : decode cX11_reads 83 = .ok (.getfield 33, 3) := by decide +kernel
theorem dX11_reads_86 : decode cX11_reads 86 = .ok (.iload_n 1, 1) := by decide +kernel
theorem dX11_reads_87 : decode cX11_reads 87 = .ok (.iaload, 1) := by decide +kernel
theorem dX11_reads_88 : decode cX11_reads 88 = .ok (.aload_n 0, 1) := by decide +kernel
theorem dX11_reads_89 : decode cX11_reads 89 = .ok (.getfield 17, 3) := by decide +kernel
theorem dX11_reads_92 : decode cX11_reads 92 = .ok (.iload_n 2, 1) := by decide +kernel
theorem dX11_reads_93 : decode cX11_reads 93 = .ok (.iaload, 1) := by decide +kernel
theorem dX11_reads_94 : decode cX11_reads 94 = .ok (.if_icmp .le 7, 3) := by decide +kernel
theorem dX11_reads_97 : decode cX11_reads 97 = .ok (.iconst 1, 1) := by decide +kernel
theorem dX11_reads_98 : decode cX11_reads 98 = .ok (.goto 4, 3) := by decide +kernel
theorem dX11_reads_101 : decode cX11_reads 101 = .ok (.iconst 0, 1) := by decide +kernel
theorem dX11_reads_102 : decode cX11_reads 102 = .ok (.istore 4, 2) := by decide +kernel
theorem dX11_reads_104 : decode cX11_reads 104 = .ok (.iconst 0, 1) := by decide +kernel
theorem dX11_reads_105 : decode cX11_reads 105 = .ok (.istore 5, 2) := by decide +kernel
theorem dX11_reads_107 : decode cX11_reads 107 = .ok (.iconst 0, 1) := by decide +kernel
theorem dX11_reads_108 : decode cX11_reads 108 = .ok (.istore 6, 2) := by decide +kernel
theorem dX11_reads_110 : decode cX11_reads 110 = .ok (.iload 6, 2) := by decide +kernel
theorem dX11_reads_112 : decode cX11_reads 112 = .ok (.aload_n 0, 1) := by decide +kernel
theorem dX11_reads_113 : decode cX11_reads 113 = .ok (.getfield 33, 3) := by decide +kernel
theorem dX11_reads_116 : decode cX11_reads 116 = .ok (.iload_n 1, 1) := by decide +kernel
theorem dX11_reads_117 : decode cX11_reads 117 = .ok (.iaload, 1) := by decide +kernel
theorem dX11_reads_118 : decode cX11_reads 118 = .ok (.iconst 1, 1) := by decide +kernel
theorem dX11_reads_119 : decode cX11_reads 119 = .ok (.isub, 1) := by decide +kernel
theorem dX11_reads_120 : decode cX11_reads 120 = .ok (.if_icmp .ge 21, 3) := by decide +kernel
theorem dX11_reads_123 : decode cX11_reads 123 = .ok (.iload 5, 2) := by decide +kernel
theorem dX11_reads_125 : decode cX11_reads 125 = .ok (.aload_n 0, 1) := by decide +kernel
theorem dX11_reads_126 : decode cX11_reads 126 = .ok (.iload_n 1, 1) := by decide +kernel
theorem dX11_reads_127 : decode cX11_reads 127 = .ok (.iload 6, 2) := by decide +kernel
theorem dX11_reads_129 : decode cX11_reads 129 = .ok (.invokevirtual 145, 3) := by decide +kernel
theorem dX11_reads_132 : decode cX11_reads 132 = .ok (.iadd, 1) := by decide +kernel
theorem dX11_reads_133 : decode cX11_reads 133 = .ok (.istore 5, 2) := by decide +kernel
theorem dX11_reads_135 : decode cX11_reads 135 = .ok (.iinc 6 1, 3) := by decide +kernel
theorem dX11_reads_138 : decode cX11_reads 138 = .ok (.goto (-28), 3) := by decide +kernel
theorem dX11_reads_141 : decode cX11_reads 141 = .ok (.aload_n 0, 1) := by decide +kernel
theorem dX11_reads_142 : decode cX11_reads 142 = .ok (.dup, 1) := by decide +kernel
theorem dX11_reads_143 : decode cX11_reads 143 = .ok (.getfield 142, 3) := by decide +kernel
theorem dX11_reads_146 : decode cX11_reads 146 = .ok (.iload 4, 2) := by decide +kernel
theorem dX11_reads_148 : decode cX11_reads 148 = .ok (.ifCond .eq 29, 3) := by decide +kernel
theorem dX11_reads_151 : decode cX11_reads 151 = .ok (.iload 5, 2) := by decide +kernel
theorem dX11_reads_153 : decode cX11_reads 153 = .ok (.sipush 256, 3) := by decide +kernel
theorem dX11_reads_156 : decode cX11_reads 156 = .ok (.irem, 1) := by decide +kernel
theorem dX11_reads_157 : decode cX11_reads 157 = .ok (.aload_n 0, 1) := by decide +kernel
theorem dX11_reads_158 : decode cX11_reads 158 = .ok (.iload_n 1, 1) := by decide +kernel
theorem dX11_reads_159 : decode cX11_reads 159 = .ok (.aload_n 0, 1) := by decide +kernel
theorem dX11_reads_160 : decode cX11_reads 160 = .ok (.getfield 33, 3) := by decide +kernel
theorem dX11_reads_163 : decode cX11_reads 163 = .ok (.iload_n 1, 1) := by decide +kernel
theorem dX11_reads_164 : decode cX11_reads 164 = .ok (.iaload, 1) := by decide +kernel
theorem dX11_reads_165 : decode cX11_reads 165 = .ok (.iconst 1, 1) := by decide +kernel
theorem dX11_reads_166 : decode cX11_reads 166 = .ok (.isub, 1) := by decide +kernel
theorem dX11_reads_167 : decode cX11_reads 167 = .ok (.invokevirtual 145, 3) := by decide +kernel
theorem dX11_reads_170 : decode cX11_reads 170 = .ok (.if_icmp .ne 7, 3) := by decide +kernel
theorem dX11_reads_173 : decode cX11_reads 173 = .ok (.iconst 0, 1) := by decide +kernel
theorem dX11_reads_174 : decode cX11_reads 174 = .ok (.goto 4, 3) := by decide +kernel
theorem dX11_reads_177 : decode cX11_reads 177 = .ok (.iconst 1, 1) := by decide +kernel
theorem dX11_reads_178 : decode cX11_reads 178 = .ok (.iadd, 1) := by decide +kernel
theorem dX11_reads_179 : decode cX11_reads 179 = .ok (.putfield 142, 3) := by decide +kernel
theorem dX11_reads_182 : decode cX11_reads 182 = .ok (.iload_n 3, 1) := by decide +kernel
theorem dX11_reads_183 : decode cX11_reads 183 = .ok (.iload 4, 2) := by decide +kernel
theorem dX11_reads_185 : decode cX11_reads 185 = .ok (.ifCond .eq 7, 3) := by decide +kernel
theorem dX11_reads_188 : decode cX11_reads 188 = .ok (.iconst 1, 1) := by decide +kernel
theorem dX11_reads_189 : decode cX11_reads 189 = .ok (.goto 4, 3) := by decide +kernel
theorem dX11_reads_192 : decode cX11_reads 192 = .ok (.iconst 0, 1) := by decide +kernel
theorem dX11_reads_193 : decode cX11_reads 193 = .ok (.isub, 1) := by decide +kernel
theorem dX11_reads_194 : decode cX11_reads 194 = .ok (.istore_n 3, 1) := by decide +kernel
theorem dX11_reads_195 : decode cX11_reads 195 = .ok (.aload_n 0, 1) := by decide +kernel
theorem dX11_reads_196 : decode cX11_reads 196 = .ok (.getfield 17, 3) := by decide +kernel
theorem dX11_reads_199 : decode cX11_reads 199 = .ok (.iload_n 2, 1) := by decide +kernel
theorem dX11_reads_200 : decode cX11_reads 200 = .ok (.iaload, 1) := by decide +kernel
theorem dX11_reads_201 : decode cX11_reads 201 = .ok (.istore 4, 2) := by decide +kernel
theorem dX11_reads_203 : decode cX11_reads 203 = .ok (.iload 4, 2) := by decide +kernel
theorem dX11_reads_205 : decode cX11_reads 205 = .ok (.iload_n 3, 1) := by decide +kernel
theorem dX11_reads_206 : decode cX11_reads 206 = .ok (.if_icmp .ge 182, 3) := by decide +kernel
theorem dX11_reads_209 : decode cX11_reads 209 = .ok (.aload_n 0, 1) := by decide +kernel
theorem dX11_reads_210 : decode cX11_reads 210 = .ok (.iload_n 1, 1) := by decide +kernel
theorem dX11_reads_211 : decode cX11_reads 211 = .ok (.iload 4, 2) := by decide +kernel
theorem dX11_reads_213 : decode cX11_reads 213 = .ok (.invokevirtual 145, 3) := by decide +kernel
theorem dX11_reads_216 : decode cX11_reads 216 = .ok (.istore 5, 2) := by decide +kernel
theorem dX11_reads_218 : decode cX11_reads 218 = .ok (.iload 4, 2) := by decide +kernel
theorem dX11_reads_220 : decode cX11_reads 220 = .ok (.iconst 1, 1) := by decide +kernel
theorem dX11_reads_221 : decode cX11_reads 221 = .ok (.iadd, 1) := by decide +kernel
theorem dX11_reads_222 : decode cX11_reads 222 = .ok (.iload_n 3, 1) := by decide +kernel
theorem dX11_reads_223 : decode cX11_reads 223 = .ok (.if_icmp .ge 15, 3) := by decide +kernel
theorem dX11_reads_226 : decode cX11_reads 226 = .ok (.aload_n 0, 1) := by decide +kernel
theorem dX11_reads_227 : decode cX11_reads 227 = .ok (.iload_n 1, 1) := by decide +kernel
theorem dX11_reads_228 : decode cX11_reads 228 = .ok (.iload 4, 2) := by decide +kernel
theorem dX11_reads_230 : decode cX11_reads 230 = .ok (.iconst 1, 1) := by decide +kernel
theorem dX11_reads_231 : decode cX11_reads 231 = .ok (.iadd, 1) := by decide +kernel
theorem dX11_reads_232 : decode cX11_reads 232 = .ok (.invokevirtual 145, 3) := by decide +kernel
theorem dX11_reads_235 : decode cX11_reads 235 = .ok (.goto 5, 3) := by decide +kernel
theorem dX11_reads_238 : decode cX11_reads 238 = .ok (.bipush 60, 2) := by decide +kernel
theorem dX11_reads_240 : decode cX11_reads 240 = .ok (.istore 6, 2) := by decide +kernel
theorem dX11_reads_242 : decode cX11_reads 242 = .ok (.iload 4, 2) := by decide +kernel
theorem dX11_reads_244 : decode cX11_reads 244 = .ok (.iconst 2, 1) := by decide +kernel
theorem dX11_reads_245 : decode cX11_reads 245 = .ok (.iadd, 1) := by decide +kernel
theorem dX11_reads_246 : decode cX11_reads 246 = .ok (.iload 6, 2) := by decide +kernel
theorem dX11_reads_248 : decode cX11_reads 248 = .ok (.iadd, 1) := by decide +kernel
theorem dX11_reads_249 : decode cX11_reads 249 = .ok (.iload_n 3, 1) := by decide +kernel
theorem dX11_reads_250 : decode cX11_reads 250 = .ok (.if_icmp .le 7, 3) := by decide +kernel
theorem dX11_reads_253 : decode cX11_reads 253 = .ok (.iconst 1, 1) := by decide +kernel
theorem dX11_reads_254 : decode cX11_reads 254 = .ok (.goto 4, 3) := by decide +kernel
theorem dX11_reads_257 : decode cX11_reads 257 = .ok (.iconst 0, 1) := by decide +kernel
theorem dX11_reads_258 : decode cX11_reads 258 = .ok (.istore 7, 2) := by decide +kernel
theorem dX11_reads_260 : decode cX11_reads 260 = .ok (.iload 5, 2) := by decide +kernel
theorem dX11_reads_262 : decode cX11_reads 262 = .ok (.bipush 12, 2) := by decide +kernel
theorem dX11_reads_264 : decode cX11_reads 264 = .ok (.if_icmp .ge 21, 3) := by decide +kernel
theorem dX11_reads_267 : decode cX11_reads 267 = .ok (.aload_n 0, 1) := by decide +kernel
theorem dX11_reads_268 : decode cX11_reads 268 = .ok (.getfield 20, 3) := by decide +kernel
theorem dX11_reads_271 : decode cX11_reads 271 = .ok (.iload_n 2, 1) := by decide +kernel
theorem dX11_reads_272 : decode cX11_reads 272 = .ok (.iaload, 1) := by decide +kernel
theorem dX11_reads_273 : decode cX11_reads 273 = .ok (.iload 5, 2) := by decide +kernel
theorem dX11_reads_275 : decode cX11_reads 275 = .ok (.invokestatic 149, 3) := by decide +kernel
theorem dX11_reads_278 : decode cX11_reads 278 = .ok (.ifCond .eq 7, 3) := by decide +kernel
theorem dX11_reads_281 : decode cX11_reads 281 = .ok (.iconst 1, 1) := by decide +kernel
theorem dX11_reads_282 : decode cX11_reads 282 = .ok (.goto 4, 3) := by decide +kernel
theorem dX11_reads_285 : decode cX11_reads 285 = .ok (.iconst 0, 1) := by decide +kernel
theorem dX11_reads_286 : decode cX11_reads 286 = .ok (.istore 8, 2) := by decide +kernel
theorem dX11_reads_288 : decode cX11_reads 288 = .ok (.aload_n 0, 1) := by decide +kernel
theorem dX11_reads_289 : decode cX11_reads 289 = .ok (.dup, 1) := by decide +kernel
theorem dX11_reads_290 : decode cX11_reads 290 = .ok (.getfield 142, 3) := by decide +kernel
theorem dX11_reads_293 : decode cX11_reads 293 = .ok (.iload 8, 2) := by decide +kernel
theorem dX11_reads_295 : decode cX11_reads 295 = .ok (.ifCond .eq 12, 3) := by decide +kernel
theorem dX11_reads_298 : decode cX11_reads 298 = .ok (.iload 7, 2) := by decide +kernel
theorem dX11_reads_300 : decode cX11_reads 300 = .ok (.ifCond .ne 7, 3) := by decide +kernel
theorem dX11_reads_303 : decode cX11_reads 303 = .ok (.iconst 0, 1) := by decide +kernel
theorem dX11_reads_304 : decode cX11_reads 304 = .ok (.goto 4, 3) := by decide +kernel
theorem dX11_reads_307 : decode cX11_reads 307 = .ok (.iconst 1, 1) := by decide +kernel
theorem dX11_reads_308 : decode cX11_reads 308 = .ok (.iadd, 1) := by decide +kernel
theorem dX11_reads_309 : decode cX11_reads 309 = .ok (.putfield 142, 3) := by decide +kernel
theorem dX11_reads_312 : decode cX11_reads 312 = .ok (.iload 8, 2) := by decide +kernel
theorem dX11_reads_314 : decode cX11_reads 314 = .ok (.ifCond .eq 53, 3) := by decide +kernel
theorem dX11_reads_317 : decode cX11_reads 317 = .ok (.iload 7, 2) := by decide +kernel
theorem dX11_reads_319 : decode cX11_reads 319 = .ok (.ifCond .ne 48, 3) := by decide +kernel
theorem dX11_reads_322 : decode cX11_reads 322 = .ok (.aload_n 0, 1) := by decide +kernel
theorem dX11_reads_323 : decode cX11_reads 323 = .ok (.getfield 69, 3) := by decide +kernel
theorem dX11_reads_326 : decode cX11_reads 326 = .ok (.aload_n 0, 1) := by decide +kernel
theorem dX11_reads_327 : decode cX11_reads 327 = .ok (.getfield 139, 3) := by decide +kernel
theorem dX11_reads_330 : decode cX11_reads 330 = .ok (.iload 5, 2) := by decide +kernel
theorem dX11_reads_332 : decode cX11_reads 332 = .ok (.iastore, 1) := by decide +kernel
theorem dX11_reads_333 : decode cX11_reads 333 = .ok (.aload_n 0, 1) := by decide +kernel
theorem dX11_reads_334 : decode cX11_reads 334 = .ok (.getfield 72, 3) := by decide +kernel
theorem dX11_reads_337 : decode cX11_reads 337 = .ok (.aload_n 0, 1) := by decide +kernel
theorem dX11_reads_338 : decode cX11_reads 338 = .ok (.getfield 139, 3) := by decide +kernel
theorem dX11_reads_341 : decode cX11_reads 341 = .ok (.iload 4, 2) := by decide +kernel
theorem dX11_reads_343 : decode cX11_reads 343 = .ok (.iconst 2, 1) := by decide +kernel
theorem dX11_reads_344 : decode cX11_reads 344 = .ok (.iadd, 1) := by decide +kernel
theorem dX11_reads_345 : decode cX11_reads 345 = .ok (.iastore, 1) := by decide +kernel
theorem dX11_reads_346 : decode cX11_reads 346 = .ok (.aload_n 0, 1) := by decide +kernel
theorem dX11_reads_347 : decode cX11_reads 347 = .ok (.getfield 75, 3) := by decide +kernel
theorem dX11_reads_350 : decode cX11_reads 350 = .ok (.aload_n 0, 1) := by decide +kernel
theorem dX11_reads_351 : decode cX11_reads 351 = .ok (.getfield 139, 3) := by decide +kernel
theorem dX11_reads_354 : decode cX11_reads 354 = .ok (.iload 6, 2) := by decide +kernel
theorem dX11_reads_356 : decode cX11_reads 356 = .ok (.iastore, 1) := by decide +kernel
theorem dX11_reads_357 : decode cX11_reads 357 = .ok (.aload_n 0, 1) := by decide +kernel
theorem dX11_reads_358 : decode cX11_reads 358 = .ok (.dup, 1) := by decide +kernel
theorem dX11_reads_359 : decode cX11_reads 359 = .ok (.getfield 139, 3) := by decide +kernel
theorem dX11_reads_362 : decode cX11_reads 362 = .ok (.iconst 1, 1) := by decide +kernel
theorem dX11_reads_363 : decode cX11_reads 363 = .ok (.iadd, 1) := by decide +kernel
theorem dX11_reads_364 : decode cX11_reads 364 = .ok (.putfield 139, 3) := by decide +kernel
theorem dX11_reads_367 : decode cX11_reads 367 = .ok (.iload 7, 2) := by decide +kernel
theorem dX11_reads_369 : decode cX11_reads 369 = .ok (.ifCond .eq 7, 3) := by decide +kernel
theorem dX11_reads_372 : decode cX11_reads 372 = .ok (.iload_n 3, 1) := by decide +kernel
theorem dX11_reads_373 : decode cX11_reads 373 = .ok (.goto 10, 3) := by decide +kernel
theorem dX11_reads_376 : decode cX11_reads 376 = .ok (.iload 4, 2) := by decide +kernel
theorem dX11_reads_378 : decode cX11_reads 378 = .ok (.iconst 2, 1) := by decide +kernel
theorem dX11_reads_379 : decode cX11_reads 379 = .ok (.iadd, 1) := by decide +kernel
theorem dX11_reads_380 : decode cX11_reads 380 = .ok (.iload 6, 2) := by decide +kernel
theorem dX11_reads_382 : decode cX11_reads 382 = .ok (.iadd, 1) := by decide +kernel
theorem dX11_reads_383 : decode cX11_reads 383 = .ok (.istore 4, 2) := by decide +kernel
theorem dX11_reads_385 : decode cX11_reads 385 = .ok (.goto (-182), 3) := by decide +kernel
theorem dX11_reads_388 : decode cX11_reads 388 = .ok (.iconst 1, 1) := by decide +kernel
theorem dX11_reads_389 : decode cX11_reads 389 = .ok (.ireturn, 1) := by decide +kernel
theorem dX11_bends_0 : decode cX11_bends 0 = .ok (.aload_n 0, 1) := by decide +kernel
theorem dX11_bends_1 : decode cX11_bends 1 = .ok (.iload_n 1, 1) := by decide +kernel
theorem dX11_bends_2 : decode cX11_bends 2 = .ok (.invokevirtual 120, 3) := by decide +kernel
theorem dX11_bends_5 : decode cX11_bends 5 = .ok (.ifCond .eq 11, 3) := by decide +kernel
theorem dX11_bends_8 : decode cX11_bends 8 = .ok (.aload_n 0, 1) := by decide +kernel
theorem dX11_bends_9 : decode cX11_bends 9 = .ok (.iload_n 2, 1) := by decide +kernel
theorem dX11_bends_10 : decode cX11_bends 10 = .ok (.invokevirtual 127, 3) := by decide +kernel
theorem dX11_bends_13 : decode cX11_bends 13 = .ok (.ifCond .ne 5, 3) := by decide +kernel
theorem dX11_bends_16 : decode cX11_bends 16 = .ok (.iconst (-1), 1) := by decide +kernel
theorem dX11_bends_17 : decode cX11_bends 17 = .ok (.ireturn, 1) := by decide +kernel
theorem dX11_bends_18 : decode cX11_bends 18 = .ok (.aload_n 0, 1) := by decide +kernel
theorem dX11_bends_19 : decode cX11_bends 19 = .ok (.iload_n 1, 1) := by decide +kernel
theorem dX11_bends_20 : decode cX11_bends 20 = .ok (.iload_n 2, 1) := by decide +kernel
theorem dX11_bends_21 : decode cX11_bends 21 = .ok (.invokevirtual 153, 3) := by decide +kernel
theorem dX11_bends_24 : decode cX11_bends 24 = .ok (.ifCond .eq 10, 3) := by decide +kernel
theorem dX11_bends_27 : decode cX11_bends 27 = .ok (.aload_n 0, 1) := by decide +kernel
theorem dX11_bends_28 : decode cX11_bends 28 = .ok (.getfield 142, 3) := by decide +kernel
theorem dX11_bends_31 : decode cX11_bends 31 = .ok (.goto 5, 3) := by decide +kernel
theorem dX11_bends_34 : decode cX11_bends 34 = .ok (.bipush (-2), 2) := by decide +kernel
theorem dX11_bends_36 : decode cX11_bends 36 = .ok (.ireturn, 1) := by decide +kernel
theorem dX11_knows_0 : decode cX11_knows 0 = .ok (.iconst (-1), 1) := by decide +kernel
theorem dX11_knows_1 : decode cX11_knows 1 = .ok (.istore_n 2, 1) := by decide +kernel
theorem dX11_knows_2 : decode cX11_knows 2 = .ok (.iconst 0, 1) := by decide +kernel
theorem dX11_knows_3 : decode cX11_knows 3 = .ok (.istore_n 3, 1) := by decide +kernel
theorem dX11_knows_4 : decode cX11_knows 4 = .ok (.iconst 0, 1) := by decide +kernel
theorem dX11_knows_5 : decode cX11_knows 5 = .ok (.istore 4, 2) := by decide +kernel
theorem dX11_knows_7 : decode cX11_knows 7 = .ok (.iload 4, 2) := by decide +kernel
theorem dX11_knows_9 : decode cX11_knows 9 = .ok (.aload_n 0, 1) := by decide +kernel
theorem dX11_knows_10 : decode cX11_knows 10 = .ok (.getfield 114, 3) := by decide +kernel
theorem dX11_knows_13 : decode cX11_knows 13 = .ok (.if_icmp .ge 57, 3) := by decide +kernel
theorem dX11_knows_16 : decode cX11_knows 16 = .ok (.aload_n 0, 1) := by decide +kernel
theorem dX11_knows_17 : decode cX11_knows 17 = .ok (.iload_n 1, 1) := by decide +kernel
theorem dX11_knows_18 : decode cX11_knows 18 = .ok (.iload 4, 2) := by decide +kernel
theorem dX11_knows_20 : decode cX11_knows 20 = .ok (.invokevirtual 153, 3) := by decide +kernel
theorem dX11_knows_23 : decode cX11_knows 23 = .ok (.ifCond .eq 41, 3) := by decide +kernel
theorem dX11_knows_26 : decode cX11_knows 26 = .ok (.aload_n 0, 1) := by decide +kernel
theorem dX11_knows_27 : decode cX11_knows 27 = .ok (.getfield 142, 3) := by decide +kernel
theorem dX11_knows_30 : decode cX11_knows 30 = .ok (.aload_n 0, 1) := by decide +kernel
theorem dX11_knows_31 : decode cX11_knows 31 = .ok (.getfield 27, 3) := by decide +kernel
theorem dX11_knows_34 : decode cX11_knows 34 = .ok (.iload 4, 2) := by decide +kernel
theorem dX11_knows_36 : decode cX11_knows 36 = .ok (.iaload, 1) := by decide +kernel
theorem dX11_knows_37 : decode cX11_knows 37 = .ok (.if_icmp .gt 27, 3) := by decide +kernel
theorem dX11_knows_40 : decode cX11_knows 40 = .ok (.iload_n 2, 1) := by decide +kernel
theorem dX11_knows_41 : decode cX11_knows 41 = .ok (.iconst (-1), 1) := by decide +kernel
theorem dX11_knows_42 : decode cX11_knows 42 = .ok (.if_icmp .eq 14, 3) := by decide +kernel
theorem dX11_knows_45 : decode cX11_knows 45 = .ok (.aload_n 0, 1) := by decide +kernel
theorem dX11_knows_46 : decode cX11_knows 46 = .ok (.getfield 142, 3) := by decide +kernel
theorem dX11_knows_49 : decode cX11_knows 49 = .ok (.iload_n 3, 1) := by decide +kernel
theorem dX11_knows_50 : decode cX11_knows 50 = .ok (.if_icmp .lt 6, 3) := by decide +kernel
theorem dX11_knows_53 : decode cX11_knows 53 = .ok (.goto 11, 3) := by decide +kernel
theorem dX11_knows_56 : decode cX11_knows 56 = .ok (.iload 4, 2) := by decide +kernel
theorem dX11_knows_58 : decode cX11_knows 58 = .ok (.istore_n 2, 1) := by decide +kernel
theorem dX11_knows_59 : decode cX11_knows 59 = .ok (.aload_n 0, 1) := by decide +kernel
theorem dX11_knows_60 : decode cX11_knows 60 = .ok (.getfield 142, 3) := by decide +kernel
theorem dX11_knows_63 : decode cX11_knows 63 = .ok (.istore_n 3, 1) := by decide +kernel
theorem dX11_knows_64 : decode cX11_knows 64 = .ok (.iinc 4 1, 3) := by decide +kernel
theorem dX11_knows_67 : decode cX11_knows 67 = .ok (.goto (-60), 3) := by decide +kernel
theorem dX11_knows_70 : decode cX11_knows 70 = .ok (.iload_n 2, 1) := by decide +kernel
theorem dX11_knows_71 : decode cX11_knows 71 = .ok (.iconst (-1), 1) := by decide +kernel
theorem dX11_knows_72 : decode cX11_knows 72 = .ok (.if_icmp .ne 11, 3) := by decide +kernel
theorem dX11_knows_75 : decode cX11_knows 75 = .ok (.aload_n 0, 1) := by decide +kernel
theorem dX11_knows_76 : decode cX11_knows 76 = .ok (.iconst 0, 1) := by decide +kernel
theorem dX11_knows_77 : decode cX11_knows 77 = .ok (.putfield 139, 3) := by decide +kernel
theorem dX11_knows_80 : decode cX11_knows 80 = .ok (.goto 11, 3) := by decide +kernel
theorem dX11_knows_83 : decode cX11_knows 83 = .ok (.aload_n 0, 1) := by decide +kernel
theorem dX11_knows_84 : decode cX11_knows 84 = .ok (.iload_n 1, 1) := by decide +kernel
theorem dX11_knows_85 : decode cX11_knows 85 = .ok (.iload_n 2, 1) := by decide +kernel
theorem dX11_knows_86 : decode cX11_knows 86 = .ok (.invokevirtual 153, 3) := by decide +kernel
theorem dX11_knows_89 : decode cX11_knows 89 = .ok (.istore 4, 2) := by decide +kernel
theorem dX11_knows_91 : decode cX11_knows 91 = .ok (.iload_n 2, 1) := by decide +kernel
theorem dX11_knows_92 : decode cX11_knows 92 = .ok (.ireturn, 1) := by decide +kernel
theorem dX11_know_0 : decode cX11_know 0 = .ok (.aload_n 0, 1) := by decide +kernel
theorem dX11_know_1 : decode cX11_know 1 = .ok (.iload_n 1, 1) := by decide +kernel
theorem dX11_know_2 : decode cX11_know 2 = .ok (.invokevirtual 120, 3) := by decide +kernel
theorem dX11_know_5 : decode cX11_know 5 = .ok (.ifCond .eq 11, 3) := by decide +kernel
theorem dX11_know_8 : decode cX11_know 8 = .ok (.aload_n 0, 1) := by decide +kernel
theorem dX11_know_9 : decode cX11_know 9 = .ok (.iload_n 1, 1) := by decide +kernel
theorem dX11_know_10 : decode cX11_know 10 = .ok (.invokevirtual 156, 3) := by decide +kernel
theorem dX11_know_13 : decode cX11_know 13 = .ok (.goto 4, 3) := by decide +kernel
theorem dX11_know_16 : decode cX11_know 16 = .ok (.iconst (-1), 1) := by decide +kernel
theorem dX11_know_17 : decode cX11_know 17 = .ok (.ireturn, 1) := by decide +kernel
theorem dX11_record_0 : decode cX11_record 0 = .ok (.aload_n 0, 1) := by decide +kernel
theorem dX11_record_1 : decode cX11_record 1 = .ok (.iload_n 1, 1) := by decide +kernel
theorem dX11_record_2 : decode cX11_record 2 = .ok (.invokevirtual 120, 3) := by decide +kernel
theorem dX11_record_5 : decode cX11_record 5 = .ok (.ifCond .eq 26, 3) := by decide +kernel
theorem dX11_record_8 : decode cX11_record 8 = .ok (.aload_n 0, 1) := by decide +kernel
theorem dX11_record_9 : decode cX11_record 9 = .ok (.iload_n 1, 1) := by decide +kernel
theorem dX11_record_10 : decode cX11_record 10 = .ok (.invokevirtual 156, 3) := by decide +kernel
theorem dX11_record_13 : decode cX11_record 13 = .ok (.iconst (-1), 1) := by decide +kernel
theorem dX11_record_14 : decode cX11_record 14 = .ok (.if_icmp .eq 17, 3) := by decide +kernel
theorem dX11_record_17 : decode cX11_record 17 = .ok (.iload_n 2, 1) := by decide +kernel
theorem dX11_record_18 : decode cX11_record 18 = .ok (.iconst 0, 1) := by decide +kernel
theorem dX11_record_19 : decode cX11_record 19 = .ok (.aload_n 0, 1) := by decide +kernel
theorem dX11_record_20 : decode cX11_record 20 = .ok (.getfield 139, 3) := by decide +kernel
theorem dX11_record_23 : decode cX11_record 23 = .ok (.iconst 1, 1) := by decide +kernel
theorem dX11_record_24 : decode cX11_record 24 = .ok (.isub, 1) := by decide +kernel
theorem dX11_record_25 : decode cX11_record 25 = .ok (.invokestatic 110, 3) := by decide +kernel
theorem dX11_record_28 : decode cX11_record 28 = .ok (.ifCond .ne 5, 3) := by decide +kernel
theorem dX11_record_31 : decode cX11_record 31 = .ok (.iconst (-1), 1) := by decide +kernel
theorem dX11_record_32 : decode cX11_record 32 = .ok (.ireturn, 1) := by decide +kernel
theorem dX11_record_33 : decode cX11_record 33 = .ok (.iload_n 3, 1) := by decide +kernel
theorem dX11_record_34 : decode cX11_record 34 = .ok (.ifCond .ne 12, 3) := by decide +kernel
theorem dX11_record_37 : decode cX11_record 37 = .ok (.aload_n 0, 1) := by decide +kernel
theorem dX11_record_38 : decode cX11_record 38 = .ok (.getfield 69, 3) := by decide +kernel
theorem dX11_record_41 : decode cX11_record 41 = .ok (.iload_n 2, 1) := by decide +kernel
theorem dX11_record_42 : decode cX11_record 42 = .ok (.iaload, 1) := by decide +kernel
theorem dX11_record_43 : decode cX11_record 43 = .ok (.goto 32, 3) := by decide +kernel
theorem dX11_record_46 : decode cX11_record 46 = .ok (.iload_n 3, 1) := by decide +kernel
theorem dX11_record_47 : decode cX11_record 47 = .ok (.iconst 1, 1) := by decide +kernel
theorem dX11_record_48 : decode cX11_record 48 = .ok (.if_icmp .ne 12, 3) := by decide +kernel
theorem dX11_record_51 : decode cX11_record 51 = .ok (.aload_n 0, 1) := by decide +kernel
theorem dX11_record_52 : decode cX11_record 52 = .ok (.getfield 75, 3) := by decide +kernel
theorem dX11_record_55 : decode cX11_record 55 = .ok (.iload_n 2, 1) := by decide +kernel
theorem dX11_record_56 : decode cX11_record 56 = .ok (.iaload, 1) := by decide +kernel
theorem dX11_record_57 : decode cX11_record 57 = .ok (.goto 18, 3) := by decide +kernel
theorem dX11_record_60 : decode cX11_record 60 = .ok (.iload_n 3, 1) := by decide +kernel
theorem dX11_record_61 : decode cX11_record 61 = .ok (.iconst 2, 1) := by decide +kernel
theorem dX11_record_62 : decode cX11_record 62 = .ok (.if_icmp .ne 12, 3) := by decide +kernel
theorem dX11_record_65 : decode cX11_record 65 = .ok (.aload_n 0, 1) := by decide +kernel
theorem dX11_record_66 : decode cX11_record 66 = .ok (.getfield 72, 3) := by decide +kernel
theorem dX11_record_69 : decode cX11_record 69 = .ok (.iload_n 2, 1) := by decide +kernel
theorem dX11_record_70 : decode cX11_record 70 = .ok (.iaload, 1) := by decide +kernel
theorem dX11_record_71 : decode cX11_record 71 = .ok (.goto 4, 3) := by decide +kernel
theorem dX11_record_74 : decode cX11_record 74 = .ok (.iconst (-1), 1) := by decide +kernel
theorem dX11_record_75 : decode cX11_record 75 = .ok (.ireturn, 1) := by decide +kernel
theorem dX11_properties_0 : decode cX11_properties 0 = .ok (.aload_n 0, 1) := by decide +kernel
theorem dX11_properties_1 : decode cX11_properties 1 = .ok (.iload_n 1, 1) := by decide +kernel
theorem dX11_properties_2 : decode cX11_properties 2 = .ok (.invokevirtual 156, 3) := by decide +kernel
theorem dX11_properties_5 : decode cX11_properties 5 = .ok (.istore_n 2, 1) := by decide +kernel
theorem dX11_properties_6 : decode cX11_properties 6 = .ok (.iconst 0, 1) := by decide +kernel
theorem dX11_properties_7 : decode cX11_properties 7 = .ok (.istore_n 3, 1) := by decide +kernel
theorem dX11_properties_8 : decode cX11_properties 8 = .ok (.iconst 0, 1) := by decide +kernel
theorem dX11_properties_9 : decode cX11_properties 9 = .ok (.istore 4, 2) := by decide +kernel
theorem dX11_properties_11 : decode cX11_properties 11 = .ok (.iload 4, 2) := by decide +kernel
theorem dX11_properties_13 : decode cX11_properties 13 = .ok (.aload_n 0, 1) := by decide +kernel
theorem dX11_properties_14 : decode cX11_properties 14 = .ok (.getfield 139, 3) := by decide +kernel
theorem dX11_properties_17 : decode cX11_properties 17 = .ok (.if_icmp .ge 21, 3) := by decide +kernel
theorem dX11_properties_20 : decode cX11_properties 20 = .ok (.iload_n 3, 1) := by decide +kernel
theorem dX11_properties_21 : decode cX11_properties 21 = .ok (.iconst 1, 1) := by decide +kernel
theorem dX11_properties_22 : decode cX11_properties 22 = .ok (.aload_n 0, 1) := by decide +kernel
theorem dX11_properties_23 : decode cX11_properties 23 = .ok (.getfield 69, 3) := by decide +kernel
theorem dX11_properties_26 : decode cX11_properties 26 = .ok (.iload 4, 2) := by decide +kernel
theorem dX11_properties_28 : decode cX11_properties 28 = .ok (.iaload, 1) := by decide +kernel
theorem dX11_properties_29 : decode cX11_properties 29 = .ok (.ishl, 1) := by decide +kernel
theorem dX11_properties_30 : decode cX11_properties 30 = .ok (.ior, 1) := by decide +kernel
theorem dX11_properties_31 : decode cX11_properties 31 = .ok (.istore_n 3, 1) := by decide +kernel
theorem dX11_properties_32 : decode cX11_properties 32 = .ok (.iinc 4 1, 3) := by decide +kernel
theorem dX11_properties_35 : decode cX11_properties 35 = .ok (.goto (-24), 3) := by decide +kernel
theorem dX11_properties_38 : decode cX11_properties 38 = .ok (.iload_n 2, 1) := by decide +kernel
theorem dX11_properties_39 : decode cX11_properties 39 = .ok (.iconst (-1), 1) := by decide +kernel
theorem dX11_properties_40 : decode cX11_properties 40 = .ok (.if_icmp .ne 7, 3) := by decide +kernel
theorem dX11_properties_43 : decode cX11_properties 43 = .ok (.iconst 0, 1) := by decide +kernel
theorem dX11_properties_44 : decode cX11_properties 44 = .ok (.goto 4, 3) := by decide +kernel
theorem dX11_properties_47 : decode cX11_properties 47 = .ok (.iload_n 3, 1) := by decide +kernel
theorem dX11_properties_48 : decode cX11_properties 48 = .ok (.ireturn, 1) := by decide +kernel
theorem dX11_turn_0 : decode cX11_turn 0 = .ok (.aload_n 0, 1) := by decide +kernel
theorem dX11_turn_1 : decode cX11_turn 1 = .ok (.iload_n 1, 1) := by decide +kernel
theorem dX11_turn_2 : decode cX11_turn 2 = .ok (.invokevirtual 120, 3) := by decide +kernel
theorem dX11_turn_5 : decode cX11_turn 5 = .ok (.ifCond .eq 58, 3) := by decide +kernel
theorem dX11_turn_8 : decode cX11_turn 8 = .ok (.iload_n 2, 1) := by decide +kernel
theorem dX11_turn_9 : decode cX11_turn 9 = .ok (.iconst 0, 1) := by decide +kernel
theorem dX11_turn_10 : decode cX11_turn 10 = .ok (.aload_n 0, 1) := by decide +kernel
theorem dX11_turn_11 : decode cX11_turn 11 = .ok (.getfield 133, 3) := by decide +kernel
theorem dX11_turn_14 : decode cX11_turn 14 = .ok (.iconst 1, 1) := by decide +kernel
theorem dX11_turn_15 : decode cX11_turn 15 = .ok (.isub, 1) := by decide +kernel
theorem dX11_turn_16 : decode cX11_turn 16 = .ok (.invokestatic 110, 3) := by decide +kernel
theorem dX11_turn_19 : decode cX11_turn 19 = .ok (.ifCond .eq 44, 3) := by decide +kernel
theorem dX11_turn_22 : decode cX11_turn 22 = .ok (.aload_n 0, 1) := by decide +kernel
theorem dX11_turn_23 : decode cX11_turn 23 = .ok (.iload_n 1, 1) := by decide +kernel
theorem dX11_turn_24 : decode cX11_turn 24 = .ok (.invokevirtual 156, 3) := by decide +kernel
theorem dX11_turn_27 : decode cX11_turn 27 = .ok (.aload_n 0, 1) := by decide +kernel
theorem dX11_turn_28 : decode cX11_turn 28 = .ok (.getfield 54, 3) := by decide +kernel
theorem dX11_turn_31 : decode cX11_turn 31 = .ok (.iload_n 2, 1) := by decide +kernel
theorem dX11_turn_32 : decode cX11_turn 32 = .ok (.iaload, 1) := by decide +kernel
theorem dX11_turn_33 : decode cX11_turn 33 = .ok (.if_icmp .ne 30, 3) := by decide +kernel
theorem dX11_turn_36 : decode cX11_turn 36 = .ok (.aload_n 0, 1) := by decide +kernel
theorem dX11_turn_37 : decode cX11_turn 37 = .ok (.getfield 42, 3) := by decide +kernel
theorem dX11_turn_40 : decode cX11_turn 40 = .ok (.aload_n 0, 1) := by decide +kernel
theorem dX11_turn_41 : decode cX11_turn 41 = .ok (.getfield 66, 3) := by decide +kernel
theorem dX11_turn_44 : decode cX11_turn 44 = .ok (.iload_n 2, 1) := by decide +kernel
theorem dX11_turn_45 : decode cX11_turn 45 = .ok (.iaload, 1) := by decide +kernel
theorem dX11_turn_46 : decode cX11_turn 46 = .ok (.iaload, 1) := by decide +kernel
theorem dX11_turn_47 : decode cX11_turn 47 = .ok (.aload_n 0, 1) := by decide +kernel
theorem dX11_turn_48 : decode cX11_turn 48 = .ok (.getfield 136, 3) := by decide +kernel
theorem dX11_turn_51 : decode cX11_turn 51 = .ok (.if_icmp .lt 12, 3) := by decide +kernel
theorem dX11_turn_54 : decode cX11_turn 54 = .ok (.aload_n 0, 1) := by decide +kernel
theorem dX11_turn_55 : decode cX11_turn 55 = .ok (.getfield 117, 3) := by decide +kernel
theorem dX11_turn_58 : decode cX11_turn 58 = .ok (.bipush 40, 2) := by decide +kernel
theorem dX11_turn_60 : decode cX11_turn 60 = .ok (.if_icmp .ne 5, 3) := by decide +kernel
theorem dX11_turn_63 : decode cX11_turn 63 = .ok (.iconst (-1), 1) := by decide +kernel
theorem dX11_turn_64 : decode cX11_turn 64 = .ok (.ireturn, 1) := by decide +kernel
theorem dX11_turn_65 : decode cX11_turn 65 = .ok (.aload_n 0, 1) := by decide +kernel
theorem dX11_turn_66 : decode cX11_turn 66 = .ok (.getfield 57, 3) := by decide +kernel
theorem dX11_turn_69 : decode cX11_turn 69 = .ok (.iload_n 2, 1) := by decide +kernel
theorem dX11_turn_70 : decode cX11_turn 70 = .ok (.iaload, 1) := by decide +kernel
theorem dX11_turn_71 : decode cX11_turn 71 = .ok (.istore_n 3, 1) := by decide +kernel
theorem dX11_turn_72 : decode cX11_turn 72 = .ok (.aload_n 0, 1) := by decide +kernel
theorem dX11_turn_73 : decode cX11_turn 73 = .ok (.getfield 17, 3) := by decide +kernel
theorem dX11_turn_76 : decode cX11_turn 76 = .ok (.iload_n 3, 1) := by decide +kernel
theorem dX11_turn_77 : decode cX11_turn 77 = .ok (.iaload, 1) := by decide +kernel
theorem dX11_turn_78 : decode cX11_turn 78 = .ok (.aload_n 0, 1) := by decide +kernel
theorem dX11_turn_79 : decode cX11_turn 79 = .ok (.getfield 23, 3) := by decide +kernel
theorem dX11_turn_82 : decode cX11_turn 82 = .ok (.iload_n 3, 1) := by decide +kernel
theorem dX11_turn_83 : decode cX11_turn 83 = .ok (.baload, 1) := by decide +kernel
theorem dX11_turn_84 : decode cX11_turn 84 = .ok (.ifCond .eq 7, 3) := by decide +kernel
theorem dX11_turn_87 : decode cX11_turn 87 = .ok (.iconst 1, 1) := by decide +kernel
theorem dX11_turn_88 : decode cX11_turn 88 = .ok (.goto 4, 3) := by decide +kernel
theorem dX11_turn_91 : decode cX11_turn 91 = .ok (.iconst 0, 1) := by decide +kernel
theorem dX11_turn_92 : decode cX11_turn 92 = .ok (.iadd, 1) := by decide +kernel
theorem dX11_turn_93 : decode cX11_turn 93 = .ok (.istore 4, 2) := by decide +kernel
theorem dX11_turn_95 : decode cX11_turn 95 = .ok (.iconst 0, 1) := by decide +kernel
theorem dX11_turn_96 : decode cX11_turn 96 = .ok (.istore 5, 2) := by decide +kernel
theorem dX11_turn_98 : decode cX11_turn 98 = .ok (.iload 5, 2) := by decide +kernel
theorem dX11_turn_100 : decode cX11_turn 100 = .ok (.aload_n 0, 1) := by decide +kernel
theorem dX11_turn_101 : decode cX11_turn 101 = .ok (.getfield 139, 3) := by decide +kernel
theorem dX11_turn_104 : decode cX11_turn 104 = .ok (.if_icmp .ge 37, 3) := by decide +kernel
theorem dX11_turn_107 : decode cX11_turn 107 = .ok (.iload 4, 2) := by decide +kernel
theorem dX11_turn_109 : decode cX11_turn 109 = .ok (.aload_n 0, 1) := by decide +kernel
theorem dX11_turn_110 : decode cX11_turn 110 = .ok (.iload 5, 2) := by decide +kernel
theorem dX11_turn_112 : decode cX11_turn 112 = .ok (.iload_n 2, 1) := by decide +kernel
theorem dX11_turn_113 : decode cX11_turn 113 = .ok (.invokevirtual 160, 3) := by decide +kernel
theorem dX11_turn_116 : decode cX11_turn 116 = .ok (.ifCond .eq 15, 3) := by decide +kernel
theorem dX11_turn_119 : decode cX11_turn 119 = .ok (.iconst 2, 1) := by decide +kernel
theorem dX11_turn_120 : decode cX11_turn 120 = .ok (.aload_n 0, 1) := by decide +kernel
theorem dX11_turn_121 : decode cX11_turn 121 = .ok (.getfield 75, 3) := by decide +kernel
theorem dX11_turn_124 : decode cX11_turn 124 = .ok (.iload 5, 2) := by decide +kernel
theorem dX11_turn_126 : decode cX11_turn 126 = .ok (.iaload, 1) := by decide +kernel
theorem dX11_turn_127 : decode cX11_turn 127 = .ok (.iadd, 1) := by decide +kernel
theorem dX11_turn_128 : decode cX11_turn 128 = .ok (.goto 4, 3) := by decide +kernel
theorem dX11_turn_131 : decode cX11_turn 131 = .ok (.iconst 0, 1) := by decide +kernel
theorem dX11_turn_132 : decode cX11_turn 132 = .ok (.iadd, 1) := by decide +kernel
theorem dX11_turn_133 : decode cX11_turn 133 = .ok (.istore 4, 2) := by decide +kernel
theorem dX11_turn_135 : decode cX11_turn 135 = .ok (.iinc 5 1, 3) := by decide +kernel
theorem dX11_turn_138 : decode cX11_turn 138 = .ok (.goto (-40), 3) := by decide +kernel
theorem dX11_turn_141 : decode cX11_turn 141 = .ok (.iload 4, 2) := by decide +kernel
theorem dX11_turn_143 : decode cX11_turn 143 = .ok (.bipush 60, 2) := by decide +kernel
theorem dX11_turn_145 : decode cX11_turn 145 = .ok (.if_icmp .le 5, 3) := by decide +kernel
theorem dX11_turn_148 : decode cX11_turn 148 = .ok (.iconst (-1), 1) := by decide +kernel
theorem dX11_turn_149 : decode cX11_turn 149 = .ok (.ireturn, 1) := by decide +kernel
theorem dX11_turn_150 : decode cX11_turn 150 = .ok (.bipush 60, 2) := by decide +kernel
theorem dX11_turn_152 : decode cX11_turn 152 = .ok (.aload_n 0, 1) := by decide +kernel
theorem dX11_turn_153 : decode cX11_turn 153 = .ok (.getfield 117, 3) := by decide +kernel
theorem dX11_turn_156 : decode cX11_turn 156 = .ok (.imul, 1) := by decide +kernel
theorem dX11_turn_157 : decode cX11_turn 157 = .ok (.istore 5, 2) := by decide +kernel
theorem dX11_turn_159 : decode cX11_turn 159 = .ok (.iconst 0, 1) := by decide +kernel
theorem dX11_turn_160 : decode cX11_turn 160 = .ok (.istore 6, 2) := by decide +kernel
theorem dX11_turn_162 : decode cX11_turn 162 = .ok (.iload 6, 2) := by decide +kernel
theorem dX11_turn_164 : decode cX11_turn 164 = .ok (.aload_n 0, 1) := by decide +kernel
theorem dX11_turn_165 : decode cX11_turn 165 = .ok (.getfield 17, 3) := by decide +kernel
theorem dX11_turn_168 : decode cX11_turn 168 = .ok (.iload_n 3, 1) := by decide +kernel
theorem dX11_turn_169 : decode cX11_turn 169 = .ok (.iaload, 1) := by decide +kernel
theorem dX11_turn_170 : decode cX11_turn 170 = .ok (.if_icmp .ge 30, 3) := by decide +kernel
theorem dX11_turn_173 : decode cX11_turn 173 = .ok (.aload_n 0, 1) := by decide +kernel
theorem dX11_turn_174 : decode cX11_turn 174 = .ok (.getfield 30, 3) := by decide +kernel
theorem dX11_turn_177 : decode cX11_turn 177 = .ok (.iload 5, 2) := by decide +kernel
theorem dX11_turn_179 : decode cX11_turn 179 = .ok (.aload_n 0, 1) := by decide +kernel
theorem dX11_turn_180 : decode cX11_turn 180 = .ok (.getfield 13, 3) := by decide +kernel
theorem dX11_turn_183 : decode cX11_turn 183 = .ok (.iconst 4, 1) := by decide +kernel
theorem dX11_turn_184 : decode cX11_turn 184 = .ok (.iload_n 3, 1) := by decide +kernel
theorem dX11_turn_185 : decode cX11_turn 185 = .ok (.imul, 1) := by decide +kernel
theorem dX11_turn_186 : decode cX11_turn 186 = .ok (.iload 6, 2) := by decide +kernel
theorem dX11_turn_188 : decode cX11_turn 188 = .ok (.iadd, 1) := by decide +kernel
theorem dX11_turn_189 : decode cX11_turn 189 = .ok (.iaload, 1) := by decide +kernel
theorem dX11_turn_190 : decode cX11_turn 190 = .ok (.iastore, 1) := by decide +kernel
theorem dX11_turn_191 : decode cX11_turn 191 = .ok (.iinc 5 1, 3) := by decide +kernel
theorem dX11_turn_194 : decode cX11_turn 194 = .ok (.iinc 6 1, 3) := by decide +kernel
theorem dX11_turn_197 : decode cX11_turn 197 = .ok (.goto (-35), 3) := by decide +kernel
theorem dX11_turn_200 : decode cX11_turn 200 = .ok (.iconst 0, 1) := by decide +kernel
theorem dX11_turn_201 : decode cX11_turn 201 = .ok (.istore 6, 2) := by decide +kernel
theorem dX11_turn_203 : decode cX11_turn 203 = .ok (.iload 6, 2) := by decide +kernel
theorem dX11_turn_205 : decode cX11_turn 205 = .ok (.aload_n 0, 1) := by decide +kernel
theorem dX11_turn_206 : decode cX11_turn 206 = .ok (.getfield 139, 3) := by decide +kernel
theorem dX11_turn_209 : decode cX11_turn 209 = .ok (.if_icmp .ge 76, 3) := by decide +kernel
theorem dX11_turn_212 : decode cX11_turn 212 = .ok (.aload_n 0, 1) := by decide +kernel
theorem dX11_turn_213 : decode cX11_turn 213 = .ok (.iload 6, 2) := by decide +kernel
theorem dX11_turn_215 : decode cX11_turn 215 = .ok (.iload_n 2, 1) := by decide +kernel
theorem dX11_turn_216 : decode cX11_turn 216 = .ok (.invokevirtual 160, 3) := by decide +kernel
theorem dX11_turn_219 : decode cX11_turn 219 = .ok (.ifCond .ne 6, 3) := by decide +kernel
theorem dX11_turn_222 : decode cX11_turn 222 = .ok (.goto 57, 3) := by decide +kernel
theorem dX11_turn_225 : decode cX11_turn 225 = .ok (.aload_n 0, 1) := by decide +kernel
theorem dX11_turn_226 : decode cX11_turn 226 = .ok (.getfield 72, 3) := by decide +kernel
theorem dX11_turn_229 : decode cX11_turn 229 = .ok (.iload 6, 2) := by decide +kernel
theorem dX11_turn_231 : decode cX11_turn 231 = .ok (.iaload, 1) := by decide +kernel
theorem dX11_turn_232 : decode cX11_turn 232 = .ok (.iconst 2, 1) := by decide +kernel
theorem dX11_turn_233 : decode cX11_turn 233 = .ok (.isub, 1) := by decide +kernel
theorem dX11_turn_234 : decode cX11_turn 234 = .ok (.istore 7, 2) := by decide +kernel
theorem dX11_turn_236 : decode cX11_turn 236 = .ok (.iload 7, 2) := by decide +kernel
theorem dX11_turn_238 : decode cX11_turn 238 = .ok (.aload_n 0, 1) := by decide +kernel
theorem dX11_turn_239 : decode cX11_turn 239 = .ok (.getfield 72, 3) := by decide +kernel
theorem dX11_turn_242 : decode cX11_turn 242 = .ok (.iload 6, 2) := by decide +kernel
theorem dX11_turn_244 : decode cX11_turn 244 = .ok (.iaload, 1) := by decide +kernel
theorem dX11_turn_245 : decode cX11_turn 245 = .ok (.aload_n 0, 1) := by decide +kernel
theorem dX11_turn_246 : decode cX11_turn 246 = .ok (.getfield 75, 3) := by decide +kernel
theorem dX11_turn_249 : decode cX11_turn 249 = .ok (.iload 6, 2) := by decide +kernel
theorem dX11_turn_251 : decode cX11_turn 251 = .ok (.iaload, 1) := by decide +kernel
theorem dX11_turn_252 : decode cX11_turn 252 = .ok (.iadd, 1) := by decide +kernel
theorem dX11_turn_253 : decode cX11_turn 253 = .ok (.if_icmp .ge 26, 3) := by decide +kernel
theorem dX11_turn_256 : decode cX11_turn 256 = .ok (.aload_n 0, 1) := by decide +kernel
theorem dX11_turn_257 : decode cX11_turn 257 = .ok (.getfield 30, 3) := by decide +kernel
theorem dX11_turn_260 : decode cX11_turn 260 = .ok (.iload 5, 2) := by decide +kernel
theorem dX11_turn_262 : decode cX11_turn 262 = .ok (.aload_n 0, 1) := by decide +kernel
theorem dX11_turn_263 : decode cX11_turn 263 = .ok (.iload_n 1, 1) := by decide +kernel
theorem dX11_turn_264 : decode cX11_turn 264 = .ok (.iload 7, 2) := by decide +kernel
theorem dX11_turn_266 : decode cX11_turn 266 = .ok (.invokevirtual 145, 3) := by decide +kernel
theorem dX11_turn_269 : decode cX11_turn 269 = .ok (.iastore, 1) := by decide +kernel
theorem dX11_turn_270 : decode cX11_turn 270 = .ok (.iinc 5 1, 3) := by decide +kernel
theorem dX11_turn_273 : decode cX11_turn 273 = .ok (.iinc 7 1, 3) := by decide +kernel
theorem dX11_turn_276 : decode cX11_turn 276 = .ok (.goto (-40), 3) := by decide +kernel
theorem dX11_turn_279 : decode cX11_turn 279 = .ok (.iinc 6 1, 3) := by decide +kernel
theorem dX11_turn_282 : decode cX11_turn 282 = .ok (.goto (-79), 3) := by decide +kernel
theorem dX11_turn_285 : decode cX11_turn 285 = .ok (.iconst 0, 1) := by decide +kernel
theorem dX11_turn_286 : decode cX11_turn 286 = .ok (.istore 6, 2) := by decide +kernel
theorem dX11_turn_288 : decode cX11_turn 288 = .ok (.bipush 60, 2) := by decide +kernel
theorem dX11_turn_290 : decode cX11_turn 290 = .ok (.aload_n 0, 1) := by decide +kernel
theorem dX11_turn_291 : decode cX11_turn 291 = .ok (.getfield 117, 3) := by decide +kernel
theorem dX11_turn_294 : decode cX11_turn 294 = .ok (.imul, 1) := by decide +kernel
theorem dX11_turn_295 : decode cX11_turn 295 = .ok (.istore 7, 2) := by decide +kernel
theorem dX11_turn_297 : decode cX11_turn 297 = .ok (.iload 7, 2) := by decide +kernel
theorem dX11_turn_299 : decode cX11_turn 299 = .ok (.iload 5, 2) := by decide +kernel
theorem dX11_turn_301 : decode cX11_turn 301 = .ok (.if_icmp .ge 21, 3) := by decide +kernel
theorem dX11_turn_304 : decode cX11_turn 304 = .ok (.iload 6, 2) := by decide +kernel
theorem dX11_turn_306 : decode cX11_turn 306 = .ok (.aload_n 0, 1) := by decide +kernel
theorem dX11_turn_307 : decode cX11_turn 307 = .ok (.getfield 30, 3) := by decide +kernel
theorem dX11_turn_310 : decode cX11_turn 310 = .ok (.iload 7, 2) := by decide +kernel
theorem dX11_turn_312 : decode cX11_turn 312 = .ok (.iaload, 1) := by decide +kernel
theorem dX11_turn_313 : decode cX11_turn 313 = .ok (.iadd, 1) := by decide +kernel
theorem dX11_turn_314 : decode cX11_turn 314 = .ok (.istore 6, 2) := by decide +kernel
theorem dX11_turn_316 : decode cX11_turn 316 = .ok (.iinc 7 1, 3) := by decide +kernel
theorem dX11_turn_319 : decode cX11_turn 319 = .ok (.goto (-22), 3) := by decide +kernel
theorem dX11_turn_322 : decode cX11_turn 322 = .ok (.aload_n 0, 1) := by decide +kernel
theorem dX11_turn_323 : decode cX11_turn 323 = .ok (.getfield 23, 3) := by decide +kernel
theorem dX11_turn_326 : decode cX11_turn 326 = .ok (.iload_n 3, 1) := by decide +kernel
theorem dX11_turn_327 : decode cX11_turn 327 = .ok (.baload, 1) := by decide +kernel
theorem dX11_turn_328 : decode cX11_turn 328 = .ok (.ifCond .eq 16, 3) := by decide +kernel
theorem dX11_turn_331 : decode cX11_turn 331 = .ok (.aload_n 0, 1) := by decide +kernel
theorem dX11_turn_332 : decode cX11_turn 332 = .ok (.getfield 30, 3) := by decide +kernel
theorem dX11_turn_335 : decode cX11_turn 335 = .ok (.iload 5, 2) := by decide +kernel
theorem dX11_turn_337 : decode cX11_turn 337 = .ok (.iload 6, 2) := by decide +kernel
theorem dX11_turn_339 : decode cX11_turn 339 = .ok (.sipush 256, 3) := by decide +kernel
theorem dX11_turn_342 : decode cX11_turn 342 = .ok (.irem, 1) := by decide +kernel
theorem dX11_turn_343 : decode cX11_turn 343 = .ok (.iastore, 1) := by decide +kernel
theorem dX11_turn_344 : decode cX11_turn 344 = .ok (.aload_n 0, 1) := by decide +kernel
theorem dX11_turn_345 : decode cX11_turn 345 = .ok (.getfield 33, 3) := by decide +kernel
theorem dX11_turn_348 : decode cX11_turn 348 = .ok (.aload_n 0, 1) := by decide +kernel
theorem dX11_turn_349 : decode cX11_turn 349 = .ok (.getfield 117, 3) := by decide +kernel
theorem dX11_turn_352 : decode cX11_turn 352 = .ok (.iload 4, 2) := by decide +kernel
theorem dX11_turn_354 : decode cX11_turn 354 = .ok (.iastore, 1) := by decide +kernel
theorem dX11_turn_355 : decode cX11_turn 355 = .ok (.aload_n 0, 1) := by decide +kernel
theorem dX11_turn_356 : decode cX11_turn 356 = .ok (.getfield 39, 3) := by decide +kernel
theorem dX11_turn_359 : decode cX11_turn 359 = .ok (.aload_n 0, 1) := by decide +kernel
theorem dX11_turn_360 : decode cX11_turn 360 = .ok (.getfield 117, 3) := by decide +kernel
theorem dX11_turn_363 : decode cX11_turn 363 = .ok (.iload_n 1, 1) := by decide +kernel
theorem dX11_turn_364 : decode cX11_turn 364 = .ok (.iastore, 1) := by decide +kernel
theorem dX11_turn_365 : decode cX11_turn 365 = .ok (.aload_n 0, 1) := by decide +kernel
theorem dX11_turn_366 : decode cX11_turn 366 = .ok (.dup, 1) := by decide +kernel
theorem dX11_turn_367 : decode cX11_turn 367 = .ok (.getfield 117, 3) := by decide +kernel
theorem dX11_turn_370 : decode cX11_turn 370 = .ok (.iconst 1, 1) := by decide +kernel
theorem dX11_turn_371 : decode cX11_turn 371 = .ok (.iadd, 1) := by decide +kernel
theorem dX11_turn_372 : decode cX11_turn 372 = .ok (.putfield 117, 3) := by decide +kernel
theorem dX11_turn_375 : decode cX11_turn 375 = .ok (.aload_n 0, 1) := by decide +kernel
theorem dX11_turn_376 : decode cX11_turn 376 = .ok (.getfield 117, 3) := by decide +kernel
theorem dX11_turn_379 : decode cX11_turn 379 = .ok (.iconst 1, 1) := by decide +kernel
theorem dX11_turn_380 : decode cX11_turn 380 = .ok (.isub, 1) := by decide +kernel
theorem dX11_turn_381 : decode cX11_turn 381 = .ok (.ireturn, 1) := by decide +kernel
theorem dX11_goes_0 : decode cX11_goes 0 = .ok (.aload_n 0, 1) := by decide +kernel
theorem dX11_goes_1 : decode cX11_goes 1 = .ok (.getfield 20, 3) := by decide +kernel
theorem dX11_goes_4 : decode cX11_goes 4 = .ok (.aload_n 0, 1) := by decide +kernel
theorem dX11_goes_5 : decode cX11_goes 5 = .ok (.getfield 57, 3) := by decide +kernel
theorem dX11_goes_8 : decode cX11_goes 8 = .ok (.iload_n 2, 1) := by decide +kernel
theorem dX11_goes_9 : decode cX11_goes 9 = .ok (.iaload, 1) := by decide +kernel
theorem dX11_goes_10 : decode cX11_goes 10 = .ok (.iaload, 1) := by decide +kernel
theorem dX11_goes_11 : decode cX11_goes 11 = .ok (.aload_n 0, 1) := by decide +kernel
theorem dX11_goes_12 : decode cX11_goes 12 = .ok (.getfield 69, 3) := by decide +kernel
theorem dX11_goes_15 : decode cX11_goes 15 = .ok (.iload_n 1, 1) := by decide +kernel
theorem dX11_goes_16 : decode cX11_goes 16 = .ok (.iaload, 1) := by decide +kernel
theorem dX11_goes_17 : decode cX11_goes 17 = .ok (.invokestatic 149, 3) := by decide +kernel
theorem dX11_goes_20 : decode cX11_goes 20 = .ok (.ifCond .eq 25, 3) := by decide +kernel
theorem dX11_goes_23 : decode cX11_goes 23 = .ok (.aload_n 0, 1) := by decide +kernel
theorem dX11_goes_24 : decode cX11_goes 24 = .ok (.getfield 60, 3) := by decide +kernel
theorem dX11_goes_27 : decode cX11_goes 27 = .ok (.iload_n 2, 1) := by decide +kernel
theorem dX11_goes_28 : decode cX11_goes 28 = .ok (.iaload, 1) := by decide +kernel
theorem dX11_goes_29 : decode cX11_goes 29 = .ok (.aload_n 0, 1) := by decide +kernel
theorem dX11_goes_30 : decode cX11_goes 30 = .ok (.getfield 69, 3) := by decide +kernel
theorem dX11_goes_33 : decode cX11_goes 33 = .ok (.iload_n 1, 1) := by decide +kernel
theorem dX11_goes_34 : decode cX11_goes 34 = .ok (.iaload, 1) := by decide +kernel
theorem dX11_goes_35 : decode cX11_goes 35 = .ok (.invokestatic 149, 3) := by decide +kernel
theorem dX11_goes_38 : decode cX11_goes 38 = .ok (.ifCond .ne 7, 3) := by decide +kernel
theorem dX11_goes_41 : decode cX11_goes 41 = .ok (.iconst 1, 1) := by decide +kernel
theorem dX11_goes_42 : decode cX11_goes 42 = .ok (.goto 4, 3) := by decide +kernel
theorem dX11_goes_45 : decode cX11_goes 45 = .ok (.iconst 0, 1) := by decide +kernel
theorem dX11_goes_46 : decode cX11_goes 46 = .ok (.ireturn, 1) := by decide +kernel
theorem dX11_areAlike_0 : decode cX11_areAlike 0 = .ok (.aload_n 0, 1) := by decide +kernel
theorem dX11_areAlike_1 : decode cX11_areAlike 1 = .ok (.getfield 84, 3) := by decide +kernel
theorem dX11_areAlike_4 : decode cX11_areAlike 4 = .ok (.iload_n 2, 1) := by decide +kernel
theorem dX11_areAlike_5 : decode cX11_areAlike 5 = .ok (.iaload, 1) := by decide +kernel
theorem dX11_areAlike_6 : decode cX11_areAlike 6 = .ok (.aload_n 0, 1) := by decide +kernel
theorem dX11_areAlike_7 : decode cX11_areAlike 7 = .ok (.getfield 75, 3) := by decide +kernel
theorem dX11_areAlike_10 : decode cX11_areAlike 10 = .ok (.iload 4, 2) := by decide +kernel
theorem dX11_areAlike_12 : decode cX11_areAlike 12 = .ok (.iaload, 1) := by decide +kernel
theorem dX11_areAlike_13 : decode cX11_areAlike 13 = .ok (.if_icmp .eq 5, 3) := by decide +kernel
theorem dX11_areAlike_16 : decode cX11_areAlike 16 = .ok (.iconst 0, 1) := by decide +kernel
theorem dX11_areAlike_17 : decode cX11_areAlike 17 = .ok (.ireturn, 1) := by decide +kernel
theorem dX11_areAlike_18 : decode cX11_areAlike 18 = .ok (.iconst 0, 1) := by decide +kernel
theorem dX11_areAlike_19 : decode cX11_areAlike 19 = .ok (.istore 5, 2) := by decide +kernel
theorem dX11_areAlike_21 : decode cX11_areAlike 21 = .ok (.iload 5, 2) := by decide +kernel
theorem dX11_areAlike_23 : decode cX11_areAlike 23 = .ok (.aload_n 0, 1) := by decide +kernel
theorem dX11_areAlike_24 : decode cX11_areAlike 24 = .ok (.getfield 75, 3) := by decide +kernel
theorem dX11_areAlike_27 : decode cX11_areAlike 27 = .ok (.iload 4, 2) := by decide +kernel
theorem dX11_areAlike_29 : decode cX11_areAlike 29 = .ok (.iaload, 1) := by decide +kernel
theorem dX11_areAlike_30 : decode cX11_areAlike 30 = .ok (.if_icmp .ge 43, 3) := by decide +kernel
theorem dX11_areAlike_33 : decode cX11_areAlike 33 = .ok (.aload_n 0, 1) := by decide +kernel
theorem dX11_areAlike_34 : decode cX11_areAlike 34 = .ok (.iload_n 1, 1) := by decide +kernel
theorem dX11_areAlike_35 : decode cX11_areAlike 35 = .ok (.aload_n 0, 1) := by decide +kernel
theorem dX11_areAlike_36 : decode cX11_areAlike 36 = .ok (.getfield 81, 3) := by decide +kernel
theorem dX11_areAlike_39 : decode cX11_areAlike 39 = .ok (.iload_n 2, 1) := by decide +kernel
theorem dX11_areAlike_40 : decode cX11_areAlike 40 = .ok (.iaload, 1) := by decide +kernel
theorem dX11_areAlike_41 : decode cX11_areAlike 41 = .ok (.iload 5, 2) := by decide +kernel
theorem dX11_areAlike_43 : decode cX11_areAlike 43 = .ok (.iadd, 1) := by decide +kernel
theorem dX11_areAlike_44 : decode cX11_areAlike 44 = .ok (.invokevirtual 145, 3) := by decide +kernel
theorem dX11_areAlike_47 : decode cX11_areAlike 47 = .ok (.aload_n 0, 1) := by decide +kernel
theorem dX11_areAlike_48 : decode cX11_areAlike 48 = .ok (.iload_n 3, 1) := by decide +kernel
theorem dX11_areAlike_49 : decode cX11_areAlike 49 = .ok (.aload_n 0, 1) := by decide +kernel
theorem dX11_areAlike_50 : decode cX11_areAlike 50 = .ok (.getfield 72, 3) := by decide +kernel
theorem dX11_areAlike_53 : decode cX11_areAlike 53 = .ok (.iload 4, 2) := by decide +kernel
theorem dX11_areAlike_55 : decode cX11_areAlike 55 = .ok (.iaload, 1) := by decide +kernel
theorem dX11_areAlike_56 : decode cX11_areAlike 56 = .ok (.iload 5, 2) := by decide +kernel
theorem dX11_areAlike_58 : decode cX11_areAlike 58 = .ok (.iadd, 1) := by decide +kernel
theorem dX11_areAlike_59 : decode cX11_areAlike 59 = .ok (.invokevirtual 145, 3) := by decide +kernel
theorem dX11_areAlike_62 : decode cX11_areAlike 62 = .ok (.if_icmp .eq 5, 3) := by decide +kernel
theorem dX11_areAlike_65 : decode cX11_areAlike 65 = .ok (.iconst 0, 1) := by decide +kernel
theorem dX11_areAlike_66 : decode cX11_areAlike 66 = .ok (.ireturn, 1) := by decide +kernel
theorem dX11_areAlike_67 : decode cX11_areAlike 67 = .ok (.iinc 5 1, 3) := by decide +kernel
theorem dX11_areAlike_70 : decode cX11_areAlike 70 = .ok (.goto (-49), 3) := by decide +kernel
theorem dX11_areAlike_73 : decode cX11_areAlike 73 = .ok (.iconst 1, 1) := by decide +kernel
theorem dX11_areAlike_74 : decode cX11_areAlike 74 = .ok (.ireturn, 1) := by decide +kernel
theorem dX11_isKept_0 : decode cX11_isKept 0 = .ok (.iconst 0, 1) := by decide +kernel
theorem dX11_isKept_1 : decode cX11_isKept 1 = .ok (.istore 4, 2) := by decide +kernel
theorem dX11_isKept_3 : decode cX11_isKept 3 = .ok (.iconst 0, 1) := by decide +kernel
theorem dX11_isKept_4 : decode cX11_isKept 4 = .ok (.istore 5, 2) := by decide +kernel
theorem dX11_isKept_6 : decode cX11_isKept 6 = .ok (.iconst 0, 1) := by decide +kernel
theorem dX11_isKept_7 : decode cX11_isKept 7 = .ok (.istore 6, 2) := by decide +kernel
theorem dX11_isKept_9 : decode cX11_isKept 9 = .ok (.iload 6, 2) := by decide +kernel
theorem dX11_isKept_11 : decode cX11_isKept 11 = .ok (.aload_n 0, 1) := by decide +kernel
theorem dX11_isKept_12 : decode cX11_isKept 12 = .ok (.getfield 163, 3) := by decide +kernel
theorem dX11_isKept_15 : decode cX11_isKept 15 = .ok (.if_icmp .ge 79, 3) := by decide +kernel
theorem dX11_isKept_18 : decode cX11_isKept 18 = .ok (.aload_n 0, 1) := by decide +kernel
theorem dX11_isKept_19 : decode cX11_isKept 19 = .ok (.getfield 78, 3) := by decide +kernel
theorem dX11_isKept_22 : decode cX11_isKept 22 = .ok (.iload 6, 2) := by decide +kernel
theorem dX11_isKept_24 : decode cX11_isKept 24 = .ok (.iaload, 1) := by decide +kernel
theorem dX11_isKept_25 : decode cX11_isKept 25 = .ok (.iload_n 3, 1) := by decide +kernel
theorem dX11_isKept_26 : decode cX11_isKept 26 = .ok (.if_icmp .eq 6, 3) := by decide +kernel
theorem dX11_isKept_29 : decode cX11_isKept 29 = .ok (.goto 59, 3) := by decide +kernel
theorem dX11_isKept_32 : decode cX11_isKept 32 = .ok (.iload 4, 2) := by decide +kernel
theorem dX11_isKept_34 : decode cX11_isKept 34 = .ok (.aload_n 0, 1) := by decide +kernel
theorem dX11_isKept_35 : decode cX11_isKept 35 = .ok (.getfield 139, 3) := by decide +kernel
theorem dX11_isKept_38 : decode cX11_isKept 38 = .ok (.if_icmp .ge 20, 3) := by decide +kernel
theorem dX11_isKept_41 : decode cX11_isKept 41 = .ok (.aload_n 0, 1) := by decide +kernel
theorem dX11_isKept_42 : decode cX11_isKept 42 = .ok (.getfield 69, 3) := by decide +kernel
theorem dX11_isKept_45 : decode cX11_isKept 45 = .ok (.iload 4, 2) := by decide +kernel
theorem dX11_isKept_47 : decode cX11_isKept 47 = .ok (.iaload, 1) := by decide +kernel
theorem dX11_isKept_48 : decode cX11_isKept 48 = .ok (.iload_n 3, 1) := by decide +kernel
theorem dX11_isKept_49 : decode cX11_isKept 49 = .ok (.if_icmp .eq 9, 3) := by decide +kernel
theorem dX11_isKept_52 : decode cX11_isKept 52 = .ok (.iinc 4 1, 3) := by decide +kernel
theorem dX11_isKept_55 : decode cX11_isKept 55 = .ok (.goto (-23), 3) := by decide +kernel
theorem dX11_isKept_58 : decode cX11_isKept 58 = .ok (.iload 4, 2) := by decide +kernel
theorem dX11_isKept_60 : decode cX11_isKept 60 = .ok (.aload_n 0, 1) := by decide +kernel
theorem dX11_isKept_61 : decode cX11_isKept 61 = .ok (.getfield 139, 3) := by decide +kernel
theorem dX11_isKept_64 : decode cX11_isKept 64 = .ok (.if_icmp .eq 16, 3) := by decide +kernel
theorem dX11_isKept_67 : decode cX11_isKept 67 = .ok (.aload_n 0, 1) := by decide +kernel
theorem dX11_isKept_68 : decode cX11_isKept 68 = .ok (.iload_n 1, 1) := by decide +kernel
theorem dX11_isKept_69 : decode cX11_isKept 69 = .ok (.iload 6, 2) := by decide +kernel
theorem dX11_isKept_71 : decode cX11_isKept 71 = .ok (.iload_n 2, 1) := by decide +kernel
theorem dX11_isKept_72 : decode cX11_isKept 72 = .ok (.iload 4, 2) := by decide +kernel
theorem dX11_isKept_74 : decode cX11_isKept 74 = .ok (.invokevirtual 166, 3) := by decide +kernel
theorem dX11_isKept_77 : decode cX11_isKept 77 = .ok (.ifCond .ne 5, 3) := by decide +kernel
theorem dX11_isKept_80 : decode cX11_isKept 80 = .ok (.iconst 0, 1) := by decide +kernel
theorem dX11_isKept_81 : decode cX11_isKept 81 = .ok (.ireturn, 1) := by decide +kernel
theorem dX11_isKept_82 : decode cX11_isKept 82 = .ok (.iinc 4 1, 3) := by decide +kernel
theorem dX11_isKept_85 : decode cX11_isKept 85 = .ok (.iinc 5 1, 3) := by decide +kernel
theorem dX11_isKept_88 : decode cX11_isKept 88 = .ok (.iinc 6 1, 3) := by decide +kernel
theorem dX11_isKept_91 : decode cX11_isKept 91 = .ok (.goto (-82), 3) := by decide +kernel
theorem dX11_isKept_94 : decode cX11_isKept 94 = .ok (.iload 4, 2) := by decide +kernel
theorem dX11_isKept_96 : decode cX11_isKept 96 = .ok (.aload_n 0, 1) := by decide +kernel
theorem dX11_isKept_97 : decode cX11_isKept 97 = .ok (.getfield 139, 3) := by decide +kernel
theorem dX11_isKept_100 : decode cX11_isKept 100 = .ok (.if_icmp .ge 20, 3) := by decide +kernel
theorem dX11_isKept_103 : decode cX11_isKept 103 = .ok (.aload_n 0, 1) := by decide +kernel
theorem dX11_isKept_104 : decode cX11_isKept 104 = .ok (.getfield 69, 3) := by decide +kernel
theorem dX11_isKept_107 : decode cX11_isKept 107 = .ok (.iload 4, 2) := by decide +kernel
theorem dX11_isKept_109 : decode cX11_isKept 109 = .ok (.iaload, 1) := by decide +kernel
theorem dX11_isKept_110 : decode cX11_isKept 110 = .ok (.iload_n 3, 1) := by decide +kernel
theorem dX11_isKept_111 : decode cX11_isKept 111 = .ok (.if_icmp .eq 9, 3) := by decide +kernel
theorem dX11_isKept_114 : decode cX11_isKept 114 = .ok (.iinc 4 1, 3) := by decide +kernel
theorem dX11_isKept_117 : decode cX11_isKept 117 = .ok (.goto (-23), 3) := by decide +kernel
theorem dX11_isKept_120 : decode cX11_isKept 120 = .ok (.iload 5, 2) := by decide +kernel
theorem dX11_isKept_122 : decode cX11_isKept 122 = .ok (.ifCond .le 16, 3) := by decide +kernel
theorem dX11_isKept_125 : decode cX11_isKept 125 = .ok (.iload 4, 2) := by decide +kernel
theorem dX11_isKept_127 : decode cX11_isKept 127 = .ok (.aload_n 0, 1) := by decide +kernel
theorem dX11_isKept_128 : decode cX11_isKept 128 = .ok (.getfield 139, 3) := by decide +kernel
theorem dX11_isKept_131 : decode cX11_isKept 131 = .ok (.if_icmp .ne 7, 3) := by decide +kernel
theorem dX11_isKept_134 : decode cX11_isKept 134 = .ok (.iconst 1, 1) := by decide +kernel
theorem dX11_isKept_135 : decode cX11_isKept 135 = .ok (.goto 4, 3) := by decide +kernel
theorem dX11_isKept_138 : decode cX11_isKept 138 = .ok (.iconst 0, 1) := by decide +kernel
theorem dX11_isKept_139 : decode cX11_isKept 139 = .ok (.ireturn, 1) := by decide +kernel
theorem dX11_kept_0 : decode cX11_kept 0 = .ok (.aload_n 0, 1) := by decide +kernel
theorem dX11_kept_1 : decode cX11_kept 1 = .ok (.iload_n 1, 1) := by decide +kernel
theorem dX11_kept_2 : decode cX11_kept 2 = .ok (.invokevirtual 120, 3) := by decide +kernel
theorem dX11_kept_5 : decode cX11_kept 5 = .ok (.ifCond .eq 11, 3) := by decide +kernel
theorem dX11_kept_8 : decode cX11_kept 8 = .ok (.aload_n 0, 1) := by decide +kernel
theorem dX11_kept_9 : decode cX11_kept 9 = .ok (.iload_n 2, 1) := by decide +kernel
theorem dX11_kept_10 : decode cX11_kept 10 = .ok (.invokevirtual 120, 3) := by decide +kernel
theorem dX11_kept_13 : decode cX11_kept 13 = .ok (.ifCond .ne 5, 3) := by decide +kernel
theorem dX11_kept_16 : decode cX11_kept 16 = .ok (.iconst (-1), 1) := by decide +kernel
theorem dX11_kept_17 : decode cX11_kept 17 = .ok (.ireturn, 1) := by decide +kernel
theorem dX11_kept_18 : decode cX11_kept 18 = .ok (.aload_n 0, 1) := by decide +kernel
theorem dX11_kept_19 : decode cX11_kept 19 = .ok (.iload_n 1, 1) := by decide +kernel
theorem dX11_kept_20 : decode cX11_kept 20 = .ok (.invokevirtual 156, 3) := by decide +kernel
theorem dX11_kept_23 : decode cX11_kept 23 = .ok (.istore_n 3, 1) := by decide +kernel
theorem dX11_kept_24 : decode cX11_kept 24 = .ok (.aload_n 0, 1) := by decide +kernel
theorem dX11_kept_25 : decode cX11_kept 25 = .ok (.iload_n 3, 1) := by decide +kernel
theorem dX11_kept_26 : decode cX11_kept 26 = .ok (.iconst (-1), 1) := by decide +kernel
theorem dX11_kept_27 : decode cX11_kept 27 = .ok (.if_icmp .ne 7, 3) := by decide +kernel
theorem dX11_kept_30 : decode cX11_kept 30 = .ok (.iconst 0, 1) := by decide +kernel
theorem dX11_kept_31 : decode cX11_kept 31 = .ok (.goto 7, 3) := by decide +kernel
theorem dX11_kept_34 : decode cX11_kept 34 = .ok (.aload_n 0, 1) := by decide +kernel
theorem dX11_kept_35 : decode cX11_kept 35 = .ok (.getfield 139, 3) := by decide +kernel
theorem dX11_kept_38 : decode cX11_kept 38 = .ok (.putfield 163, 3) := by decide +kernel
theorem dX11_kept_41 : decode cX11_kept 41 = .ok (.iconst 0, 1) := by decide +kernel
theorem dX11_kept_42 : decode cX11_kept 42 = .ok (.istore 4, 2) := by decide +kernel
theorem dX11_kept_44 : decode cX11_kept 44 = .ok (.iload 4, 2) := by decide +kernel
theorem dX11_kept_46 : decode cX11_kept 46 = .ok (.aload_n 0, 1) := by decide +kernel
theorem dX11_kept_47 : decode cX11_kept 47 = .ok (.getfield 163, 3) := by decide +kernel
theorem dX11_kept_50 : decode cX11_kept 50 = .ok (.if_icmp .ge 51, 3) := by decide +kernel
theorem dX11_kept_53 : decode cX11_kept 53 = .ok (.aload_n 0, 1) := by decide +kernel
theorem dX11_kept_54 : decode cX11_kept 54 = .ok (.getfield 78, 3) := by decide +kernel
theorem dX11_kept_57 : decode cX11_kept 57 = .ok (.iload 4, 2) := by decide +kernel
theorem dX11_kept_59 : decode cX11_kept 59 = .ok (.aload_n 0, 1) := by decide +kernel
theorem dX11_kept_60 : decode cX11_kept 60 = .ok (.getfield 69, 3) := by decide +kernel
theorem dX11_kept_63 : decode cX11_kept 63 = .ok (.iload 4, 2) := by decide +kernel
theorem dX11_kept_65 : decode cX11_kept 65 = .ok (.iaload, 1) := by decide +kernel
theorem dX11_kept_66 : decode cX11_kept 66 = .ok (.iastore, 1) := by decide +kernel
theorem dX11_kept_67 : decode cX11_kept 67 = .ok (.aload_n 0, 1) := by decide +kernel
theorem dX11_kept_68 : decode cX11_kept 68 = .ok (.getfield 81, 3) := by decide +kernel
theorem dX11_kept_71 : decode cX11_kept 71 = .ok (.iload 4, 2) := by decide +kernel
theorem dX11_kept_73 : decode cX11_kept 73 = .ok (.aload_n 0, 1) := by decide +kernel
theorem dX11_kept_74 : decode cX11_kept 74 = .ok (.getfield 72, 3) := by decide +kernel
theorem dX11_kept_77 : decode cX11_kept 77 = .ok (.iload 4, 2) := by decide +kernel
theorem dX11_kept_79 : decode cX11_kept 79 = .ok (.iaload, 1) := by decide +kernel
theorem dX11_kept_80 : decode cX11_kept 80 = .ok (.iastore, 1) := by decide +kernel
theorem dX11_kept_81 : decode cX11_kept 81 = .ok (.aload_n 0, 1) := by decide +kernel
theorem dX11_kept_82 : decode cX11_kept 82 = .ok (.getfield 84, 3) := by decide +kernel
theorem dX11_kept_85 : decode cX11_kept 85 = .ok (.iload 4, 2) := by decide +kernel
theorem dX11_kept_87 : decode cX11_kept 87 = .ok (.aload_n 0, 1) := by decide +kernel
theorem dX11_kept_88 : decode cX11_kept 88 = .ok (.getfield 75, 3) := by decide +kernel
theorem dX11_kept_91 : decode cX11_kept 91 = .ok (.iload 4, 2) := by decide +kernel
theorem dX11_kept_93 : decode cX11_kept 93 = .ok (.iaload, 1) := by decide +kernel
theorem dX11_kept_94 : decode cX11_kept 94 = .ok (.iastore, 1) := by decide +kernel
theorem dX11_kept_95 : decode cX11_kept 95 = .ok (.iinc 4 1, 3) := by decide +kernel
theorem dX11_kept_98 : decode cX11_kept 98 = .ok (.goto (-54), 3) := by decide +kernel
theorem dX11_kept_101 : decode cX11_kept 101 = .ok (.aload_n 0, 1) := by decide +kernel
theorem dX11_kept_102 : decode cX11_kept 102 = .ok (.iload_n 2, 1) := by decide +kernel
theorem dX11_kept_103 : decode cX11_kept 103 = .ok (.invokevirtual 156, 3) := by decide +kernel
theorem dX11_kept_106 : decode cX11_kept 106 = .ok (.istore 4, 2) := by decide +kernel
theorem dX11_kept_108 : decode cX11_kept 108 = .ok (.iconst 0, 1) := by decide +kernel
theorem dX11_kept_109 : decode cX11_kept 109 = .ok (.istore 5, 2) := by decide +kernel
theorem dX11_kept_111 : decode cX11_kept 111 = .ok (.iconst 0, 1) := by decide +kernel
theorem dX11_kept_112 : decode cX11_kept 112 = .ok (.istore 6, 2) := by decide +kernel
theorem dX11_kept_114 : decode cX11_kept 114 = .ok (.iload 6, 2) := by decide +kernel
theorem dX11_kept_116 : decode cX11_kept 116 = .ok (.bipush 12, 2) := by decide +kernel
theorem dX11_kept_118 : decode cX11_kept 118 = .ok (.if_icmp .ge 29, 3) := by decide +kernel
theorem dX11_kept_121 : decode cX11_kept 121 = .ok (.aload_n 0, 1) := by decide +kernel
theorem dX11_kept_122 : decode cX11_kept 122 = .ok (.iload_n 1, 1) := by decide +kernel
theorem dX11_kept_123 : decode cX11_kept 123 = .ok (.iload_n 2, 1) := by decide +kernel
theorem dX11_kept_124 : decode cX11_kept 124 = .ok (.iload 6, 2) := by decide +kernel
theorem dX11_kept_126 : decode cX11_kept 126 = .ok (.invokevirtual 170, 3) := by decide +kernel
theorem dX11_kept_129 : decode cX11_kept 129 = .ok (.ifCond .eq 12, 3) := by decide +kernel
theorem dX11_kept_132 : decode cX11_kept 132 = .ok (.iload 5, 2) := by decide +kernel
theorem dX11_kept_134 : decode cX11_kept 134 = .ok (.iconst 1, 1) := by decide +kernel
theorem dX11_kept_135 : decode cX11_kept 135 = .ok (.iload 6, 2) := by decide +kernel
theorem dX11_kept_137 : decode cX11_kept 137 = .ok (.ishl, 1) := by decide +kernel
theorem dX11_kept_138 : decode cX11_kept 138 = .ok (.ior, 1) := by decide +kernel
theorem dX11_kept_139 : decode cX11_kept 139 = .ok (.istore 5, 2) := by decide +kernel
theorem dX11_kept_141 : decode cX11_kept 141 = .ok (.iinc 6 1, 3) := by decide +kernel
theorem dX11_kept_144 : decode cX11_kept 144 = .ok (.goto (-30), 3) := by decide +kernel
theorem dX11_kept_147 : decode cX11_kept 147 = .ok (.iload 5, 2) := by decide +kernel
theorem dX11_kept_149 : decode cX11_kept 149 = .ok (.ireturn, 1) := by decide +kernel
theorem dX11_mayTurn_0 : decode cX11_mayTurn 0 = .ok (.aload_n 0, 1) := by decide +kernel
theorem dX11_mayTurn_1 : decode cX11_mayTurn 1 = .ok (.getfield 42, 3) := by decide +kernel
theorem dX11_mayTurn_4 : decode cX11_mayTurn 4 = .ok (.aload_n 0, 1) := by decide +kernel
theorem dX11_mayTurn_5 : decode cX11_mayTurn 5 = .ok (.getfield 66, 3) := by decide +kernel
theorem dX11_mayTurn_8 : decode cX11_mayTurn 8 = .ok (.iload_n 1, 1) := by decide +kernel
theorem dX11_mayTurn_9 : decode cX11_mayTurn 9 = .ok (.iaload, 1) := by decide +kernel
end
section
theorem dX11_mayTurn_10 : decode cX11_mayTurn 10 = .ok (.iaload, 1) := by decide +kernel
theorem dX11_mayTurn_11 : decode cX11_mayTurn 11 = .ok (.aload_n 0, 1) := by decide +kernel
theorem dX11_mayTurn_12 : decode cX11_mayTurn 12 = .ok (.getfield 136, 3) := by decide +kernel
theorem dX11_mayTurn_15 : decode cX11_mayTurn 15 = .ok (.if_icmp .lt 36, 3) := by decide +kernel
theorem dX11_mayTurn_18 : decode cX11_mayTurn 18 = .ok (.iload_n 2, 1) := by decide +kernel
theorem dX11_mayTurn_19 : decode cX11_mayTurn 19 = .ok (.aload_n 0, 1) := by decide +kernel
theorem dX11_mayTurn_20 : decode cX11_mayTurn 20 = .ok (.getfield 20, 3) := by decide +kernel
theorem dX11_mayTurn_23 : decode cX11_mayTurn 23 = .ok (.aload_n 0, 1) := by decide +kernel
theorem dX11_mayTurn_24 : decode cX11_mayTurn 24 = .ok (.getfield 57, 3) := by decide +kernel
theorem dX11_mayTurn_27 : decode cX11_mayTurn 27 = .ok (.iload_n 1, 1) := by decide +kernel
theorem dX11_mayTurn_28 : decode cX11_mayTurn 28 = .ok (.iaload, 1) := by decide +kernel
theorem dX11_mayTurn_29 : decode cX11_mayTurn 29 = .ok (.iaload, 1) := by decide +kernel
theorem dX11_mayTurn_30 : decode cX11_mayTurn 30 = .ok (.iconst (-1), 1) := by decide +kernel
theorem dX11_mayTurn_31 : decode cX11_mayTurn 31 = .ok (.ixor, 1) := by decide +kernel
theorem dX11_mayTurn_32 : decode cX11_mayTurn 32 = .ok (.iand, 1) := by decide +kernel
theorem dX11_mayTurn_33 : decode cX11_mayTurn 33 = .ok (.ifCond .ne 18, 3) := by decide +kernel
theorem dX11_mayTurn_36 : decode cX11_mayTurn 36 = .ok (.iload_n 2, 1) := by decide +kernel
theorem dX11_mayTurn_37 : decode cX11_mayTurn 37 = .ok (.aload_n 0, 1) := by decide +kernel
theorem dX11_mayTurn_38 : decode cX11_mayTurn 38 = .ok (.getfield 60, 3) := by decide +kernel
theorem dX11_mayTurn_41 : decode cX11_mayTurn 41 = .ok (.iload_n 1, 1) := by decide +kernel
theorem dX11_mayTurn_42 : decode cX11_mayTurn 42 = .ok (.iaload, 1) := by decide +kernel
theorem dX11_mayTurn_43 : decode cX11_mayTurn 43 = .ok (.iand, 1) := by decide +kernel
theorem dX11_mayTurn_44 : decode cX11_mayTurn 44 = .ok (.ifCond .ne 7, 3) := by decide +kernel
theorem dX11_mayTurn_47 : decode cX11_mayTurn 47 = .ok (.iconst 1, 1) := by decide +kernel
theorem dX11_mayTurn_48 : decode cX11_mayTurn 48 = .ok (.goto 4, 3) := by decide +kernel
theorem dX11_mayTurn_51 : decode cX11_mayTurn 51 = .ok (.iconst 0, 1) := by decide +kernel
theorem dX11_mayTurn_52 : decode cX11_mayTurn 52 = .ok (.ireturn, 1) := by decide +kernel
theorem dX11_measures_0 : decode cX11_measures 0 = .ok (.iconst 0, 1) := by decide +kernel
theorem dX11_measures_1 : decode cX11_measures 1 = .ok (.istore_n 3, 1) := by decide +kernel
theorem dX11_measures_2 : decode cX11_measures 2 = .ok (.iload_n 3, 1) := by decide +kernel
theorem dX11_measures_3 : decode cX11_measures 3 = .ok (.iconst 4, 1) := by decide +kernel
theorem dX11_measures_4 : decode cX11_measures 4 = .ok (.if_icmp .gt 155, 3) := by decide +kernel
theorem dX11_measures_7 : decode cX11_measures 7 = .ok (.iconst 0, 1) := by decide +kernel
theorem dX11_measures_8 : decode cX11_measures 8 = .ok (.istore 4, 2) := by decide +kernel
theorem dX11_measures_10 : decode cX11_measures 10 = .ok (.iload 4, 2) := by decide +kernel
theorem dX11_measures_12 : decode cX11_measures 12 = .ok (.bipush 12, 2) := by decide +kernel
theorem dX11_measures_14 : decode cX11_measures 14 = .ok (.if_icmp .ge 37, 3) := by decide +kernel
theorem dX11_measures_17 : decode cX11_measures 17 = .ok (.aload_n 0, 1) := by decide +kernel
theorem dX11_measures_18 : decode cX11_measures 18 = .ok (.getfield 87, 3) := by decide +kernel
theorem dX11_measures_21 : decode cX11_measures 21 = .ok (.bipush 12, 2) := by decide +kernel
theorem dX11_measures_23 : decode cX11_measures 23 = .ok (.iload_n 3, 1) := by decide +kernel
theorem dX11_measures_24 : decode cX11_measures 24 = .ok (.imul, 1) := by decide +kernel
theorem dX11_measures_25 : decode cX11_measures 25 = .ok (.iload 4, 2) := by decide +kernel
theorem dX11_measures_27 : decode cX11_measures 27 = .ok (.iadd, 1) := by decide +kernel
theorem dX11_measures_28 : decode cX11_measures 28 = .ok (.iload_n 3, 1) := by decide +kernel
theorem dX11_measures_29 : decode cX11_measures 29 = .ok (.ifCond .ne 13, 3) := by decide +kernel
theorem dX11_measures_32 : decode cX11_measures 32 = .ok (.iload 4, 2) := by decide +kernel
theorem dX11_measures_34 : decode cX11_measures 34 = .ok (.iload_n 1, 1) := by decide +kernel
theorem dX11_measures_35 : decode cX11_measures 35 = .ok (.if_icmp .ne 7, 3) := by decide +kernel
theorem dX11_measures_38 : decode cX11_measures 38 = .ok (.iconst 0, 1) := by decide +kernel
theorem dX11_measures_39 : decode cX11_measures 39 = .ok (.goto 5, 3) := by decide +kernel
theorem dX11_measures_42 : decode cX11_measures 42 = .ok (.ldc 173, 2) := by decide +kernel
theorem dX11_measures_44 : decode cX11_measures 44 = .ok (.iastore, 1) := by decide +kernel
theorem dX11_measures_45 : decode cX11_measures 45 = .ok (.iinc 4 1, 3) := by decide +kernel
theorem dX11_measures_48 : decode cX11_measures 48 = .ok (.goto (-38), 3) := by decide +kernel
theorem dX11_measures_51 : decode cX11_measures 51 = .ok (.iconst 0, 1) := by decide +kernel
theorem dX11_measures_52 : decode cX11_measures 52 = .ok (.istore 4, 2) := by decide +kernel
theorem dX11_measures_54 : decode cX11_measures 54 = .ok (.iload 4, 2) := by decide +kernel
theorem dX11_measures_56 : decode cX11_measures 56 = .ok (.aload_n 0, 1) := by decide +kernel
theorem dX11_measures_57 : decode cX11_measures 57 = .ok (.getfield 133, 3) := by decide +kernel
theorem dX11_measures_60 : decode cX11_measures 60 = .ok (.if_icmp .ge 93, 3) := by decide +kernel
theorem dX11_measures_63 : decode cX11_measures 63 = .ok (.iload_n 3, 1) := by decide +kernel
theorem dX11_measures_64 : decode cX11_measures 64 = .ok (.ifCond .le 89, 3) := by decide +kernel
theorem dX11_measures_67 : decode cX11_measures 67 = .ok (.aload_n 0, 1) := by decide +kernel
theorem dX11_measures_68 : decode cX11_measures 68 = .ok (.getfield 87, 3) := by decide +kernel
theorem dX11_measures_71 : decode cX11_measures 71 = .ok (.bipush 12, 2) := by decide +kernel
theorem dX11_measures_73 : decode cX11_measures 73 = .ok (.iload_n 3, 1) := by decide +kernel
theorem dX11_measures_74 : decode cX11_measures 74 = .ok (.iconst 1, 1) := by decide +kernel
theorem dX11_measures_75 : decode cX11_measures 75 = .ok (.isub, 1) := by decide +kernel
theorem dX11_measures_76 : decode cX11_measures 76 = .ok (.imul, 1) := by decide +kernel
theorem dX11_measures_77 : decode cX11_measures 77 = .ok (.aload_n 0, 1) := by decide +kernel
theorem dX11_measures_78 : decode cX11_measures 78 = .ok (.getfield 57, 3) := by decide +kernel
theorem dX11_measures_81 : decode cX11_measures 81 = .ok (.iload 4, 2) := by decide +kernel
theorem dX11_measures_83 : decode cX11_measures 83 = .ok (.iaload, 1) := by decide +kernel
theorem dX11_measures_84 : decode cX11_measures 84 = .ok (.iadd, 1) := by decide +kernel
theorem dX11_measures_85 : decode cX11_measures 85 = .ok (.iaload, 1) := by decide +kernel
theorem dX11_measures_86 : decode cX11_measures 86 = .ok (.aload_n 0, 1) := by decide +kernel
theorem dX11_measures_87 : decode cX11_measures 87 = .ok (.getfield 63, 3) := by decide +kernel
theorem dX11_measures_90 : decode cX11_measures 90 = .ok (.iload 4, 2) := by decide +kernel
theorem dX11_measures_92 : decode cX11_measures 92 = .ok (.iaload, 1) := by decide +kernel
theorem dX11_measures_93 : decode cX11_measures 93 = .ok (.iadd, 1) := by decide +kernel
theorem dX11_measures_94 : decode cX11_measures 94 = .ok (.istore 5, 2) := by decide +kernel
theorem dX11_measures_96 : decode cX11_measures 96 = .ok (.aload_n 0, 1) := by decide +kernel
theorem dX11_measures_97 : decode cX11_measures 97 = .ok (.iload 4, 2) := by decide +kernel
theorem dX11_measures_99 : decode cX11_measures 99 = .ok (.iload_n 2, 1) := by decide +kernel
theorem dX11_measures_100 : decode cX11_measures 100 = .ok (.invokevirtual 174, 3) := by decide +kernel
theorem dX11_measures_103 : decode cX11_measures 103 = .ok (.ifCond .eq 44, 3) := by decide +kernel
theorem dX11_measures_106 : decode cX11_measures 106 = .ok (.iload 5, 2) := by decide +kernel
theorem dX11_measures_108 : decode cX11_measures 108 = .ok (.aload_n 0, 1) := by decide +kernel
theorem dX11_measures_109 : decode cX11_measures 109 = .ok (.getfield 87, 3) := by decide +kernel
theorem dX11_measures_112 : decode cX11_measures 112 = .ok (.bipush 12, 2) := by decide +kernel
theorem dX11_measures_114 : decode cX11_measures 114 = .ok (.iload_n 3, 1) := by decide +kernel
theorem dX11_measures_115 : decode cX11_measures 115 = .ok (.imul, 1) := by decide +kernel
theorem dX11_measures_116 : decode cX11_measures 116 = .ok (.aload_n 0, 1) := by decide +kernel
theorem dX11_measures_117 : decode cX11_measures 117 = .ok (.getfield 54, 3) := by decide +kernel
theorem dX11_measures_120 : decode cX11_measures 120 = .ok (.iload 4, 2) := by decide +kernel
theorem dX11_measures_122 : decode cX11_measures 122 = .ok (.iaload, 1) := by decide +kernel
theorem dX11_measures_123 : decode cX11_measures 123 = .ok (.iadd, 1) := by decide +kernel
theorem dX11_measures_124 : decode cX11_measures 124 = .ok (.iaload, 1) := by decide +kernel
theorem dX11_measures_125 : decode cX11_measures 125 = .ok (.if_icmp .ge 22, 3) := by decide +kernel
theorem dX11_measures_128 : decode cX11_measures 128 = .ok (.aload_n 0, 1) := by decide +kernel
theorem dX11_measures_129 : decode cX11_measures 129 = .ok (.getfield 87, 3) := by decide +kernel
theorem dX11_measures_132 : decode cX11_measures 132 = .ok (.bipush 12, 2) := by decide +kernel
theorem dX11_measures_134 : decode cX11_measures 134 = .ok (.iload_n 3, 1) := by decide +kernel
theorem dX11_measures_135 : decode cX11_measures 135 = .ok (.imul, 1) := by decide +kernel
theorem dX11_measures_136 : decode cX11_measures 136 = .ok (.aload_n 0, 1) := by decide +kernel
theorem dX11_measures_137 : decode cX11_measures 137 = .ok (.getfield 54, 3) := by decide +kernel
theorem dX11_measures_140 : decode cX11_measures 140 = .ok (.iload 4, 2) := by decide +kernel
theorem dX11_measures_142 : decode cX11_measures 142 = .ok (.iaload, 1) := by decide +kernel
theorem dX11_measures_143 : decode cX11_measures 143 = .ok (.iadd, 1) := by decide +kernel
theorem dX11_measures_144 : decode cX11_measures 144 = .ok (.iload 5, 2) := by decide +kernel
theorem dX11_measures_146 : decode cX11_measures 146 = .ok (.iastore, 1) := by decide +kernel
theorem dX11_measures_147 : decode cX11_measures 147 = .ok (.iinc 4 1, 3) := by decide +kernel
theorem dX11_measures_150 : decode cX11_measures 150 = .ok (.goto (-96), 3) := by decide +kernel
theorem dX11_measures_153 : decode cX11_measures 153 = .ok (.iinc 3 1, 3) := by decide +kernel
theorem dX11_measures_156 : decode cX11_measures 156 = .ok (.goto (-154), 3) := by decide +kernel
theorem dX11_measures_159 : decode cX11_measures 159 = .ok (.return_, 1) := by decide +kernel
theorem dX11_bestRoad_0 : decode cX11_bestRoad 0 = .ok (.aload_n 0, 1) := by decide +kernel
theorem dX11_bestRoad_1 : decode cX11_bestRoad 1 = .ok (.getfield 36, 3) := by decide +kernel
theorem dX11_bestRoad_4 : decode cX11_bestRoad 4 = .ok (.iload_n 1, 1) := by decide +kernel
theorem dX11_bestRoad_5 : decode cX11_bestRoad 5 = .ok (.iaload, 1) := by decide +kernel
theorem dX11_bestRoad_6 : decode cX11_bestRoad 6 = .ok (.aload_n 0, 1) := by decide +kernel
theorem dX11_bestRoad_7 : decode cX11_bestRoad 7 = .ok (.iload_n 1, 1) := by decide +kernel
theorem dX11_bestRoad_8 : decode cX11_bestRoad 8 = .ok (.invokevirtual 177, 3) := by decide +kernel
theorem dX11_bestRoad_11 : decode cX11_bestRoad 11 = .ok (.iand, 1) := by decide +kernel
theorem dX11_bestRoad_12 : decode cX11_bestRoad 12 = .ok (.istore_n 3, 1) := by decide +kernel
theorem dX11_bestRoad_13 : decode cX11_bestRoad 13 = .ok (.aload_n 0, 1) := by decide +kernel
theorem dX11_bestRoad_14 : decode cX11_bestRoad 14 = .ok (.iload_n 1, 1) := by decide +kernel
theorem dX11_bestRoad_15 : decode cX11_bestRoad 15 = .ok (.invokevirtual 156, 3) := by decide +kernel
theorem dX11_bestRoad_18 : decode cX11_bestRoad 18 = .ok (.istore 4, 2) := by decide +kernel
theorem dX11_bestRoad_20 : decode cX11_bestRoad 20 = .ok (.iload 4, 2) := by decide +kernel
theorem dX11_bestRoad_22 : decode cX11_bestRoad 22 = .ok (.iconst (-1), 1) := by decide +kernel
theorem dX11_bestRoad_23 : decode cX11_bestRoad 23 = .ok (.if_icmp .ne 5, 3) := by decide +kernel
theorem dX11_bestRoad_26 : decode cX11_bestRoad 26 = .ok (.iconst (-1), 1) := by decide +kernel
theorem dX11_bestRoad_27 : decode cX11_bestRoad 27 = .ok (.ireturn, 1) := by decide +kernel
theorem dX11_bestRoad_28 : decode cX11_bestRoad 28 = .ok (.aload_n 0, 1) := by decide +kernel
theorem dX11_bestRoad_29 : decode cX11_bestRoad 29 = .ok (.iload_n 2, 1) := by decide +kernel
theorem dX11_bestRoad_30 : decode cX11_bestRoad 30 = .ok (.iload_n 3, 1) := by decide +kernel
theorem dX11_bestRoad_31 : decode cX11_bestRoad 31 = .ok (.invokevirtual 180, 3) := by decide +kernel
theorem dX11_bestRoad_34 : decode cX11_bestRoad 34 = .ok (.iconst 0, 1) := by decide +kernel
theorem dX11_bestRoad_35 : decode cX11_bestRoad 35 = .ok (.istore 5, 2) := by decide +kernel
theorem dX11_bestRoad_37 : decode cX11_bestRoad 37 = .ok (.iconst 1, 1) := by decide +kernel
theorem dX11_bestRoad_38 : decode cX11_bestRoad 38 = .ok (.istore 6, 2) := by decide +kernel
theorem dX11_bestRoad_40 : decode cX11_bestRoad 40 = .ok (.iload 6, 2) := by decide +kernel
theorem dX11_bestRoad_42 : decode cX11_bestRoad 42 = .ok (.iconst 4, 1) := by decide +kernel
theorem dX11_bestRoad_43 : decode cX11_bestRoad 43 = .ok (.if_icmp .gt 42, 3) := by decide +kernel
theorem dX11_bestRoad_46 : decode cX11_bestRoad 46 = .ok (.aload_n 0, 1) := by decide +kernel
theorem dX11_bestRoad_47 : decode cX11_bestRoad 47 = .ok (.getfield 87, 3) := by decide +kernel
theorem dX11_bestRoad_50 : decode cX11_bestRoad 50 = .ok (.bipush 12, 2) := by decide +kernel
theorem dX11_bestRoad_52 : decode cX11_bestRoad 52 = .ok (.iload 6, 2) := by decide +kernel
theorem dX11_bestRoad_54 : decode cX11_bestRoad 54 = .ok (.imul, 1) := by decide +kernel
theorem dX11_bestRoad_55 : decode cX11_bestRoad 55 = .ok (.iload 4, 2) := by decide +kernel
theorem dX11_bestRoad_57 : decode cX11_bestRoad 57 = .ok (.iadd, 1) := by decide +kernel
theorem dX11_bestRoad_58 : decode cX11_bestRoad 58 = .ok (.iaload, 1) := by decide +kernel
theorem dX11_bestRoad_59 : decode cX11_bestRoad 59 = .ok (.aload_n 0, 1) := by decide +kernel
theorem dX11_bestRoad_60 : decode cX11_bestRoad 60 = .ok (.getfield 87, 3) := by decide +kernel
theorem dX11_bestRoad_63 : decode cX11_bestRoad 63 = .ok (.bipush 12, 2) := by decide +kernel
theorem dX11_bestRoad_65 : decode cX11_bestRoad 65 = .ok (.iload 5, 2) := by decide +kernel
theorem dX11_bestRoad_67 : decode cX11_bestRoad 67 = .ok (.imul, 1) := by decide +kernel
theorem dX11_bestRoad_68 : decode cX11_bestRoad 68 = .ok (.iload 4, 2) := by decide +kernel
theorem dX11_bestRoad_70 : decode cX11_bestRoad 70 = .ok (.iadd, 1) := by decide +kernel
theorem dX11_bestRoad_71 : decode cX11_bestRoad 71 = .ok (.iaload, 1) := by decide +kernel
theorem dX11_bestRoad_72 : decode cX11_bestRoad 72 = .ok (.if_icmp .ge 7, 3) := by decide +kernel
theorem dX11_bestRoad_75 : decode cX11_bestRoad 75 = .ok (.iload 6, 2) := by decide +kernel
theorem dX11_bestRoad_77 : decode cX11_bestRoad 77 = .ok (.istore 5, 2) := by decide +kernel
theorem dX11_bestRoad_79 : decode cX11_bestRoad 79 = .ok (.iinc 6 1, 3) := by decide +kernel
theorem dX11_bestRoad_82 : decode cX11_bestRoad 82 = .ok (.goto (-42), 3) := by decide +kernel
theorem dX11_bestRoad_85 : decode cX11_bestRoad 85 = .ok (.aload_n 0, 1) := by decide +kernel
theorem dX11_bestRoad_86 : decode cX11_bestRoad 86 = .ok (.getfield 87, 3) := by decide +kernel
theorem dX11_bestRoad_89 : decode cX11_bestRoad 89 = .ok (.bipush 12, 2) := by decide +kernel
theorem dX11_bestRoad_91 : decode cX11_bestRoad 91 = .ok (.iload 5, 2) := by decide +kernel
theorem dX11_bestRoad_93 : decode cX11_bestRoad 93 = .ok (.imul, 1) := by decide +kernel
theorem dX11_bestRoad_94 : decode cX11_bestRoad 94 = .ok (.iload 4, 2) := by decide +kernel
theorem dX11_bestRoad_96 : decode cX11_bestRoad 96 = .ok (.iadd, 1) := by decide +kernel
theorem dX11_bestRoad_97 : decode cX11_bestRoad 97 = .ok (.iaload, 1) := by decide +kernel
theorem dX11_bestRoad_98 : decode cX11_bestRoad 98 = .ok (.istore 6, 2) := by decide +kernel
theorem dX11_bestRoad_100 : decode cX11_bestRoad 100 = .ok (.iload 6, 2) := by decide +kernel
theorem dX11_bestRoad_102 : decode cX11_bestRoad 102 = .ok (.ldc 173, 2) := by decide +kernel
theorem dX11_bestRoad_104 : decode cX11_bestRoad 104 = .ok (.if_icmp .lt 5, 3) := by decide +kernel
theorem dX11_bestRoad_107 : decode cX11_bestRoad 107 = .ok (.iconst (-1), 1) := by decide +kernel
theorem dX11_bestRoad_108 : decode cX11_bestRoad 108 = .ok (.ireturn, 1) := by decide +kernel
theorem dX11_bestRoad_109 : decode cX11_bestRoad 109 = .ok (.aload_n 0, 1) := by decide +kernel
theorem dX11_bestRoad_110 : decode cX11_bestRoad 110 = .ok (.iload 5, 2) := by decide +kernel
theorem dX11_bestRoad_112 : decode cX11_bestRoad 112 = .ok (.putfield 184, 3) := by decide +kernel
theorem dX11_bestRoad_115 : decode cX11_bestRoad 115 = .ok (.iload 5, 2) := by decide +kernel
theorem dX11_bestRoad_117 : decode cX11_bestRoad 117 = .ok (.istore 7, 2) := by decide +kernel
theorem dX11_bestRoad_119 : decode cX11_bestRoad 119 = .ok (.iload 7, 2) := by decide +kernel
theorem dX11_bestRoad_121 : decode cX11_bestRoad 121 = .ok (.ifCond .le 105, 3) := by decide +kernel
theorem dX11_bestRoad_124 : decode cX11_bestRoad 124 = .ok (.iconst 0, 1) := by decide +kernel
theorem dX11_bestRoad_125 : decode cX11_bestRoad 125 = .ok (.istore 8, 2) := by decide +kernel
theorem dX11_bestRoad_127 : decode cX11_bestRoad 127 = .ok (.aload_n 0, 1) := by decide +kernel
theorem dX11_bestRoad_128 : decode cX11_bestRoad 128 = .ok (.getfield 54, 3) := by decide +kernel
theorem dX11_bestRoad_131 : decode cX11_bestRoad 131 = .ok (.iload 8, 2) := by decide +kernel
theorem dX11_bestRoad_133 : decode cX11_bestRoad 133 = .ok (.iaload, 1) := by decide +kernel
theorem dX11_bestRoad_134 : decode cX11_bestRoad 134 = .ok (.iload 4, 2) := by decide +kernel
theorem dX11_bestRoad_136 : decode cX11_bestRoad 136 = .ok (.if_icmp .ne 57, 3) := by decide +kernel
theorem dX11_bestRoad_139 : decode cX11_bestRoad 139 = .ok (.aload_n 0, 1) := by decide +kernel
theorem dX11_bestRoad_140 : decode cX11_bestRoad 140 = .ok (.iload 8, 2) := by decide +kernel
theorem dX11_bestRoad_142 : decode cX11_bestRoad 142 = .ok (.iload_n 3, 1) := by decide +kernel
theorem dX11_bestRoad_143 : decode cX11_bestRoad 143 = .ok (.invokevirtual 174, 3) := by decide +kernel
theorem dX11_bestRoad_146 : decode cX11_bestRoad 146 = .ok (.ifCond .eq 47, 3) := by decide +kernel
theorem dX11_bestRoad_149 : decode cX11_bestRoad 149 = .ok (.aload_n 0, 1) := by decide +kernel
theorem dX11_bestRoad_150 : decode cX11_bestRoad 150 = .ok (.getfield 87, 3) := by decide +kernel
theorem dX11_bestRoad_153 : decode cX11_bestRoad 153 = .ok (.bipush 12, 2) := by decide +kernel
theorem dX11_bestRoad_155 : decode cX11_bestRoad 155 = .ok (.iload 7, 2) := by decide +kernel
theorem dX11_bestRoad_157 : decode cX11_bestRoad 157 = .ok (.iconst 1, 1) := by decide +kernel
theorem dX11_bestRoad_158 : decode cX11_bestRoad 158 = .ok (.isub, 1) := by decide +kernel
theorem dX11_bestRoad_159 : decode cX11_bestRoad 159 = .ok (.imul, 1) := by decide +kernel
theorem dX11_bestRoad_160 : decode cX11_bestRoad 160 = .ok (.aload_n 0, 1) := by decide +kernel
theorem dX11_bestRoad_161 : decode cX11_bestRoad 161 = .ok (.getfield 57, 3) := by decide +kernel
theorem dX11_bestRoad_164 : decode cX11_bestRoad 164 = .ok (.iload 8, 2) := by decide +kernel
theorem dX11_bestRoad_166 : decode cX11_bestRoad 166 = .ok (.iaload, 1) := by decide +kernel
theorem dX11_bestRoad_167 : decode cX11_bestRoad 167 = .ok (.iadd, 1) := by decide +kernel
theorem dX11_bestRoad_168 : decode cX11_bestRoad 168 = .ok (.iaload, 1) := by decide +kernel
theorem dX11_bestRoad_169 : decode cX11_bestRoad 169 = .ok (.aload_n 0, 1) := by decide +kernel
theorem dX11_bestRoad_170 : decode cX11_bestRoad 170 = .ok (.getfield 63, 3) := by decide +kernel
theorem dX11_bestRoad_173 : decode cX11_bestRoad 173 = .ok (.iload 8, 2) := by decide +kernel
theorem dX11_bestRoad_175 : decode cX11_bestRoad 175 = .ok (.iaload, 1) := by decide +kernel
theorem dX11_bestRoad_176 : decode cX11_bestRoad 176 = .ok (.iadd, 1) := by decide +kernel
theorem dX11_bestRoad_177 : decode cX11_bestRoad 177 = .ok (.aload_n 0, 1) := by decide +kernel
theorem dX11_bestRoad_178 : decode cX11_bestRoad 178 = .ok (.getfield 87, 3) := by decide +kernel
theorem dX11_bestRoad_181 : decode cX11_bestRoad 181 = .ok (.bipush 12, 2) := by decide +kernel
theorem dX11_bestRoad_183 : decode cX11_bestRoad 183 = .ok (.iload 7, 2) := by decide +kernel
theorem dX11_bestRoad_185 : decode cX11_bestRoad 185 = .ok (.imul, 1) := by decide +kernel
theorem dX11_bestRoad_186 : decode cX11_bestRoad 186 = .ok (.iload 4, 2) := by decide +kernel
theorem dX11_bestRoad_188 : decode cX11_bestRoad 188 = .ok (.iadd, 1) := by decide +kernel
theorem dX11_bestRoad_189 : decode cX11_bestRoad 189 = .ok (.iaload, 1) := by decide +kernel
theorem dX11_bestRoad_190 : decode cX11_bestRoad 190 = .ok (.if_icmp .eq 9, 3) := by decide +kernel
theorem dX11_bestRoad_193 : decode cX11_bestRoad 193 = .ok (.iinc 8 1, 3) := by decide +kernel
theorem dX11_bestRoad_196 : decode cX11_bestRoad 196 = .ok (.goto (-69), 3) := by decide +kernel
theorem dX11_bestRoad_199 : decode cX11_bestRoad 199 = .ok (.aload_n 0, 1) := by decide +kernel
theorem dX11_bestRoad_200 : decode cX11_bestRoad 200 = .ok (.getfield 90, 3) := by decide +kernel
theorem dX11_bestRoad_203 : decode cX11_bestRoad 203 = .ok (.iload 5, 2) := by decide +kernel
theorem dX11_bestRoad_205 : decode cX11_bestRoad 205 = .ok (.iload 7, 2) := by decide +kernel
theorem dX11_bestRoad_207 : decode cX11_bestRoad 207 = .ok (.isub, 1) := by decide +kernel
theorem dX11_bestRoad_208 : decode cX11_bestRoad 208 = .ok (.iload 8, 2) := by decide +kernel
theorem dX11_bestRoad_210 : decode cX11_bestRoad 210 = .ok (.iastore, 1) := by decide +kernel
theorem dX11_bestRoad_211 : decode cX11_bestRoad 211 = .ok (.aload_n 0, 1) := by decide +kernel
theorem dX11_bestRoad_212 : decode cX11_bestRoad 212 = .ok (.getfield 57, 3) := by decide +kernel
theorem dX11_bestRoad_215 : decode cX11_bestRoad 215 = .ok (.iload 8, 2) := by decide +kernel
theorem dX11_bestRoad_217 : decode cX11_bestRoad 217 = .ok (.iaload, 1) := by decide +kernel
theorem dX11_bestRoad_218 : decode cX11_bestRoad 218 = .ok (.istore 4, 2) := by decide +kernel
theorem dX11_bestRoad_220 : decode cX11_bestRoad 220 = .ok (.iinc 7 (-1), 3) := by decide +kernel
theorem dX11_bestRoad_223 : decode cX11_bestRoad 223 = .ok (.goto (-104), 3) := by decide +kernel
theorem dX11_bestRoad_226 : decode cX11_bestRoad 226 = .ok (.iload 6, 2) := by decide +kernel
theorem dX11_bestRoad_228 : decode cX11_bestRoad 228 = .ok (.ireturn, 1) := by decide +kernel
theorem dX11_road_0 : decode cX11_road 0 = .ok (.aload_n 0, 1) := by decide +kernel
theorem dX11_road_1 : decode cX11_road 1 = .ok (.iload_n 1, 1) := by decide +kernel
theorem dX11_road_2 : decode cX11_road 2 = .ok (.invokevirtual 120, 3) := by decide +kernel
theorem dX11_road_5 : decode cX11_road 5 = .ok (.ifCond .eq 11, 3) := by decide +kernel
theorem dX11_road_8 : decode cX11_road 8 = .ok (.aload_n 0, 1) := by decide +kernel
theorem dX11_road_9 : decode cX11_road 9 = .ok (.iload_n 2, 1) := by decide +kernel
theorem dX11_road_10 : decode cX11_road 10 = .ok (.invokevirtual 127, 3) := by decide +kernel
theorem dX11_road_13 : decode cX11_road 13 = .ok (.ifCond .ne 5, 3) := by decide +kernel
theorem dX11_road_16 : decode cX11_road 16 = .ok (.iconst (-1), 1) := by decide +kernel
theorem dX11_road_17 : decode cX11_road 17 = .ok (.ireturn, 1) := by decide +kernel
theorem dX11_road_18 : decode cX11_road 18 = .ok (.aload_n 0, 1) := by decide +kernel
theorem dX11_road_19 : decode cX11_road 19 = .ok (.iload_n 1, 1) := by decide +kernel
theorem dX11_road_20 : decode cX11_road 20 = .ok (.iload_n 2, 1) := by decide +kernel
theorem dX11_road_21 : decode cX11_road 21 = .ok (.invokevirtual 187, 3) := by decide +kernel
theorem dX11_road_24 : decode cX11_road 24 = .ok (.istore_n 3, 1) := by decide +kernel
theorem dX11_road_25 : decode cX11_road 25 = .ok (.iload_n 3, 1) := by decide +kernel
theorem dX11_road_26 : decode cX11_road 26 = .ok (.iconst (-1), 1) := by decide +kernel
theorem dX11_road_27 : decode cX11_road 27 = .ok (.if_icmp .ne 5, 3) := by decide +kernel
theorem dX11_road_30 : decode cX11_road 30 = .ok (.iconst (-1), 1) := by decide +kernel
theorem dX11_road_31 : decode cX11_road 31 = .ok (.ireturn, 1) := by decide +kernel
theorem dX11_road_32 : decode cX11_road 32 = .ok (.aload_n 0, 1) := by decide +kernel
theorem dX11_road_33 : decode cX11_road 33 = .ok (.aload_n 0, 1) := by decide +kernel
theorem dX11_road_34 : decode cX11_road 34 = .ok (.getfield 184, 3) := by decide +kernel
theorem dX11_road_37 : decode cX11_road 37 = .ok (.putfield 190, 3) := by decide +kernel
theorem dX11_road_40 : decode cX11_road 40 = .ok (.iconst 0, 1) := by decide +kernel
theorem dX11_road_41 : decode cX11_road 41 = .ok (.istore 4, 2) := by decide +kernel
theorem dX11_road_43 : decode cX11_road 43 = .ok (.iload 4, 2) := by decide +kernel
theorem dX11_road_45 : decode cX11_road 45 = .ok (.aload_n 0, 1) := by decide +kernel
theorem dX11_road_46 : decode cX11_road 46 = .ok (.getfield 184, 3) := by decide +kernel
theorem dX11_road_49 : decode cX11_road 49 = .ok (.if_icmp .ge 23, 3) := by decide +kernel
theorem dX11_road_52 : decode cX11_road 52 = .ok (.aload_n 0, 1) := by decide +kernel
theorem dX11_road_53 : decode cX11_road 53 = .ok (.getfield 93, 3) := by decide +kernel
theorem dX11_road_56 : decode cX11_road 56 = .ok (.iload 4, 2) := by decide +kernel
theorem dX11_road_58 : decode cX11_road 58 = .ok (.aload_n 0, 1) := by decide +kernel
theorem dX11_road_59 : decode cX11_road 59 = .ok (.getfield 90, 3) := by decide +kernel
theorem dX11_road_62 : decode cX11_road 62 = .ok (.iload 4, 2) := by decide +kernel
theorem dX11_road_64 : decode cX11_road 64 = .ok (.iaload, 1) := by decide +kernel
theorem dX11_road_65 : decode cX11_road 65 = .ok (.iastore, 1) := by decide +kernel
theorem dX11_road_66 : decode cX11_road 66 = .ok (.iinc 4 1, 3) := by decide +kernel
theorem dX11_road_69 : decode cX11_road 69 = .ok (.goto (-26), 3) := by decide +kernel
theorem dX11_road_72 : decode cX11_road 72 = .ok (.iload_n 3, 1) := by decide +kernel
theorem dX11_road_73 : decode cX11_road 73 = .ok (.ireturn, 1) := by decide +kernel
theorem dX11_step_0 : decode cX11_step 0 = .ok (.iload_n 1, 1) := by decide +kernel
theorem dX11_step_1 : decode cX11_step 1 = .ok (.iconst 0, 1) := by decide +kernel
theorem dX11_step_2 : decode cX11_step 2 = .ok (.aload_n 0, 1) := by decide +kernel
theorem dX11_step_3 : decode cX11_step 3 = .ok (.getfield 190, 3) := by decide +kernel
theorem dX11_step_6 : decode cX11_step 6 = .ok (.iconst 1, 1) := by decide +kernel
theorem dX11_step_7 : decode cX11_step 7 = .ok (.isub, 1) := by decide +kernel
theorem dX11_step_8 : decode cX11_step 8 = .ok (.invokestatic 110, 3) := by decide +kernel
theorem dX11_step_11 : decode cX11_step 11 = .ok (.ifCond .eq 12, 3) := by decide +kernel
theorem dX11_step_14 : decode cX11_step 14 = .ok (.aload_n 0, 1) := by decide +kernel
theorem dX11_step_15 : decode cX11_step 15 = .ok (.getfield 93, 3) := by decide +kernel
theorem dX11_step_18 : decode cX11_step 18 = .ok (.iload_n 1, 1) := by decide +kernel
theorem dX11_step_19 : decode cX11_step 19 = .ok (.iaload, 1) := by decide +kernel
theorem dX11_step_20 : decode cX11_step 20 = .ok (.goto 4, 3) := by decide +kernel
theorem dX11_step_23 : decode cX11_step 23 = .ok (.iconst (-1), 1) := by decide +kernel
theorem dX11_step_24 : decode cX11_step 24 = .ok (.ireturn, 1) := by decide +kernel
theorem dX11_lives_0 : decode cX11_lives 0 = .ok (.iload_n 2, 1) := by decide +kernel
theorem dX11_lives_1 : decode cX11_lives 1 = .ok (.ifCond .eq 12, 3) := by decide +kernel
theorem dX11_lives_4 : decode cX11_lives 4 = .ok (.aload_n 0, 1) := by decide +kernel
theorem dX11_lives_5 : decode cX11_lives 5 = .ok (.getfield 42, 3) := by decide +kernel
theorem dX11_lives_8 : decode cX11_lives 8 = .ok (.iload_n 1, 1) := by decide +kernel
theorem dX11_lives_9 : decode cX11_lives 9 = .ok (.iaload, 1) := by decide +kernel
theorem dX11_lives_10 : decode cX11_lives 10 = .ok (.goto 9, 3) := by decide +kernel
theorem dX11_lives_13 : decode cX11_lives 13 = .ok (.aload_n 0, 1) := by decide +kernel
theorem dX11_lives_14 : decode cX11_lives 14 = .ok (.getfield 45, 3) := by decide +kernel
theorem dX11_lives_17 : decode cX11_lives 17 = .ok (.iload_n 1, 1) := by decide +kernel
theorem dX11_lives_18 : decode cX11_lives 18 = .ok (.iaload, 1) := by decide +kernel
theorem dX11_lives_19 : decode cX11_lives 19 = .ok (.ireturn, 1) := by decide +kernel
theorem dX11_lastOf_0 : decode cX11_lastOf 0 = .ok (.aload_n 0, 1) := by decide +kernel
theorem dX11_lastOf_1 : decode cX11_lastOf 1 = .ok (.iload_n 1, 1) := by decide +kernel
theorem dX11_lastOf_2 : decode cX11_lastOf 2 = .ok (.invokevirtual 156, 3) := by decide +kernel
theorem dX11_lastOf_5 : decode cX11_lastOf 5 = .ok (.istore_n 3, 1) := by decide +kernel
theorem dX11_lastOf_6 : decode cX11_lastOf 6 = .ok (.iload_n 3, 1) := by decide +kernel
theorem dX11_lastOf_7 : decode cX11_lastOf 7 = .ok (.iconst (-1), 1) := by decide +kernel
theorem dX11_lastOf_8 : decode cX11_lastOf 8 = .ok (.if_icmp .ne 5, 3) := by decide +kernel
theorem dX11_lastOf_11 : decode cX11_lastOf 11 = .ok (.iconst (-1), 1) := by decide +kernel
theorem dX11_lastOf_12 : decode cX11_lastOf 12 = .ok (.ireturn, 1) := by decide +kernel
theorem dX11_lastOf_13 : decode cX11_lastOf 13 = .ok (.iconst (-1), 1) := by decide +kernel
theorem dX11_lastOf_14 : decode cX11_lastOf 14 = .ok (.istore 4, 2) := by decide +kernel
theorem dX11_lastOf_16 : decode cX11_lastOf 16 = .ok (.iconst 0, 1) := by decide +kernel
theorem dX11_lastOf_17 : decode cX11_lastOf 17 = .ok (.istore 5, 2) := by decide +kernel
theorem dX11_lastOf_19 : decode cX11_lastOf 19 = .ok (.iload 5, 2) := by decide +kernel
theorem dX11_lastOf_21 : decode cX11_lastOf 21 = .ok (.iconst 4, 1) := by decide +kernel
theorem dX11_lastOf_22 : decode cX11_lastOf 22 = .ok (.if_icmp .gt 273, 3) := by decide +kernel
theorem dX11_lastOf_25 : decode cX11_lastOf 25 = .ok (.iconst 0, 1) := by decide +kernel
theorem dX11_lastOf_26 : decode cX11_lastOf 26 = .ok (.istore 6, 2) := by decide +kernel
theorem dX11_lastOf_28 : decode cX11_lastOf 28 = .ok (.iload 6, 2) := by decide +kernel
theorem dX11_lastOf_30 : decode cX11_lastOf 30 = .ok (.bipush 12, 2) := by decide +kernel
theorem dX11_lastOf_32 : decode cX11_lastOf 32 = .ok (.if_icmp .ge 23, 3) := by decide +kernel
theorem dX11_lastOf_35 : decode cX11_lastOf 35 = .ok (.aload_n 0, 1) := by decide +kernel
theorem dX11_lastOf_36 : decode cX11_lastOf 36 = .ok (.getfield 96, 3) := by decide +kernel
theorem dX11_lastOf_39 : decode cX11_lastOf 39 = .ok (.bipush 12, 2) := by decide +kernel
theorem dX11_lastOf_41 : decode cX11_lastOf 41 = .ok (.iload 5, 2) := by decide +kernel
theorem dX11_lastOf_43 : decode cX11_lastOf 43 = .ok (.imul, 1) := by decide +kernel
theorem dX11_lastOf_44 : decode cX11_lastOf 44 = .ok (.iload 6, 2) := by decide +kernel
theorem dX11_lastOf_46 : decode cX11_lastOf 46 = .ok (.iadd, 1) := by decide +kernel
theorem dX11_lastOf_47 : decode cX11_lastOf 47 = .ok (.iconst (-1), 1) := by decide +kernel
theorem dX11_lastOf_48 : decode cX11_lastOf 48 = .ok (.iastore, 1) := by decide +kernel
theorem dX11_lastOf_49 : decode cX11_lastOf 49 = .ok (.iinc 6 1, 3) := by decide +kernel
theorem dX11_lastOf_52 : decode cX11_lastOf 52 = .ok (.goto (-24), 3) := by decide +kernel
theorem dX11_lastOf_55 : decode cX11_lastOf 55 = .ok (.iconst 0, 1) := by decide +kernel
theorem dX11_lastOf_56 : decode cX11_lastOf 56 = .ok (.istore 6, 2) := by decide +kernel
theorem dX11_lastOf_58 : decode cX11_lastOf 58 = .ok (.iload 6, 2) := by decide +kernel
theorem dX11_lastOf_60 : decode cX11_lastOf 60 = .ok (.aload_n 0, 1) := by decide +kernel
theorem dX11_lastOf_61 : decode cX11_lastOf 61 = .ok (.getfield 130, 3) := by decide +kernel
theorem dX11_lastOf_64 : decode cX11_lastOf 64 = .ok (.if_icmp .ge 65, 3) := by decide +kernel
theorem dX11_lastOf_67 : decode cX11_lastOf 67 = .ok (.iload 5, 2) := by decide +kernel
theorem dX11_lastOf_69 : decode cX11_lastOf 69 = .ok (.ifCond .ne 60, 3) := by decide +kernel
theorem dX11_lastOf_72 : decode cX11_lastOf 72 = .ok (.aload_n 0, 1) := by decide +kernel
theorem dX11_lastOf_73 : decode cX11_lastOf 73 = .ok (.aload_n 0, 1) := by decide +kernel
theorem dX11_lastOf_74 : decode cX11_lastOf 74 = .ok (.getfield 51, 3) := by decide +kernel
theorem dX11_lastOf_77 : decode cX11_lastOf 77 = .ok (.iload 6, 2) := by decide +kernel
theorem dX11_lastOf_79 : decode cX11_lastOf 79 = .ok (.iaload, 1) := by decide +kernel
theorem dX11_lastOf_80 : decode cX11_lastOf 80 = .ok (.iload_n 2, 1) := by decide +kernel
theorem dX11_lastOf_81 : decode cX11_lastOf 81 = .ok (.invokevirtual 193, 3) := by decide +kernel
theorem dX11_lastOf_84 : decode cX11_lastOf 84 = .ok (.aload_n 0, 1) := by decide +kernel
theorem dX11_lastOf_85 : decode cX11_lastOf 85 = .ok (.getfield 96, 3) := by decide +kernel
theorem dX11_lastOf_88 : decode cX11_lastOf 88 = .ok (.aload_n 0, 1) := by decide +kernel
theorem dX11_lastOf_89 : decode cX11_lastOf 89 = .ok (.getfield 48, 3) := by decide +kernel
theorem dX11_lastOf_92 : decode cX11_lastOf 92 = .ok (.iload 6, 2) := by decide +kernel
theorem dX11_lastOf_94 : decode cX11_lastOf 94 = .ok (.iaload, 1) := by decide +kernel
theorem dX11_lastOf_95 : decode cX11_lastOf 95 = .ok (.iaload, 1) := by decide +kernel
theorem dX11_lastOf_96 : decode cX11_lastOf 96 = .ok (.if_icmp .le 27, 3) := by decide +kernel
theorem dX11_lastOf_99 : decode cX11_lastOf 99 = .ok (.aload_n 0, 1) := by decide +kernel
theorem dX11_lastOf_100 : decode cX11_lastOf 100 = .ok (.getfield 96, 3) := by decide +kernel
theorem dX11_lastOf_103 : decode cX11_lastOf 103 = .ok (.aload_n 0, 1) := by decide +kernel
theorem dX11_lastOf_104 : decode cX11_lastOf 104 = .ok (.getfield 48, 3) := by decide +kernel
theorem dX11_lastOf_107 : decode cX11_lastOf 107 = .ok (.iload 6, 2) := by decide +kernel
theorem dX11_lastOf_109 : decode cX11_lastOf 109 = .ok (.iaload, 1) := by decide +kernel
theorem dX11_lastOf_110 : decode cX11_lastOf 110 = .ok (.aload_n 0, 1) := by decide +kernel
theorem dX11_lastOf_111 : decode cX11_lastOf 111 = .ok (.aload_n 0, 1) := by decide +kernel
theorem dX11_lastOf_112 : decode cX11_lastOf 112 = .ok (.getfield 51, 3) := by decide +kernel
theorem dX11_lastOf_115 : decode cX11_lastOf 115 = .ok (.iload 6, 2) := by decide +kernel
theorem dX11_lastOf_117 : decode cX11_lastOf 117 = .ok (.iaload, 1) := by decide +kernel
theorem dX11_lastOf_118 : decode cX11_lastOf 118 = .ok (.iload_n 2, 1) := by decide +kernel
theorem dX11_lastOf_119 : decode cX11_lastOf 119 = .ok (.invokevirtual 193, 3) := by decide +kernel
theorem dX11_lastOf_122 : decode cX11_lastOf 122 = .ok (.iastore, 1) := by decide +kernel
theorem dX11_lastOf_123 : decode cX11_lastOf 123 = .ok (.iinc 6 1, 3) := by decide +kernel
theorem dX11_lastOf_126 : decode cX11_lastOf 126 = .ok (.goto (-68), 3) := by decide +kernel
theorem dX11_lastOf_129 : decode cX11_lastOf 129 = .ok (.iconst 0, 1) := by decide +kernel
theorem dX11_lastOf_130 : decode cX11_lastOf 130 = .ok (.istore 6, 2) := by decide +kernel
theorem dX11_lastOf_132 : decode cX11_lastOf 132 = .ok (.iload 6, 2) := by decide +kernel
theorem dX11_lastOf_134 : decode cX11_lastOf 134 = .ok (.aload_n 0, 1) := by decide +kernel
theorem dX11_lastOf_135 : decode cX11_lastOf 135 = .ok (.getfield 133, 3) := by decide +kernel
theorem dX11_lastOf_138 : decode cX11_lastOf 138 = .ok (.if_icmp .ge 115, 3) := by decide +kernel
theorem dX11_lastOf_141 : decode cX11_lastOf 141 = .ok (.iload 5, 2) := by decide +kernel
theorem dX11_lastOf_143 : decode cX11_lastOf 143 = .ok (.ifCond .le 110, 3) := by decide +kernel
theorem dX11_lastOf_146 : decode cX11_lastOf 146 = .ok (.aload_n 0, 1) := by decide +kernel
theorem dX11_lastOf_147 : decode cX11_lastOf 147 = .ok (.getfield 96, 3) := by decide +kernel
theorem dX11_lastOf_150 : decode cX11_lastOf 150 = .ok (.bipush 12, 2) := by decide +kernel
theorem dX11_lastOf_152 : decode cX11_lastOf 152 = .ok (.iload 5, 2) := by decide +kernel
theorem dX11_lastOf_154 : decode cX11_lastOf 154 = .ok (.iconst 1, 1) := by decide +kernel
theorem dX11_lastOf_155 : decode cX11_lastOf 155 = .ok (.isub, 1) := by decide +kernel
theorem dX11_lastOf_156 : decode cX11_lastOf 156 = .ok (.imul, 1) := by decide +kernel
theorem dX11_lastOf_157 : decode cX11_lastOf 157 = .ok (.aload_n 0, 1) := by decide +kernel
theorem dX11_lastOf_158 : decode cX11_lastOf 158 = .ok (.getfield 57, 3) := by decide +kernel
theorem dX11_lastOf_161 : decode cX11_lastOf 161 = .ok (.iload 6, 2) := by decide +kernel
theorem dX11_lastOf_163 : decode cX11_lastOf 163 = .ok (.iaload, 1) := by decide +kernel
theorem dX11_lastOf_164 : decode cX11_lastOf 164 = .ok (.iadd, 1) := by decide +kernel
theorem dX11_lastOf_165 : decode cX11_lastOf 165 = .ok (.iaload, 1) := by decide +kernel
theorem dX11_lastOf_166 : decode cX11_lastOf 166 = .ok (.istore 7, 2) := by decide +kernel
theorem dX11_lastOf_168 : decode cX11_lastOf 168 = .ok (.aload_n 0, 1) := by decide +kernel
theorem dX11_lastOf_169 : decode cX11_lastOf 169 = .ok (.aload_n 0, 1) := by decide +kernel
theorem dX11_lastOf_170 : decode cX11_lastOf 170 = .ok (.getfield 66, 3) := by decide +kernel
theorem dX11_lastOf_173 : decode cX11_lastOf 173 = .ok (.iload 6, 2) := by decide +kernel
theorem dX11_lastOf_175 : decode cX11_lastOf 175 = .ok (.iaload, 1) := by decide +kernel
theorem dX11_lastOf_176 : decode cX11_lastOf 176 = .ok (.iload_n 2, 1) := by decide +kernel
theorem dX11_lastOf_177 : decode cX11_lastOf 177 = .ok (.invokevirtual 193, 3) := by decide +kernel
theorem dX11_lastOf_180 : decode cX11_lastOf 180 = .ok (.iload 7, 2) := by decide +kernel
theorem dX11_lastOf_182 : decode cX11_lastOf 182 = .ok (.if_icmp .ge 18, 3) := by decide +kernel
theorem dX11_lastOf_185 : decode cX11_lastOf 185 = .ok (.aload_n 0, 1) := by decide +kernel
theorem dX11_lastOf_186 : decode cX11_lastOf 186 = .ok (.aload_n 0, 1) := by decide +kernel
theorem dX11_lastOf_187 : decode cX11_lastOf 187 = .ok (.getfield 66, 3) := by decide +kernel
theorem dX11_lastOf_190 : decode cX11_lastOf 190 = .ok (.iload 6, 2) := by decide +kernel
theorem dX11_lastOf_192 : decode cX11_lastOf 192 = .ok (.iaload, 1) := by decide +kernel
theorem dX11_lastOf_193 : decode cX11_lastOf 193 = .ok (.iload_n 2, 1) := by decide +kernel
theorem dX11_lastOf_194 : decode cX11_lastOf 194 = .ok (.invokevirtual 193, 3) := by decide +kernel
theorem dX11_lastOf_197 : decode cX11_lastOf 197 = .ok (.goto 5, 3) := by decide +kernel
theorem dX11_lastOf_200 : decode cX11_lastOf 200 = .ok (.iload 7, 2) := by decide +kernel
theorem dX11_lastOf_202 : decode cX11_lastOf 202 = .ok (.istore 7, 2) := by decide +kernel
theorem dX11_lastOf_204 : decode cX11_lastOf 204 = .ok (.iload 7, 2) := by decide +kernel
theorem dX11_lastOf_206 : decode cX11_lastOf 206 = .ok (.aload_n 0, 1) := by decide +kernel
theorem dX11_lastOf_207 : decode cX11_lastOf 207 = .ok (.getfield 96, 3) := by decide +kernel
theorem dX11_lastOf_210 : decode cX11_lastOf 210 = .ok (.bipush 12, 2) := by decide +kernel
theorem dX11_lastOf_212 : decode cX11_lastOf 212 = .ok (.iload 5, 2) := by decide +kernel
theorem dX11_lastOf_214 : decode cX11_lastOf 214 = .ok (.imul, 1) := by decide +kernel
theorem dX11_lastOf_215 : decode cX11_lastOf 215 = .ok (.aload_n 0, 1) := by decide +kernel
theorem dX11_lastOf_216 : decode cX11_lastOf 216 = .ok (.getfield 54, 3) := by decide +kernel
theorem dX11_lastOf_219 : decode cX11_lastOf 219 = .ok (.iload 6, 2) := by decide +kernel
theorem dX11_lastOf_221 : decode cX11_lastOf 221 = .ok (.iaload, 1) := by decide +kernel
theorem dX11_lastOf_222 : decode cX11_lastOf 222 = .ok (.iadd, 1) := by decide +kernel
theorem dX11_lastOf_223 : decode cX11_lastOf 223 = .ok (.iaload, 1) := by decide +kernel
theorem dX11_lastOf_224 : decode cX11_lastOf 224 = .ok (.if_icmp .le 23, 3) := by decide +kernel
theorem dX11_lastOf_227 : decode cX11_lastOf 227 = .ok (.aload_n 0, 1) := by decide +kernel
theorem dX11_lastOf_228 : decode cX11_lastOf 228 = .ok (.getfield 96, 3) := by decide +kernel
theorem dX11_lastOf_231 : decode cX11_lastOf 231 = .ok (.bipush 12, 2) := by decide +kernel
theorem dX11_lastOf_233 : decode cX11_lastOf 233 = .ok (.iload 5, 2) := by decide +kernel
theorem dX11_lastOf_235 : decode cX11_lastOf 235 = .ok (.imul, 1) := by decide +kernel
theorem dX11_lastOf_236 : decode cX11_lastOf 236 = .ok (.aload_n 0, 1) := by decide +kernel
theorem dX11_lastOf_237 : decode cX11_lastOf 237 = .ok (.getfield 54, 3) := by decide +kernel
theorem dX11_lastOf_240 : decode cX11_lastOf 240 = .ok (.iload 6, 2) := by decide +kernel
theorem dX11_lastOf_242 : decode cX11_lastOf 242 = .ok (.iaload, 1) := by decide +kernel
theorem dX11_lastOf_243 : decode cX11_lastOf 243 = .ok (.iadd, 1) := by decide +kernel
theorem dX11_lastOf_244 : decode cX11_lastOf 244 = .ok (.iload 7, 2) := by decide +kernel
theorem dX11_lastOf_246 : decode cX11_lastOf 246 = .ok (.iastore, 1) := by decide +kernel
theorem dX11_lastOf_247 : decode cX11_lastOf 247 = .ok (.iinc 6 1, 3) := by decide +kernel
theorem dX11_lastOf_250 : decode cX11_lastOf 250 = .ok (.goto (-118), 3) := by decide +kernel
theorem dX11_lastOf_253 : decode cX11_lastOf 253 = .ok (.aload_n 0, 1) := by decide +kernel
theorem dX11_lastOf_254 : decode cX11_lastOf 254 = .ok (.getfield 96, 3) := by decide +kernel
theorem dX11_lastOf_257 : decode cX11_lastOf 257 = .ok (.bipush 12, 2) := by decide +kernel
theorem dX11_lastOf_259 : decode cX11_lastOf 259 = .ok (.iload 5, 2) := by decide +kernel
theorem dX11_lastOf_261 : decode cX11_lastOf 261 = .ok (.imul, 1) := by decide +kernel
theorem dX11_lastOf_262 : decode cX11_lastOf 262 = .ok (.iload_n 3, 1) := by decide +kernel
theorem dX11_lastOf_263 : decode cX11_lastOf 263 = .ok (.iadd, 1) := by decide +kernel
theorem dX11_lastOf_264 : decode cX11_lastOf 264 = .ok (.iaload, 1) := by decide +kernel
theorem dX11_lastOf_265 : decode cX11_lastOf 265 = .ok (.iload 4, 2) := by decide +kernel
theorem dX11_lastOf_267 : decode cX11_lastOf 267 = .ok (.if_icmp .le 18, 3) := by decide +kernel
theorem dX11_lastOf_270 : decode cX11_lastOf 270 = .ok (.aload_n 0, 1) := by decide +kernel
theorem dX11_lastOf_271 : decode cX11_lastOf 271 = .ok (.getfield 96, 3) := by decide +kernel
theorem dX11_lastOf_274 : decode cX11_lastOf 274 = .ok (.bipush 12, 2) := by decide +kernel
theorem dX11_lastOf_276 : decode cX11_lastOf 276 = .ok (.iload 5, 2) := by decide +kernel
theorem dX11_lastOf_278 : decode cX11_lastOf 278 = .ok (.imul, 1) := by decide +kernel
theorem dX11_lastOf_279 : decode cX11_lastOf 279 = .ok (.iload_n 3, 1) := by decide +kernel
theorem dX11_lastOf_280 : decode cX11_lastOf 280 = .ok (.iadd, 1) := by decide +kernel
theorem dX11_lastOf_281 : decode cX11_lastOf 281 = .ok (.iaload, 1) := by decide +kernel
theorem dX11_lastOf_282 : decode cX11_lastOf 282 = .ok (.goto 5, 3) := by decide +kernel
theorem dX11_lastOf_285 : decode cX11_lastOf 285 = .ok (.iload 4, 2) := by decide +kernel
theorem dX11_lastOf_287 : decode cX11_lastOf 287 = .ok (.istore 4, 2) := by decide +kernel
theorem dX11_lastOf_289 : decode cX11_lastOf 289 = .ok (.iinc 5 1, 3) := by decide +kernel
theorem dX11_lastOf_292 : decode cX11_lastOf 292 = .ok (.goto (-273), 3) := by decide +kernel
theorem dX11_lastOf_295 : decode cX11_lastOf 295 = .ok (.iload 4, 2) := by decide +kernel
theorem dX11_lastOf_297 : decode cX11_lastOf 297 = .ok (.ireturn, 1) := by decide +kernel
theorem dX11_last_0 : decode cX11_last 0 = .ok (.aload_n 0, 1) := by decide +kernel
theorem dX11_last_1 : decode cX11_last 1 = .ok (.iload_n 1, 1) := by decide +kernel
theorem dX11_last_2 : decode cX11_last 2 = .ok (.invokevirtual 120, 3) := by decide +kernel
theorem dX11_last_5 : decode cX11_last 5 = .ok (.ifCond .eq 12, 3) := by decide +kernel
theorem dX11_last_8 : decode cX11_last 8 = .ok (.aload_n 0, 1) := by decide +kernel
theorem dX11_last_9 : decode cX11_last 9 = .ok (.iload_n 1, 1) := by decide +kernel
theorem dX11_last_10 : decode cX11_last 10 = .ok (.iload_n 2, 1) := by decide +kernel
theorem dX11_last_11 : decode cX11_last 11 = .ok (.invokevirtual 197, 3) := by decide +kernel
theorem dX11_last_14 : decode cX11_last 14 = .ok (.goto 4, 3) := by decide +kernel
theorem dX11_last_17 : decode cX11_last 17 = .ok (.iconst (-1), 1) := by decide +kernel
theorem dX11_last_18 : decode cX11_last 18 = .ok (.ireturn, 1) := by decide +kernel
theorem dX11_isRead_0 : decode cX11_isRead 0 = .ok (.iconst 0, 1) := by decide +kernel
theorem dX11_isRead_1 : decode cX11_isRead 1 = .ok (.istore_n 3, 1) := by decide +kernel
theorem dX11_isRead_2 : decode cX11_isRead 2 = .ok (.iload_n 3, 1) := by decide +kernel
theorem dX11_isRead_3 : decode cX11_isRead 3 = .ok (.aload_n 0, 1) := by decide +kernel
theorem dX11_isRead_4 : decode cX11_isRead 4 = .ok (.getfield 130, 3) := by decide +kernel
theorem dX11_isRead_7 : decode cX11_isRead 7 = .ok (.if_icmp .ge 36, 3) := by decide +kernel
theorem dX11_isRead_10 : decode cX11_isRead 10 = .ok (.aload_n 0, 1) := by decide +kernel
theorem dX11_isRead_11 : decode cX11_isRead 11 = .ok (.getfield 48, 3) := by decide +kernel
theorem dX11_isRead_14 : decode cX11_isRead 14 = .ok (.iload_n 3, 1) := by decide +kernel
theorem dX11_isRead_15 : decode cX11_isRead 15 = .ok (.iaload, 1) := by decide +kernel
theorem dX11_isRead_16 : decode cX11_isRead 16 = .ok (.iload_n 1, 1) := by decide +kernel
theorem dX11_isRead_17 : decode cX11_isRead 17 = .ok (.if_icmp .ne 20, 3) := by decide +kernel
theorem dX11_isRead_20 : decode cX11_isRead 20 = .ok (.aload_n 0, 1) := by decide +kernel
theorem dX11_isRead_21 : decode cX11_isRead 21 = .ok (.getfield 42, 3) := by decide +kernel
theorem dX11_isRead_24 : decode cX11_isRead 24 = .ok (.aload_n 0, 1) := by decide +kernel
theorem dX11_isRead_25 : decode cX11_isRead 25 = .ok (.getfield 51, 3) := by decide +kernel
theorem dX11_isRead_28 : decode cX11_isRead 28 = .ok (.iload_n 3, 1) := by decide +kernel
theorem dX11_isRead_29 : decode cX11_isRead 29 = .ok (.iaload, 1) := by decide +kernel
theorem dX11_isRead_30 : decode cX11_isRead 30 = .ok (.iaload, 1) := by decide +kernel
theorem dX11_isRead_31 : decode cX11_isRead 31 = .ok (.iload_n 2, 1) := by decide +kernel
theorem dX11_isRead_32 : decode cX11_isRead 32 = .ok (.if_icmp .lt 5, 3) := by decide +kernel
theorem dX11_isRead_35 : decode cX11_isRead 35 = .ok (.iconst 1, 1) := by decide +kernel
theorem dX11_isRead_36 : decode cX11_isRead 36 = .ok (.ireturn, 1) := by decide +kernel
theorem dX11_isRead_37 : decode cX11_isRead 37 = .ok (.iinc 3 1, 3) := by decide +kernel
theorem dX11_isRead_40 : decode cX11_isRead 40 = .ok (.goto (-38), 3) := by decide +kernel
theorem dX11_isRead_43 : decode cX11_isRead 43 = .ok (.iconst 0, 1) := by decide +kernel
theorem dX11_isRead_44 : decode cX11_isRead 44 = .ok (.ireturn, 1) := by decide +kernel
theorem dX11_isPlanned_0 : decode cX11_isPlanned 0 = .ok (.iconst 0, 1) := by decide +kernel
theorem dX11_isPlanned_1 : decode cX11_isPlanned 1 = .ok (.istore_n 2, 1) := by decide +kernel
theorem dX11_isPlanned_2 : decode cX11_isPlanned 2 = .ok (.iload_n 2, 1) := by decide +kernel
theorem dX11_isPlanned_3 : decode cX11_isPlanned 3 = .ok (.aload_n 0, 1) := by decide +kernel
theorem dX11_isPlanned_4 : decode cX11_isPlanned 4 = .ok (.getfield 117, 3) := by decide +kernel
theorem dX11_isPlanned_7 : decode cX11_isPlanned 7 = .ok (.if_icmp .ge 21, 3) := by decide +kernel
theorem dX11_isPlanned_10 : decode cX11_isPlanned 10 = .ok (.aload_n 0, 1) := by decide +kernel
theorem dX11_isPlanned_11 : decode cX11_isPlanned 11 = .ok (.getfield 39, 3) := by decide +kernel
theorem dX11_isPlanned_14 : decode cX11_isPlanned 14 = .ok (.iload_n 2, 1) := by decide +kernel
theorem dX11_isPlanned_15 : decode cX11_isPlanned 15 = .ok (.iaload, 1) := by decide +kernel
theorem dX11_isPlanned_16 : decode cX11_isPlanned 16 = .ok (.iload_n 1, 1) := by decide +kernel
theorem dX11_isPlanned_17 : decode cX11_isPlanned 17 = .ok (.if_icmp .ne 5, 3) := by decide +kernel
theorem dX11_isPlanned_20 : decode cX11_isPlanned 20 = .ok (.iconst 0, 1) := by decide +kernel
theorem dX11_isPlanned_21 : decode cX11_isPlanned 21 = .ok (.ireturn, 1) := by decide +kernel
theorem dX11_isPlanned_22 : decode cX11_isPlanned 22 = .ok (.iinc 2 1, 3) := by decide +kernel
theorem dX11_isPlanned_25 : decode cX11_isPlanned 25 = .ok (.goto (-23), 3) := by decide +kernel
theorem dX11_isPlanned_28 : decode cX11_isPlanned 28 = .ok (.aload_n 0, 1) := by decide +kernel
theorem dX11_isPlanned_29 : decode cX11_isPlanned 29 = .ok (.iload_n 1, 1) := by decide +kernel
theorem dX11_isPlanned_30 : decode cX11_isPlanned 30 = .ok (.invokevirtual 156, 3) := by decide +kernel
theorem dX11_isPlanned_33 : decode cX11_isPlanned 33 = .ok (.iconst (-1), 1) := by decide +kernel
theorem dX11_isPlanned_34 : decode cX11_isPlanned 34 = .ok (.if_icmp .eq 7, 3) := by decide +kernel
theorem dX11_isPlanned_37 : decode cX11_isPlanned 37 = .ok (.iconst 1, 1) := by decide +kernel
theorem dX11_isPlanned_38 : decode cX11_isPlanned 38 = .ok (.goto 4, 3) := by decide +kernel
theorem dX11_isPlanned_41 : decode cX11_isPlanned 41 = .ok (.iconst 0, 1) := by decide +kernel
theorem dX11_isPlanned_42 : decode cX11_isPlanned 42 = .ok (.ireturn, 1) := by decide +kernel
theorem dX11_isBetter_0 : decode cX11_isBetter 0 = .ok (.iload_n 1, 1) := by decide +kernel
theorem dX11_isBetter_1 : decode cX11_isBetter 1 = .ok (.aload_n 0, 1) := by decide +kernel
theorem dX11_isBetter_2 : decode cX11_isBetter 2 = .ok (.getfield 200, 3) := by decide +kernel
theorem dX11_isBetter_5 : decode cX11_isBetter 5 = .ok (.if_icmp .eq 17, 3) := by decide +kernel
theorem dX11_isBetter_8 : decode cX11_isBetter 8 = .ok (.iload_n 1, 1) := by decide +kernel
theorem dX11_isBetter_9 : decode cX11_isBetter 9 = .ok (.aload_n 0, 1) := by decide +kernel
theorem dX11_isBetter_10 : decode cX11_isBetter 10 = .ok (.getfield 200, 3) := by decide +kernel
theorem dX11_isBetter_13 : decode cX11_isBetter 13 = .ok (.if_icmp .ge 7, 3) := by decide +kernel
theorem dX11_isBetter_16 : decode cX11_isBetter 16 = .ok (.iconst 1, 1) := by decide +kernel
theorem dX11_isBetter_17 : decode cX11_isBetter 17 = .ok (.goto 4, 3) := by decide +kernel
theorem dX11_isBetter_20 : decode cX11_isBetter 20 = .ok (.iconst 0, 1) := by decide +kernel
theorem dX11_isBetter_21 : decode cX11_isBetter 21 = .ok (.ireturn, 1) := by decide +kernel
theorem dX11_isBetter_22 : decode cX11_isBetter 22 = .ok (.aload_n 0, 1) := by decide +kernel
theorem dX11_isBetter_23 : decode cX11_isBetter 23 = .ok (.getfield 184, 3) := by decide +kernel
theorem dX11_isBetter_26 : decode cX11_isBetter 26 = .ok (.aload_n 0, 1) := by decide +kernel
theorem dX11_isBetter_27 : decode cX11_isBetter 27 = .ok (.getfield 203, 3) := by decide +kernel
theorem dX11_isBetter_30 : decode cX11_isBetter 30 = .ok (.if_icmp .eq 20, 3) := by decide +kernel
theorem dX11_isBetter_33 : decode cX11_isBetter 33 = .ok (.aload_n 0, 1) := by decide +kernel
theorem dX11_isBetter_34 : decode cX11_isBetter 34 = .ok (.getfield 184, 3) := by decide +kernel
theorem dX11_isBetter_37 : decode cX11_isBetter 37 = .ok (.aload_n 0, 1) := by decide +kernel
theorem dX11_isBetter_38 : decode cX11_isBetter 38 = .ok (.getfield 203, 3) := by decide +kernel
theorem dX11_isBetter_41 : decode cX11_isBetter 41 = .ok (.if_icmp .ge 7, 3) := by decide +kernel
theorem dX11_isBetter_44 : decode cX11_isBetter 44 = .ok (.iconst 1, 1) := by decide +kernel
theorem dX11_isBetter_45 : decode cX11_isBetter 45 = .ok (.goto 4, 3) := by decide +kernel
theorem dX11_isBetter_48 : decode cX11_isBetter 48 = .ok (.iconst 0, 1) := by decide +kernel
theorem dX11_isBetter_49 : decode cX11_isBetter 49 = .ok (.ireturn, 1) := by decide +kernel
theorem dX11_isBetter_50 : decode cX11_isBetter 50 = .ok (.iconst 0, 1) := by decide +kernel
theorem dX11_isBetter_51 : decode cX11_isBetter 51 = .ok (.istore_n 2, 1) := by decide +kernel
theorem dX11_isBetter_52 : decode cX11_isBetter 52 = .ok (.iload_n 2, 1) := by decide +kernel
theorem dX11_isBetter_53 : decode cX11_isBetter 53 = .ok (.aload_n 0, 1) := by decide +kernel
theorem dX11_isBetter_54 : decode cX11_isBetter 54 = .ok (.getfield 184, 3) := by decide +kernel
theorem dX11_isBetter_57 : decode cX11_isBetter 57 = .ok (.if_icmp .ge 45, 3) := by decide +kernel
theorem dX11_isBetter_60 : decode cX11_isBetter 60 = .ok (.aload_n 0, 1) := by decide +kernel
theorem dX11_isBetter_61 : decode cX11_isBetter 61 = .ok (.getfield 90, 3) := by decide +kernel
theorem dX11_isBetter_64 : decode cX11_isBetter 64 = .ok (.iload_n 2, 1) := by decide +kernel
theorem dX11_isBetter_65 : decode cX11_isBetter 65 = .ok (.iaload, 1) := by decide +kernel
theorem dX11_isBetter_66 : decode cX11_isBetter 66 = .ok (.aload_n 0, 1) := by decide +kernel
theorem dX11_isBetter_67 : decode cX11_isBetter 67 = .ok (.getfield 99, 3) := by decide +kernel
theorem dX11_isBetter_70 : decode cX11_isBetter 70 = .ok (.iload_n 2, 1) := by decide +kernel
theorem dX11_isBetter_71 : decode cX11_isBetter 71 = .ok (.iaload, 1) := by decide +kernel
theorem dX11_isBetter_72 : decode cX11_isBetter 72 = .ok (.if_icmp .eq 24, 3) := by decide +kernel
theorem dX11_isBetter_75 : decode cX11_isBetter 75 = .ok (.aload_n 0, 1) := by decide +kernel
theorem dX11_isBetter_76 : decode cX11_isBetter 76 = .ok (.getfield 90, 3) := by decide +kernel
theorem dX11_isBetter_79 : decode cX11_isBetter 79 = .ok (.iload_n 2, 1) := by decide +kernel
theorem dX11_isBetter_80 : decode cX11_isBetter 80 = .ok (.iaload, 1) := by decide +kernel
theorem dX11_isBetter_81 : decode cX11_isBetter 81 = .ok (.aload_n 0, 1) := by decide +kernel
theorem dX11_isBetter_82 : decode cX11_isBetter 82 = .ok (.getfield 99, 3) := by decide +kernel
theorem dX11_isBetter_85 : decode cX11_isBetter 85 = .ok (.iload_n 2, 1) := by decide +kernel
theorem dX11_isBetter_86 : decode cX11_isBetter 86 = .ok (.iaload, 1) := by decide +kernel
theorem dX11_isBetter_87 : decode cX11_isBetter 87 = .ok (.if_icmp .ge 7, 3) := by decide +kernel
theorem dX11_isBetter_90 : decode cX11_isBetter 90 = .ok (.iconst 1, 1) := by decide +kernel
theorem dX11_isBetter_91 : decode cX11_isBetter 91 = .ok (.goto 4, 3) := by decide +kernel
theorem dX11_isBetter_94 : decode cX11_isBetter 94 = .ok (.iconst 0, 1) := by decide +kernel
theorem dX11_isBetter_95 : decode cX11_isBetter 95 = .ok (.ireturn, 1) := by decide +kernel
theorem dX11_isBetter_96 : decode cX11_isBetter 96 = .ok (.iinc 2 1, 3) := by decide +kernel
theorem dX11_isBetter_99 : decode cX11_isBetter 99 = .ok (.goto (-47), 3) := by decide +kernel
theorem dX11_isBetter_102 : decode cX11_isBetter 102 = .ok (.iconst 0, 1) := by decide +kernel
theorem dX11_isBetter_103 : decode cX11_isBetter 103 = .ok (.ireturn, 1) := by decide +kernel
theorem dX11_goalOf_0 : decode cX11_goalOf 0 = .ok (.iconst (-1), 1) := by decide +kernel
theorem dX11_goalOf_1 : decode cX11_goalOf 1 = .ok (.istore_n 3, 1) := by decide +kernel
theorem dX11_goalOf_2 : decode cX11_goalOf 2 = .ok (.iconst 0, 1) := by decide +kernel
theorem dX11_goalOf_3 : decode cX11_goalOf 3 = .ok (.istore 4, 2) := by decide +kernel
theorem dX11_goalOf_5 : decode cX11_goalOf 5 = .ok (.iload 4, 2) := by decide +kernel
theorem dX11_goalOf_7 : decode cX11_goalOf 7 = .ok (.aload_n 0, 1) := by decide +kernel
theorem dX11_goalOf_8 : decode cX11_goalOf 8 = .ok (.getfield 114, 3) := by decide +kernel
theorem dX11_goalOf_11 : decode cX11_goalOf 11 = .ok (.if_icmp .ge 103, 3) := by decide +kernel
theorem dX11_goalOf_14 : decode cX11_goalOf 14 = .ok (.aload_n 0, 1) := by decide +kernel
theorem dX11_goalOf_15 : decode cX11_goalOf 15 = .ok (.iload 4, 2) := by decide +kernel
theorem dX11_goalOf_17 : decode cX11_goalOf 17 = .ok (.iload_n 1, 1) := by decide +kernel
theorem dX11_goalOf_18 : decode cX11_goalOf 18 = .ok (.invokevirtual 206, 3) := by decide +kernel
theorem dX11_goalOf_21 : decode cX11_goalOf 21 = .ok (.ifCond .ne 6, 3) := by decide +kernel
theorem dX11_goalOf_24 : decode cX11_goalOf 24 = .ok (.goto 84, 3) := by decide +kernel
theorem dX11_goalOf_27 : decode cX11_goalOf 27 = .ok (.aload_n 0, 1) := by decide +kernel
theorem dX11_goalOf_28 : decode cX11_goalOf 28 = .ok (.iload_n 2, 1) := by decide +kernel
theorem dX11_goalOf_29 : decode cX11_goalOf 29 = .ok (.iload 4, 2) := by decide +kernel
theorem dX11_goalOf_31 : decode cX11_goalOf 31 = .ok (.invokevirtual 187, 3) := by decide +kernel
theorem dX11_goalOf_34 : decode cX11_goalOf 34 = .ok (.istore 5, 2) := by decide +kernel
theorem dX11_goalOf_36 : decode cX11_goalOf 36 = .ok (.iload 5, 2) := by decide +kernel
theorem dX11_goalOf_38 : decode cX11_goalOf 38 = .ok (.iconst (-1), 1) := by decide +kernel
theorem dX11_goalOf_39 : decode cX11_goalOf 39 = .ok (.if_icmp .eq 69, 3) := by decide +kernel
theorem dX11_goalOf_42 : decode cX11_goalOf 42 = .ok (.iload_n 3, 1) := by decide +kernel
theorem dX11_goalOf_43 : decode cX11_goalOf 43 = .ok (.iconst (-1), 1) := by decide +kernel
theorem dX11_goalOf_44 : decode cX11_goalOf 44 = .ok (.if_icmp .eq 15, 3) := by decide +kernel
theorem dX11_goalOf_47 : decode cX11_goalOf 47 = .ok (.aload_n 0, 1) := by decide +kernel
theorem dX11_goalOf_48 : decode cX11_goalOf 48 = .ok (.iload 5, 2) := by decide +kernel
theorem dX11_goalOf_50 : decode cX11_goalOf 50 = .ok (.invokevirtual 209, 3) := by decide +kernel
theorem dX11_goalOf_53 : decode cX11_goalOf 53 = .ok (.ifCond .ne 6, 3) := by decide +kernel
theorem dX11_goalOf_56 : decode cX11_goalOf 56 = .ok (.goto 52, 3) := by decide +kernel
theorem dX11_goalOf_59 : decode cX11_goalOf 59 = .ok (.iload 4, 2) := by decide +kernel
theorem dX11_goalOf_61 : decode cX11_goalOf 61 = .ok (.istore_n 3, 1) := by decide +kernel
theorem dX11_goalOf_62 : decode cX11_goalOf 62 = .ok (.aload_n 0, 1) := by decide +kernel
theorem dX11_goalOf_63 : decode cX11_goalOf 63 = .ok (.iload 5, 2) := by decide +kernel
theorem dX11_goalOf_65 : decode cX11_goalOf 65 = .ok (.putfield 200, 3) := by decide +kernel
theorem dX11_goalOf_68 : decode cX11_goalOf 68 = .ok (.aload_n 0, 1) := by decide +kernel
theorem dX11_goalOf_69 : decode cX11_goalOf 69 = .ok (.aload_n 0, 1) := by decide +kernel
theorem dX11_goalOf_70 : decode cX11_goalOf 70 = .ok (.getfield 184, 3) := by decide +kernel
theorem dX11_goalOf_73 : decode cX11_goalOf 73 = .ok (.putfield 203, 3) := by decide +kernel
theorem dX11_goalOf_76 : decode cX11_goalOf 76 = .ok (.iconst 0, 1) := by decide +kernel
theorem dX11_goalOf_77 : decode cX11_goalOf 77 = .ok (.istore 6, 2) := by decide +kernel
theorem dX11_goalOf_79 : decode cX11_goalOf 79 = .ok (.iload 6, 2) := by decide +kernel
theorem dX11_goalOf_81 : decode cX11_goalOf 81 = .ok (.aload_n 0, 1) := by decide +kernel
theorem dX11_goalOf_82 : decode cX11_goalOf 82 = .ok (.getfield 184, 3) := by decide +kernel
theorem dX11_goalOf_85 : decode cX11_goalOf 85 = .ok (.if_icmp .ge 23, 3) := by decide +kernel
theorem dX11_goalOf_88 : decode cX11_goalOf 88 = .ok (.aload_n 0, 1) := by decide +kernel
theorem dX11_goalOf_89 : decode cX11_goalOf 89 = .ok (.getfield 99, 3) := by decide +kernel
theorem dX11_goalOf_92 : decode cX11_goalOf 92 = .ok (.iload 6, 2) := by decide +kernel
theorem dX11_goalOf_94 : decode cX11_goalOf 94 = .ok (.aload_n 0, 1) := by decide +kernel
theorem dX11_goalOf_95 : decode cX11_goalOf 95 = .ok (.getfield 90, 3) := by decide +kernel
theorem dX11_goalOf_98 : decode cX11_goalOf 98 = .ok (.iload 6, 2) := by decide +kernel
theorem dX11_goalOf_100 : decode cX11_goalOf 100 = .ok (.iaload, 1) := by decide +kernel
theorem dX11_goalOf_101 : decode cX11_goalOf 101 = .ok (.iastore, 1) := by decide +kernel
theorem dX11_goalOf_102 : decode cX11_goalOf 102 = .ok (.iinc 6 1, 3) := by decide +kernel
theorem dX11_goalOf_105 : decode cX11_goalOf 105 = .ok (.goto (-26), 3) := by decide +kernel
theorem dX11_goalOf_108 : decode cX11_goalOf 108 = .ok (.iinc 4 1, 3) := by decide +kernel
theorem dX11_goalOf_111 : decode cX11_goalOf 111 = .ok (.goto (-106), 3) := by decide +kernel
theorem dX11_goalOf_114 : decode cX11_goalOf 114 = .ok (.iload_n 3, 1) := by decide +kernel
theorem dX11_goalOf_115 : decode cX11_goalOf 115 = .ok (.ireturn, 1) := by decide +kernel
theorem dX11_plan_0 : decode cX11_plan 0 = .ok (.iload_n 1, 1) := by decide +kernel
theorem dX11_plan_1 : decode cX11_plan 1 = .ok (.aload_n 0, 1) := by decide +kernel
theorem dX11_plan_2 : decode cX11_plan 2 = .ok (.getfield 136, 3) := by decide +kernel
theorem dX11_plan_5 : decode cX11_plan 5 = .ok (.sipush 999, 3) := by decide +kernel
theorem dX11_plan_8 : decode cX11_plan 8 = .ok (.invokestatic 110, 3) := by decide +kernel
theorem dX11_plan_11 : decode cX11_plan 11 = .ok (.ifCond .ne 5, 3) := by decide +kernel
theorem dX11_plan_14 : decode cX11_plan 14 = .ok (.iconst (-1), 1) := by decide +kernel
theorem dX11_plan_15 : decode cX11_plan 15 = .ok (.ireturn, 1) := by decide +kernel
theorem dX11_plan_16 : decode cX11_plan 16 = .ok (.iconst 0, 1) := by decide +kernel
theorem dX11_plan_17 : decode cX11_plan 17 = .ok (.istore_n 2, 1) := by decide +kernel
theorem dX11_plan_18 : decode cX11_plan 18 = .ok (.iconst 0, 1) := by decide +kernel
theorem dX11_plan_19 : decode cX11_plan 19 = .ok (.istore_n 3, 1) := by decide +kernel
theorem dX11_plan_20 : decode cX11_plan 20 = .ok (.iconst 0, 1) := by decide +kernel
theorem dX11_plan_21 : decode cX11_plan 21 = .ok (.istore 4, 2) := by decide +kernel
theorem dX11_plan_23 : decode cX11_plan 23 = .ok (.iload 4, 2) := by decide +kernel
theorem dX11_plan_25 : decode cX11_plan 25 = .ok (.aload_n 0, 1) := by decide +kernel
theorem dX11_plan_26 : decode cX11_plan 26 = .ok (.getfield 117, 3) := by decide +kernel
theorem dX11_plan_29 : decode cX11_plan 29 = .ok (.if_icmp .ge 44, 3) := by decide +kernel
theorem dX11_plan_32 : decode cX11_plan 32 = .ok (.aload_n 0, 1) := by decide +kernel
theorem dX11_plan_33 : decode cX11_plan 33 = .ok (.iload 4, 2) := by decide +kernel
theorem dX11_plan_35 : decode cX11_plan 35 = .ok (.invokevirtual 212, 3) := by decide +kernel
theorem dX11_plan_38 : decode cX11_plan 38 = .ok (.ifCond .ne 6, 3) := by decide +kernel
theorem dX11_plan_41 : decode cX11_plan 41 = .ok (.goto 26, 3) := by decide +kernel
theorem dX11_plan_44 : decode cX11_plan 44 = .ok (.aload_n 0, 1) := by decide +kernel
theorem dX11_plan_45 : decode cX11_plan 45 = .ok (.iload_n 1, 1) := by decide +kernel
theorem dX11_plan_46 : decode cX11_plan 46 = .ok (.iload 4, 2) := by decide +kernel
theorem dX11_plan_48 : decode cX11_plan 48 = .ok (.invokevirtual 215, 3) := by decide +kernel
theorem dX11_plan_51 : decode cX11_plan 51 = .ok (.iconst (-1), 1) := by decide +kernel
theorem dX11_plan_52 : decode cX11_plan 52 = .ok (.if_icmp .ne 8, 3) := by decide +kernel
theorem dX11_plan_55 : decode cX11_plan 55 = .ok (.iconst 1, 1) := by decide +kernel
theorem dX11_plan_56 : decode cX11_plan 56 = .ok (.istore_n 3, 1) := by decide +kernel
theorem dX11_plan_57 : decode cX11_plan 57 = .ok (.goto 10, 3) := by decide +kernel
theorem dX11_plan_60 : decode cX11_plan 60 = .ok (.iload_n 2, 1) := by decide +kernel
theorem dX11_plan_61 : decode cX11_plan 61 = .ok (.aload_n 0, 1) := by decide +kernel
theorem dX11_plan_62 : decode cX11_plan 62 = .ok (.getfield 200, 3) := by decide +kernel
theorem dX11_plan_65 : decode cX11_plan 65 = .ok (.iadd, 1) := by decide +kernel
theorem dX11_plan_66 : decode cX11_plan 66 = .ok (.istore_n 2, 1) := by decide +kernel
theorem dX11_plan_67 : decode cX11_plan 67 = .ok (.iinc 4 1, 3) := by decide +kernel
theorem dX11_plan_70 : decode cX11_plan 70 = .ok (.goto (-47), 3) := by decide +kernel
theorem dX11_plan_73 : decode cX11_plan 73 = .ok (.iload_n 3, 1) := by decide +kernel
theorem dX11_plan_74 : decode cX11_plan 74 = .ok (.ifCond .eq 8, 3) := by decide +kernel
theorem dX11_plan_77 : decode cX11_plan 77 = .ok (.bipush (-2), 2) := by decide +kernel
theorem dX11_plan_79 : decode cX11_plan 79 = .ok (.goto 4, 3) := by decide +kernel
theorem dX11_plan_82 : decode cX11_plan 82 = .ok (.iload_n 2, 1) := by decide +kernel
theorem dX11_plan_83 : decode cX11_plan 83 = .ok (.ireturn, 1) := by decide +kernel
theorem dX11_goal_0 : decode cX11_goal 0 = .ok (.iload_n 1, 1) := by decide +kernel
theorem dX11_goal_1 : decode cX11_goal 1 = .ok (.aload_n 0, 1) := by decide +kernel
theorem dX11_goal_2 : decode cX11_goal 2 = .ok (.getfield 136, 3) := by decide +kernel
theorem dX11_goal_5 : decode cX11_goal 5 = .ok (.sipush 999, 3) := by decide +kernel
theorem dX11_goal_8 : decode cX11_goal 8 = .ok (.invokestatic 110, 3) := by decide +kernel
theorem dX11_goal_11 : decode cX11_goal 11 = .ok (.ifCond .eq 28, 3) := by decide +kernel
theorem dX11_goal_14 : decode cX11_goal 14 = .ok (.aload_n 0, 1) := by decide +kernel
theorem dX11_goal_15 : decode cX11_goal 15 = .ok (.iload_n 2, 1) := by decide +kernel
theorem dX11_goal_16 : decode cX11_goal 16 = .ok (.invokevirtual 120, 3) := by decide +kernel
theorem dX11_goal_19 : decode cX11_goal 19 = .ok (.ifCond .eq 20, 3) := by decide +kernel
theorem dX11_goal_22 : decode cX11_goal 22 = .ok (.aload_n 0, 1) := by decide +kernel
theorem dX11_goal_23 : decode cX11_goal 23 = .ok (.iload_n 2, 1) := by decide +kernel
theorem dX11_goal_24 : decode cX11_goal 24 = .ok (.invokevirtual 212, 3) := by decide +kernel
theorem dX11_goal_27 : decode cX11_goal 27 = .ok (.ifCond .eq 12, 3) := by decide +kernel
theorem dX11_goal_30 : decode cX11_goal 30 = .ok (.aload_n 0, 1) := by decide +kernel
theorem dX11_goal_31 : decode cX11_goal 31 = .ok (.iload_n 1, 1) := by decide +kernel
theorem dX11_goal_32 : decode cX11_goal 32 = .ok (.iload_n 2, 1) := by decide +kernel
theorem dX11_goal_33 : decode cX11_goal 33 = .ok (.invokevirtual 215, 3) := by decide +kernel
theorem dX11_goal_36 : decode cX11_goal 36 = .ok (.goto 4, 3) := by decide +kernel
theorem dX11_goal_39 : decode cX11_goal 39 = .ok (.iconst (-1), 1) := by decide +kernel
theorem dX11_goal_40 : decode cX11_goal 40 = .ok (.ireturn, 1) := by decide +kernel
theorem dX11_look_0 : decode cX11_look 0 = .ok (.aload_n 0, 1) := by decide +kernel
theorem dX11_look_1 : decode cX11_look 1 = .ok (.iload_n 1, 1) := by decide +kernel
theorem dX11_look_2 : decode cX11_look 2 = .ok (.invokevirtual 120, 3) := by decide +kernel
theorem dX11_look_5 : decode cX11_look 5 = .ok (.ifCond .ne 5, 3) := by decide +kernel
theorem dX11_look_8 : decode cX11_look 8 = .ok (.iconst (-1), 1) := by decide +kernel
theorem dX11_look_9 : decode cX11_look 9 = .ok (.ireturn, 1) := by decide +kernel
theorem dX11_look_10 : decode cX11_look 10 = .ok (.iload_n 2, 1) := by decide +kernel
theorem dX11_look_11 : decode cX11_look 11 = .ok (.bipush 100, 2) := by decide +kernel
theorem dX11_look_13 : decode cX11_look 13 = .ok (.isub, 1) := by decide +kernel
theorem dX11_look_14 : decode cX11_look 14 = .ok (.iconst 0, 1) := by decide +kernel
theorem dX11_look_15 : decode cX11_look 15 = .ok (.aload_n 0, 1) := by decide +kernel
theorem dX11_look_16 : decode cX11_look 16 = .ok (.getfield 33, 3) := by decide +kernel
theorem dX11_look_19 : decode cX11_look 19 = .ok (.iload_n 1, 1) := by decide +kernel
theorem dX11_look_20 : decode cX11_look 20 = .ok (.iaload, 1) := by decide +kernel
theorem dX11_look_21 : decode cX11_look 21 = .ok (.iconst 1, 1) := by decide +kernel
theorem dX11_look_22 : decode cX11_look 22 = .ok (.isub, 1) := by decide +kernel
theorem dX11_look_23 : decode cX11_look 23 = .ok (.invokestatic 110, 3) := by decide +kernel
theorem dX11_look_26 : decode cX11_look 26 = .ok (.ifCond .eq 13, 3) := by decide +kernel
theorem dX11_look_29 : decode cX11_look 29 = .ok (.aload_n 0, 1) := by decide +kernel
theorem dX11_look_30 : decode cX11_look 30 = .ok (.iload_n 1, 1) := by decide +kernel
theorem dX11_look_31 : decode cX11_look 31 = .ok (.iload_n 2, 1) := by decide +kernel
theorem dX11_look_32 : decode cX11_look 32 = .ok (.bipush 100, 2) := by decide +kernel
theorem dX11_look_34 : decode cX11_look 34 = .ok (.isub, 1) := by decide +kernel
theorem dX11_look_35 : decode cX11_look 35 = .ok (.invokevirtual 145, 3) := by decide +kernel
theorem dX11_look_38 : decode cX11_look 38 = .ok (.ireturn, 1) := by decide +kernel
theorem dX11_look_39 : decode cX11_look 39 = .ok (.iload_n 2, 1) := by decide +kernel
theorem dX11_look_40 : decode cX11_look 40 = .ok (.tableswitch 109 0 5 #[40, 47, 65, 71, 78, 85], 40) := by decide +kernel
theorem dX11_look_80 : decode cX11_look 80 = .ok (.aload_n 0, 1) := by decide +kernel
theorem dX11_look_81 : decode cX11_look 81 = .ok (.getfield 33, 3) := by decide +kernel
theorem dX11_look_84 : decode cX11_look 84 = .ok (.iload_n 1, 1) := by decide +kernel
theorem dX11_look_85 : decode cX11_look 85 = .ok (.iaload, 1) := by decide +kernel
theorem dX11_look_86 : decode cX11_look 86 = .ok (.ireturn, 1) := by decide +kernel
theorem dX11_look_87 : decode cX11_look 87 = .ok (.aload_n 0, 1) := by decide +kernel
theorem dX11_look_88 : decode cX11_look 88 = .ok (.iload_n 1, 1) := by decide +kernel
theorem dX11_look_89 : decode cX11_look 89 = .ok (.invokevirtual 156, 3) := by decide +kernel
theorem dX11_look_92 : decode cX11_look 92 = .ok (.iconst (-1), 1) := by decide +kernel
theorem dX11_look_93 : decode cX11_look 93 = .ok (.if_icmp .ne 7, 3) := by decide +kernel
theorem dX11_look_96 : decode cX11_look 96 = .ok (.iconst 0, 1) := by decide +kernel
theorem dX11_look_97 : decode cX11_look 97 = .ok (.goto 7, 3) := by decide +kernel
theorem dX11_look_100 : decode cX11_look 100 = .ok (.aload_n 0, 1) := by decide +kernel
theorem dX11_look_101 : decode cX11_look 101 = .ok (.getfield 139, 3) := by decide +kernel
theorem dX11_look_104 : decode cX11_look 104 = .ok (.ireturn, 1) := by decide +kernel
theorem dX11_look_105 : decode cX11_look 105 = .ok (.aload_n 0, 1) := by decide +kernel
theorem dX11_look_106 : decode cX11_look 106 = .ok (.iload_n 1, 1) := by decide +kernel
theorem dX11_look_107 : decode cX11_look 107 = .ok (.invokevirtual 177, 3) := by decide +kernel
theorem dX11_look_110 : decode cX11_look 110 = .ok (.ireturn, 1) := by decide +kernel
theorem dX11_look_111 : decode cX11_look 111 = .ok (.aload_n 0, 1) := by decide +kernel
theorem dX11_look_112 : decode cX11_look 112 = .ok (.getfield 36, 3) := by decide +kernel
theorem dX11_look_115 : decode cX11_look 115 = .ok (.iload_n 1, 1) := by decide +kernel
theorem dX11_look_116 : decode cX11_look 116 = .ok (.iaload, 1) := by decide +kernel
theorem dX11_look_117 : decode cX11_look 117 = .ok (.ireturn, 1) := by decide +kernel
theorem dX11_look_118 : decode cX11_look 118 = .ok (.aload_n 0, 1) := by decide +kernel
theorem dX11_look_119 : decode cX11_look 119 = .ok (.getfield 39, 3) := by decide +kernel
theorem dX11_look_122 : decode cX11_look 122 = .ok (.iload_n 1, 1) := by decide +kernel
theorem dX11_look_123 : decode cX11_look 123 = .ok (.iaload, 1) := by decide +kernel
theorem dX11_look_124 : decode cX11_look 124 = .ok (.ireturn, 1) := by decide +kernel
theorem dX11_look_125 : decode cX11_look 125 = .ok (.iload_n 1, 1) := by decide +kernel
theorem dX11_look_126 : decode cX11_look 126 = .ok (.istore_n 3, 1) := by decide +kernel
theorem dX11_look_127 : decode cX11_look 127 = .ok (.aload_n 0, 1) := by decide +kernel
theorem dX11_look_128 : decode cX11_look 128 = .ok (.getfield 39, 3) := by decide +kernel
theorem dX11_look_131 : decode cX11_look 131 = .ok (.iload_n 3, 1) := by decide +kernel
theorem dX11_look_132 : decode cX11_look 132 = .ok (.iaload, 1) := by decide +kernel
theorem dX11_look_133 : decode cX11_look 133 = .ok (.iconst (-1), 1) := by decide +kernel
theorem dX11_look_134 : decode cX11_look 134 = .ok (.if_icmp .eq 13, 3) := by decide +kernel
theorem dX11_look_137 : decode cX11_look 137 = .ok (.aload_n 0, 1) := by decide +kernel
theorem dX11_look_138 : decode cX11_look 138 = .ok (.getfield 39, 3) := by decide +kernel
theorem dX11_look_141 : decode cX11_look 141 = .ok (.iload_n 3, 1) := by decide +kernel
theorem dX11_look_142 : decode cX11_look 142 = .ok (.iaload, 1) := by decide +kernel
theorem dX11_look_143 : decode cX11_look 143 = .ok (.istore_n 3, 1) := by decide +kernel
theorem dX11_look_144 : decode cX11_look 144 = .ok (.goto (-17), 3) := by decide +kernel
theorem dX11_look_147 : decode cX11_look 147 = .ok (.iload_n 3, 1) := by decide +kernel
theorem dX11_look_148 : decode cX11_look 148 = .ok (.ireturn, 1) := by decide +kernel
theorem dX11_look_149 : decode cX11_look 149 = .ok (.iconst (-1), 1) := by decide +kernel
theorem dX11_look_150 : decode cX11_look 150 = .ok (.ireturn, 1) := by decide +kernel
theorem dX11_count_0 : decode cX11_count 0 = .ok (.iconst 0, 1) := by decide +kernel
theorem dX11_count_1 : decode cX11_count 1 = .ok (.istore_n 2, 1) := by decide +kernel
theorem dX11_count_2 : decode cX11_count 2 = .ok (.iload_n 1, 1) := by decide +kernel
theorem dX11_count_3 : decode cX11_count 3 = .ok (.tableswitch 149 0 7 #[45, 50, 55, 60, 65, 70, 75, 110], 45) := by decide +kernel
theorem dX11_count_48 : decode cX11_count 48 = .ok (.aload_n 0, 1) := by decide +kernel
theorem dX11_count_49 : decode cX11_count 49 = .ok (.getfield 114, 3) := by decide +kernel
theorem dX11_count_52 : decode cX11_count 52 = .ok (.ireturn, 1) := by decide +kernel
theorem dX11_count_53 : decode cX11_count 53 = .ok (.aload_n 0, 1) := by decide +kernel
theorem dX11_count_54 : decode cX11_count 54 = .ok (.getfield 117, 3) := by decide +kernel
theorem dX11_count_57 : decode cX11_count 57 = .ok (.ireturn, 1) := by decide +kernel
theorem dX11_count_58 : decode cX11_count 58 = .ok (.aload_n 0, 1) := by decide +kernel
theorem dX11_count_59 : decode cX11_count 59 = .ok (.getfield 130, 3) := by decide +kernel
theorem dX11_count_62 : decode cX11_count 62 = .ok (.ireturn, 1) := by decide +kernel
theorem dX11_count_63 : decode cX11_count 63 = .ok (.aload_n 0, 1) := by decide +kernel
theorem dX11_count_64 : decode cX11_count 64 = .ok (.getfield 133, 3) := by decide +kernel
theorem dX11_count_67 : decode cX11_count 67 = .ok (.ireturn, 1) := by decide +kernel
theorem dX11_count_68 : decode cX11_count 68 = .ok (.aload_n 0, 1) := by decide +kernel
theorem dX11_count_69 : decode cX11_count 69 = .ok (.getfield 136, 3) := by decide +kernel
theorem dX11_count_72 : decode cX11_count 72 = .ok (.ireturn, 1) := by decide +kernel
theorem dX11_count_73 : decode cX11_count 73 = .ok (.aload_n 0, 1) := by decide +kernel
theorem dX11_count_74 : decode cX11_count 74 = .ok (.getfield 102, 3) := by decide +kernel
theorem dX11_count_77 : decode cX11_count 77 = .ok (.ireturn, 1) := by decide +kernel
theorem dX11_count_78 : decode cX11_count 78 = .ok (.iconst 0, 1) := by decide +kernel
theorem dX11_count_79 : decode cX11_count 79 = .ok (.istore_n 3, 1) := by decide +kernel
theorem dX11_count_80 : decode cX11_count 80 = .ok (.iload_n 3, 1) := by decide +kernel
theorem dX11_count_81 : decode cX11_count 81 = .ok (.aload_n 0, 1) := by decide +kernel
theorem dX11_count_82 : decode cX11_count 82 = .ok (.getfield 117, 3) := by decide +kernel
theorem dX11_count_85 : decode cX11_count 85 = .ok (.if_icmp .ge 26, 3) := by decide +kernel
theorem dX11_count_88 : decode cX11_count 88 = .ok (.iload_n 2, 1) := by decide +kernel
theorem dX11_count_89 : decode cX11_count 89 = .ok (.aload_n 0, 1) := by decide +kernel
theorem dX11_count_90 : decode cX11_count 90 = .ok (.iload_n 3, 1) := by decide +kernel
theorem dX11_count_91 : decode cX11_count 91 = .ok (.invokevirtual 156, 3) := by decide +kernel
theorem dX11_count_94 : decode cX11_count 94 = .ok (.iconst (-1), 1) := by decide +kernel
theorem dX11_count_95 : decode cX11_count 95 = .ok (.if_icmp .ne 7, 3) := by decide +kernel
theorem dX11_count_98 : decode cX11_count 98 = .ok (.iconst 1, 1) := by decide +kernel
theorem dX11_count_99 : decode cX11_count 99 = .ok (.goto 4, 3) := by decide +kernel
theorem dX11_count_102 : decode cX11_count 102 = .ok (.iconst 0, 1) := by decide +kernel
theorem dX11_count_103 : decode cX11_count 103 = .ok (.iadd, 1) := by decide +kernel
theorem dX11_count_104 : decode cX11_count 104 = .ok (.istore_n 2, 1) := by decide +kernel
theorem dX11_count_105 : decode cX11_count 105 = .ok (.iinc 3 1, 3) := by decide +kernel
theorem dX11_count_108 : decode cX11_count 108 = .ok (.goto (-28), 3) := by decide +kernel
theorem dX11_count_111 : decode cX11_count 111 = .ok (.iload_n 2, 1) := by decide +kernel
theorem dX11_count_112 : decode cX11_count 112 = .ok (.ireturn, 1) := by decide +kernel
theorem dX11_count_113 : decode cX11_count 113 = .ok (.iconst 0, 1) := by decide +kernel
theorem dX11_count_114 : decode cX11_count 114 = .ok (.istore_n 3, 1) := by decide +kernel
theorem dX11_count_115 : decode cX11_count 115 = .ok (.iload_n 3, 1) := by decide +kernel
theorem dX11_count_116 : decode cX11_count 116 = .ok (.aload_n 0, 1) := by decide +kernel
theorem dX11_count_117 : decode cX11_count 117 = .ok (.getfield 117, 3) := by decide +kernel
theorem dX11_count_120 : decode cX11_count 120 = .ok (.if_icmp .ge 30, 3) := by decide +kernel
theorem dX11_count_123 : decode cX11_count 123 = .ok (.iload_n 2, 1) := by decide +kernel
theorem dX11_count_124 : decode cX11_count 124 = .ok (.aload_n 0, 1) := by decide +kernel
theorem dX11_count_125 : decode cX11_count 125 = .ok (.iload_n 3, 1) := by decide +kernel
theorem dX11_count_126 : decode cX11_count 126 = .ok (.iconst 0, 1) := by decide +kernel
theorem dX11_count_127 : decode cX11_count 127 = .ok (.invokevirtual 197, 3) := by decide +kernel
theorem dX11_count_130 : decode cX11_count 130 = .ok (.aload_n 0, 1) := by decide +kernel
theorem dX11_count_131 : decode cX11_count 131 = .ok (.getfield 136, 3) := by decide +kernel
theorem dX11_count_134 : decode cX11_count 134 = .ok (.if_icmp .ge 7, 3) := by decide +kernel
theorem dX11_count_137 : decode cX11_count 137 = .ok (.iconst 1, 1) := by decide +kernel
theorem dX11_count_138 : decode cX11_count 138 = .ok (.goto 4, 3) := by decide +kernel
theorem dX11_count_141 : decode cX11_count 141 = .ok (.iconst 0, 1) := by decide +kernel
theorem dX11_count_142 : decode cX11_count 142 = .ok (.iadd, 1) := by decide +kernel
theorem dX11_count_143 : decode cX11_count 143 = .ok (.istore_n 2, 1) := by decide +kernel
theorem dX11_count_144 : decode cX11_count 144 = .ok (.iinc 3 1, 3) := by decide +kernel
theorem dX11_count_147 : decode cX11_count 147 = .ok (.goto (-32), 3) := by decide +kernel
theorem dX11_count_150 : decode cX11_count 150 = .ok (.iload_n 2, 1) := by decide +kernel
theorem dX11_count_151 : decode cX11_count 151 = .ok (.ireturn, 1) := by decide +kernel
theorem dX11_count_152 : decode cX11_count 152 = .ok (.iconst (-1), 1) := by decide +kernel
theorem dX11_count_153 : decode cX11_count 153 = .ok (.ireturn, 1) := by decide +kernel
theorem dJ9_max_7cf53_0 : decode cJ9_max_7cf53 0 = .ok (.iload_n 0, 1) := by decide +kernel
theorem dJ9_max_7cf53_1 : decode cJ9_max_7cf53 1 = .ok (.iload_n 1, 1) := by decide +kernel
theorem dJ9_max_7cf53_2 : decode cJ9_max_7cf53 2 = .ok (.if_icmp .lt 7, 3) := by decide +kernel
theorem dJ9_max_7cf53_5 : decode cJ9_max_7cf53 5 = .ok (.iload_n 0, 1) := by decide +kernel
theorem dJ9_max_7cf53_6 : decode cJ9_max_7cf53 6 = .ok (.goto 4, 3) := by decide +kernel
theorem dJ9_max_7cf53_9 : decode cJ9_max_7cf53 9 = .ok (.iload_n 1, 1) := by decide +kernel
theorem dJ9_max_7cf53_10 : decode cJ9_max_7cf53 10 = .ok (.ireturn, 1) := by decide +kernel
theorem dJ9_min_7cf53_0 : decode cJ9_min_7cf53 0 = .ok (.iload_n 0, 1) := by decide +kernel
theorem dJ9_min_7cf53_1 : decode cJ9_min_7cf53 1 = .ok (.iload_n 1, 1) := by decide +kernel
theorem dJ9_min_7cf53_2 : decode cJ9_min_7cf53 2 = .ok (.if_icmp .gt 7, 3) := by decide +kernel
theorem dJ9_min_7cf53_5 : decode cJ9_min_7cf53 5 = .ok (.iload_n 0, 1) := by decide +kernel
theorem dJ9_min_7cf53_6 : decode cJ9_min_7cf53 6 = .ok (.goto 4, 3) := by decide +kernel
theorem dJ9_min_7cf53_9 : decode cJ9_min_7cf53 9 = .ok (.iload_n 1, 1) := by decide +kernel
theorem dJ9_min_7cf53_10 : decode cJ9_min_7cf53 10 = .ok (.ireturn, 1) := by decide +kernel
theorem dJ9_min_f86c9_0 : decode cJ9_min_f86c9 0 = .ok (.lload_n 0, 1) := by decide +kernel
theorem dJ9_min_f86c9_1 : decode cJ9_min_f86c9 1 = .ok (.lload_n 2, 1) := by decide +kernel
theorem dJ9_min_f86c9_2 : decode cJ9_min_f86c9 2 = .ok (.lcmp, 1) := by decide +kernel
theorem dJ9_min_f86c9_3 : decode cJ9_min_f86c9 3 = .ok (.ifCond .gt 7, 3) := by decide +kernel
theorem dJ9_min_f86c9_6 : decode cJ9_min_f86c9 6 = .ok (.lload_n 0, 1) := by decide +kernel
theorem dJ9_min_f86c9_7 : decode cJ9_min_f86c9 7 = .ok (.goto 4, 3) := by decide +kernel
theorem dJ9_min_f86c9_10 : decode cJ9_min_f86c9 10 = .ok (.lload_n 2, 1) := by decide +kernel
theorem dJ9_min_f86c9_11 : decode cJ9_min_f86c9 11 = .ok (.lreturn, 1) := by decide +kernel
theorem dJ7_fill_d0a16_0 : decode cJ7_fill_d0a16 0 = .ok (.iconst 0, 1) := by decide +kernel
theorem dJ7_fill_d0a16_1 : decode cJ7_fill_d0a16 1 = .ok (.istore_n 3, 1) := by decide +kernel
theorem dJ7_fill_d0a16_2 : decode cJ7_fill_d0a16 2 = .ok (.aload_n 0, 1) := by decide +kernel
theorem dJ7_fill_d0a16_3 : decode cJ7_fill_d0a16 3 = .ok (.arraylength, 1) := by decide +kernel
theorem dJ7_fill_d0a16_4 : decode cJ7_fill_d0a16 4 = .ok (.istore 4, 2) := by decide +kernel
theorem dJ7_fill_d0a16_6 : decode cJ7_fill_d0a16 6 = .ok (.iload_n 3, 1) := by decide +kernel
theorem dJ7_fill_d0a16_7 : decode cJ7_fill_d0a16 7 = .ok (.iload 4, 2) := by decide +kernel
theorem dJ7_fill_d0a16_9 : decode cJ7_fill_d0a16 9 = .ok (.if_icmp .ge 13, 3) := by decide +kernel
theorem dJ7_fill_d0a16_12 : decode cJ7_fill_d0a16 12 = .ok (.aload_n 0, 1) := by decide +kernel
theorem dJ7_fill_d0a16_13 : decode cJ7_fill_d0a16 13 = .ok (.iload_n 3, 1) := by decide +kernel
theorem dJ7_fill_d0a16_14 : decode cJ7_fill_d0a16 14 = .ok (.lload_n 1, 1) := by decide +kernel
end
section
theorem dJ7_fill_d0a16_15 : decode cJ7_fill_d0a16 15 = .ok (.lastore, 1) := by decide +kernel
theorem dJ7_fill_d0a16_16 : decode cJ7_fill_d0a16 16 = .ok (.iinc 3 1, 3) := by decide +kernel
theorem dJ7_fill_d0a16_19 : decode cJ7_fill_d0a16 19 = .ok (.goto (-13), 3) := by decide +kernel
theorem dJ7_fill_d0a16_22 : decode cJ7_fill_d0a16 22 = .ok (.return_, 1) := by decide +kernel
theorem dJ7_fill_53178_0 : decode cJ7_fill_53178 0 = .ok (.iconst 0, 1) := by decide +kernel
theorem dJ7_fill_53178_1 : decode cJ7_fill_53178 1 = .ok (.istore_n 2, 1) := by decide +kernel
theorem dJ7_fill_53178_2 : decode cJ7_fill_53178 2 = .ok (.aload_n 0, 1) := by decide +kernel
theorem dJ7_fill_53178_3 : decode cJ7_fill_53178 3 = .ok (.arraylength, 1) := by decide +kernel
theorem dJ7_fill_53178_4 : decode cJ7_fill_53178 4 = .ok (.istore_n 3, 1) := by decide +kernel
theorem dJ7_fill_53178_5 : decode cJ7_fill_53178 5 = .ok (.iload_n 2, 1) := by decide +kernel
theorem dJ7_fill_53178_6 : decode cJ7_fill_53178 6 = .ok (.iload_n 3, 1) := by decide +kernel
theorem dJ7_fill_53178_7 : decode cJ7_fill_53178 7 = .ok (.if_icmp .ge 13, 3) := by decide +kernel
theorem dJ7_fill_53178_10 : decode cJ7_fill_53178 10 = .ok (.aload_n 0, 1) := by decide +kernel
theorem dJ7_fill_53178_11 : decode cJ7_fill_53178 11 = .ok (.iload_n 2, 1) := by decide +kernel
theorem dJ7_fill_53178_12 : decode cJ7_fill_53178 12 = .ok (.iload_n 1, 1) := by decide +kernel
theorem dJ7_fill_53178_13 : decode cJ7_fill_53178 13 = .ok (.iastore, 1) := by decide +kernel
theorem dJ7_fill_53178_14 : decode cJ7_fill_53178 14 = .ok (.iinc 2 1, 3) := by decide +kernel
theorem dJ7_fill_53178_17 : decode cJ7_fill_53178 17 = .ok (.goto (-12), 3) := by decide +kernel
theorem dJ7_fill_53178_20 : decode cJ7_fill_53178 20 = .ok (.return_, 1) := by decide +kernel
theorem dJ7_copyOf_59c91_0 : decode cJ7_copyOf_59c91 0 = .ok (.iload_n 1, 1) := by decide +kernel
theorem dJ7_copyOf_59c91_1 : decode cJ7_copyOf_59c91 1 = .ok (.aload_n 0, 1) := by decide +kernel
theorem dJ7_copyOf_59c91_2 : decode cJ7_copyOf_59c91 2 = .ok (.arraylength, 1) := by decide +kernel
theorem dJ7_copyOf_59c91_3 : decode cJ7_copyOf_59c91 3 = .ok (.if_icmp .ne 11, 3) := by decide +kernel
theorem dJ7_copyOf_59c91_6 : decode cJ7_copyOf_59c91 6 = .ok (.aload_n 0, 1) := by decide +kernel
theorem dJ7_copyOf_59c91_7 : decode cJ7_copyOf_59c91 7 = .ok (.invokevirtual 316, 3) := by decide +kernel
theorem dJ7_copyOf_59c91_10 : decode cJ7_copyOf_59c91 10 = .ok (.checkcast 317, 3) := by decide +kernel
theorem dJ7_copyOf_59c91_13 : decode cJ7_copyOf_59c91 13 = .ok (.areturn, 1) := by decide +kernel
theorem dJ7_copyOf_59c91_14 : decode cJ7_copyOf_59c91 14 = .ok (.iload_n 1, 1) := by decide +kernel
theorem dJ7_copyOf_59c91_15 : decode cJ7_copyOf_59c91 15 = .ok (.newarray .int, 2) := by decide +kernel
theorem dJ7_copyOf_59c91_17 : decode cJ7_copyOf_59c91 17 = .ok (.astore_n 2, 1) := by decide +kernel
theorem dJ7_copyOf_59c91_18 : decode cJ7_copyOf_59c91 18 = .ok (.aload_n 0, 1) := by decide +kernel
theorem dJ7_copyOf_59c91_19 : decode cJ7_copyOf_59c91 19 = .ok (.iconst 0, 1) := by decide +kernel
theorem dJ7_copyOf_59c91_20 : decode cJ7_copyOf_59c91 20 = .ok (.aload_n 2, 1) := by decide +kernel
theorem dJ7_copyOf_59c91_21 : decode cJ7_copyOf_59c91 21 = .ok (.iconst 0, 1) := by decide +kernel
theorem dJ7_copyOf_59c91_22 : decode cJ7_copyOf_59c91 22 = .ok (.aload_n 0, 1) := by decide +kernel
theorem dJ7_copyOf_59c91_23 : decode cJ7_copyOf_59c91 23 = .ok (.arraylength, 1) := by decide +kernel
theorem dJ7_copyOf_59c91_24 : decode cJ7_copyOf_59c91 24 = .ok (.iload_n 1, 1) := by decide +kernel
theorem dJ7_copyOf_59c91_25 : decode cJ7_copyOf_59c91 25 = .ok (.invokestatic 304, 3) := by decide +kernel
theorem dJ7_copyOf_59c91_28 : decode cJ7_copyOf_59c91 28 = .ok (.invokestatic 150, 3) := by decide +kernel
theorem dJ7_copyOf_59c91_31 : decode cJ7_copyOf_59c91 31 = .ok (.aload_n 2, 1) := by decide +kernel
theorem dJ7_copyOf_59c91_32 : decode cJ7_copyOf_59c91 32 = .ok (.areturn, 1) := by decide +kernel
theorem dL_law_0 : decode cL_law 0 = .ok (.new 7, 3) := by decide +kernel
theorem dL_law_3 : decode cL_law 3 = .ok (.dup, 1) := by decide +kernel
theorem dL_law_4 : decode cL_law 4 = .ok (.invokespecial 9, 3) := by decide +kernel
theorem dL_law_7 : decode cL_law 7 = .ok (.astore_n 1, 1) := by decide +kernel
theorem dL_law_8 : decode cL_law 8 = .ok (.new 10, 3) := by decide +kernel
theorem dL_law_11 : decode cL_law 11 = .ok (.dup, 1) := by decide +kernel
theorem dL_law_12 : decode cL_law 12 = .ok (.invokespecial 12, 3) := by decide +kernel
theorem dL_law_15 : decode cL_law 15 = .ok (.astore_n 2, 1) := by decide +kernel
theorem dL_law_16 : decode cL_law 16 = .ok (.iconst 0, 1) := by decide +kernel
theorem dL_law_17 : decode cL_law 17 = .ok (.istore_n 3, 1) := by decide +kernel
theorem dL_law_18 : decode cL_law 18 = .ok (.iload_n 3, 1) := by decide +kernel
theorem dL_law_19 : decode cL_law 19 = .ok (.aload_n 0, 1) := by decide +kernel
theorem dL_law_20 : decode cL_law 20 = .ok (.arraylength, 1) := by decide +kernel
theorem dL_law_21 : decode cL_law 21 = .ok (.bipush 6, 2) := by decide +kernel
theorem dL_law_23 : decode cL_law 23 = .ok (.isub, 1) := by decide +kernel
theorem dL_law_24 : decode cL_law 24 = .ok (.if_icmp .gt 842, 3) := by decide +kernel
theorem dL_law_27 : decode cL_law 27 = .ok (.aload_n 0, 1) := by decide +kernel
theorem dL_law_28 : decode cL_law 28 = .ok (.iload_n 3, 1) := by decide +kernel
theorem dL_law_29 : decode cL_law 29 = .ok (.iaload, 1) := by decide +kernel
theorem dL_law_30 : decode cL_law 30 = .ok (.bipush 31, 2) := by decide +kernel
theorem dL_law_32 : decode cL_law 32 = .ok (.iand, 1) := by decide +kernel
theorem dL_law_33 : decode cL_law 33 = .ok (.tableswitch 827 0 19 #[95, 158, 227, 250, 283, 326, 359, 422, 445, 478, 501, 544, 577, 610, 643, 666, 715, 738, 771, 804], 95) := by decide +kernel
theorem dL_law_128 : decode cL_law 128 = .ok (.aload_n 1, 1) := by decide +kernel
theorem dL_law_129 : decode cL_law 129 = .ok (.aload_n 0, 1) := by decide +kernel
theorem dL_law_130 : decode cL_law 130 = .ok (.iload_n 3, 1) := by decide +kernel
theorem dL_law_131 : decode cL_law 131 = .ok (.iconst 1, 1) := by decide +kernel
theorem dL_law_132 : decode cL_law 132 = .ok (.iadd, 1) := by decide +kernel
theorem dL_law_133 : decode cL_law 133 = .ok (.iaload, 1) := by decide +kernel
theorem dL_law_134 : decode cL_law 134 = .ok (.aload_n 0, 1) := by decide +kernel
theorem dL_law_135 : decode cL_law 135 = .ok (.iload_n 3, 1) := by decide +kernel
theorem dL_law_136 : decode cL_law 136 = .ok (.iconst 2, 1) := by decide +kernel
theorem dL_law_137 : decode cL_law 137 = .ok (.iadd, 1) := by decide +kernel
theorem dL_law_138 : decode cL_law 138 = .ok (.iaload, 1) := by decide +kernel
theorem dL_law_139 : decode cL_law 139 = .ok (.aload_n 0, 1) := by decide +kernel
theorem dL_law_140 : decode cL_law 140 = .ok (.iload_n 3, 1) := by decide +kernel
theorem dL_law_141 : decode cL_law 141 = .ok (.iconst 3, 1) := by decide +kernel
theorem dL_law_142 : decode cL_law 142 = .ok (.iadd, 1) := by decide +kernel
theorem dL_law_143 : decode cL_law 143 = .ok (.iaload, 1) := by decide +kernel
theorem dL_law_144 : decode cL_law 144 = .ok (.aload_n 0, 1) := by decide +kernel
theorem dL_law_145 : decode cL_law 145 = .ok (.iload_n 3, 1) := by decide +kernel
theorem dL_law_146 : decode cL_law 146 = .ok (.iconst 4, 1) := by decide +kernel
theorem dL_law_147 : decode cL_law 147 = .ok (.iadd, 1) := by decide +kernel
theorem dL_law_148 : decode cL_law 148 = .ok (.iaload, 1) := by decide +kernel
theorem dL_law_149 : decode cL_law 149 = .ok (.aload_n 0, 1) := by decide +kernel
theorem dL_law_150 : decode cL_law 150 = .ok (.iload_n 3, 1) := by decide +kernel
theorem dL_law_151 : decode cL_law 151 = .ok (.iconst 5, 1) := by decide +kernel
theorem dL_law_152 : decode cL_law 152 = .ok (.iadd, 1) := by decide +kernel
theorem dL_law_153 : decode cL_law 153 = .ok (.iaload, 1) := by decide +kernel
theorem dL_law_154 : decode cL_law 154 = .ok (.invokevirtual 13, 3) := by decide +kernel
theorem dL_law_157 : decode cL_law 157 = .ok (.aload_n 2, 1) := by decide +kernel
theorem dL_law_158 : decode cL_law 158 = .ok (.aload_n 0, 1) := by decide +kernel
theorem dL_law_159 : decode cL_law 159 = .ok (.iload_n 3, 1) := by decide +kernel
theorem dL_law_160 : decode cL_law 160 = .ok (.iconst 1, 1) := by decide +kernel
theorem dL_law_161 : decode cL_law 161 = .ok (.iadd, 1) := by decide +kernel
theorem dL_law_162 : decode cL_law 162 = .ok (.iaload, 1) := by decide +kernel
theorem dL_law_163 : decode cL_law 163 = .ok (.aload_n 0, 1) := by decide +kernel
theorem dL_law_164 : decode cL_law 164 = .ok (.iload_n 3, 1) := by decide +kernel
theorem dL_law_165 : decode cL_law 165 = .ok (.iconst 2, 1) := by decide +kernel
theorem dL_law_166 : decode cL_law 166 = .ok (.iadd, 1) := by decide +kernel
theorem dL_law_167 : decode cL_law 167 = .ok (.iaload, 1) := by decide +kernel
theorem dL_law_168 : decode cL_law 168 = .ok (.aload_n 0, 1) := by decide +kernel
theorem dL_law_169 : decode cL_law 169 = .ok (.iload_n 3, 1) := by decide +kernel
theorem dL_law_170 : decode cL_law 170 = .ok (.iconst 3, 1) := by decide +kernel
theorem dL_law_171 : decode cL_law 171 = .ok (.iadd, 1) := by decide +kernel
theorem dL_law_172 : decode cL_law 172 = .ok (.iaload, 1) := by decide +kernel
theorem dL_law_173 : decode cL_law 173 = .ok (.aload_n 0, 1) := by decide +kernel
theorem dL_law_174 : decode cL_law 174 = .ok (.iload_n 3, 1) := by decide +kernel
theorem dL_law_175 : decode cL_law 175 = .ok (.iconst 4, 1) := by decide +kernel
theorem dL_law_176 : decode cL_law 176 = .ok (.iadd, 1) := by decide +kernel
theorem dL_law_177 : decode cL_law 177 = .ok (.iaload, 1) := by decide +kernel
theorem dL_law_178 : decode cL_law 178 = .ok (.aload_n 0, 1) := by decide +kernel
theorem dL_law_179 : decode cL_law 179 = .ok (.iload_n 3, 1) := by decide +kernel
theorem dL_law_180 : decode cL_law 180 = .ok (.iconst 5, 1) := by decide +kernel
theorem dL_law_181 : decode cL_law 181 = .ok (.iadd, 1) := by decide +kernel
theorem dL_law_182 : decode cL_law 182 = .ok (.iaload, 1) := by decide +kernel
theorem dL_law_183 : decode cL_law 183 = .ok (.invokevirtual 17, 3) := by decide +kernel
theorem dL_law_186 : decode cL_law 186 = .ok (.if_icmp .eq 674, 3) := by decide +kernel
theorem dL_law_189 : decode cL_law 189 = .ok (.iconst 0, 1) := by decide +kernel
theorem dL_law_190 : decode cL_law 190 = .ok (.ireturn, 1) := by decide +kernel
theorem dL_law_191 : decode cL_law 191 = .ok (.aload_n 1, 1) := by decide +kernel
theorem dL_law_192 : decode cL_law 192 = .ok (.aload_n 0, 1) := by decide +kernel
theorem dL_law_193 : decode cL_law 193 = .ok (.iload_n 3, 1) := by decide +kernel
theorem dL_law_194 : decode cL_law 194 = .ok (.iconst 1, 1) := by decide +kernel
theorem dL_law_195 : decode cL_law 195 = .ok (.iadd, 1) := by decide +kernel
theorem dL_law_196 : decode cL_law 196 = .ok (.iaload, 1) := by decide +kernel
theorem dL_law_197 : decode cL_law 197 = .ok (.aload_n 0, 1) := by decide +kernel
theorem dL_law_198 : decode cL_law 198 = .ok (.iload_n 3, 1) := by decide +kernel
theorem dL_law_199 : decode cL_law 199 = .ok (.iconst 2, 1) := by decide +kernel
theorem dL_law_200 : decode cL_law 200 = .ok (.iadd, 1) := by decide +kernel
theorem dL_law_201 : decode cL_law 201 = .ok (.iaload, 1) := by decide +kernel
theorem dL_law_202 : decode cL_law 202 = .ok (.aload_n 0, 1) := by decide +kernel
theorem dL_law_203 : decode cL_law 203 = .ok (.iload_n 3, 1) := by decide +kernel
theorem dL_law_204 : decode cL_law 204 = .ok (.iconst 3, 1) := by decide +kernel
theorem dL_law_205 : decode cL_law 205 = .ok (.iadd, 1) := by decide +kernel
theorem dL_law_206 : decode cL_law 206 = .ok (.iaload, 1) := by decide +kernel
theorem dL_law_207 : decode cL_law 207 = .ok (.ifCond .eq 7, 3) := by decide +kernel
theorem dL_law_210 : decode cL_law 210 = .ok (.iconst 1, 1) := by decide +kernel
theorem dL_law_211 : decode cL_law 211 = .ok (.goto 4, 3) := by decide +kernel
theorem dL_law_214 : decode cL_law 214 = .ok (.iconst 0, 1) := by decide +kernel
theorem dL_law_215 : decode cL_law 215 = .ok (.aload_n 0, 1) := by decide +kernel
theorem dL_law_216 : decode cL_law 216 = .ok (.iload_n 3, 1) := by decide +kernel
theorem dL_law_217 : decode cL_law 217 = .ok (.iconst 4, 1) := by decide +kernel
theorem dL_law_218 : decode cL_law 218 = .ok (.iadd, 1) := by decide +kernel
theorem dL_law_219 : decode cL_law 219 = .ok (.iaload, 1) := by decide +kernel
theorem dL_law_220 : decode cL_law 220 = .ok (.invokevirtual 18, 3) := by decide +kernel
theorem dL_law_223 : decode cL_law 223 = .ok (.aload_n 2, 1) := by decide +kernel
theorem dL_law_224 : decode cL_law 224 = .ok (.aload_n 0, 1) := by decide +kernel
theorem dL_law_225 : decode cL_law 225 = .ok (.iload_n 3, 1) := by decide +kernel
theorem dL_law_226 : decode cL_law 226 = .ok (.iconst 1, 1) := by decide +kernel
theorem dL_law_227 : decode cL_law 227 = .ok (.iadd, 1) := by decide +kernel
theorem dL_law_228 : decode cL_law 228 = .ok (.iaload, 1) := by decide +kernel
theorem dL_law_229 : decode cL_law 229 = .ok (.aload_n 0, 1) := by decide +kernel
theorem dL_law_230 : decode cL_law 230 = .ok (.iload_n 3, 1) := by decide +kernel
theorem dL_law_231 : decode cL_law 231 = .ok (.iconst 2, 1) := by decide +kernel
theorem dL_law_232 : decode cL_law 232 = .ok (.iadd, 1) := by decide +kernel
theorem dL_law_233 : decode cL_law 233 = .ok (.iaload, 1) := by decide +kernel
theorem dL_law_234 : decode cL_law 234 = .ok (.aload_n 0, 1) := by decide +kernel
theorem dL_law_235 : decode cL_law 235 = .ok (.iload_n 3, 1) := by decide +kernel
theorem dL_law_236 : decode cL_law 236 = .ok (.iconst 3, 1) := by decide +kernel
theorem dL_law_237 : decode cL_law 237 = .ok (.iadd, 1) := by decide +kernel
theorem dL_law_238 : decode cL_law 238 = .ok (.iaload, 1) := by decide +kernel
theorem dL_law_239 : decode cL_law 239 = .ok (.ifCond .eq 7, 3) := by decide +kernel
theorem dL_law_242 : decode cL_law 242 = .ok (.iconst 1, 1) := by decide +kernel
theorem dL_law_243 : decode cL_law 243 = .ok (.goto 4, 3) := by decide +kernel
theorem dL_law_246 : decode cL_law 246 = .ok (.iconst 0, 1) := by decide +kernel
theorem dL_law_247 : decode cL_law 247 = .ok (.aload_n 0, 1) := by decide +kernel
theorem dL_law_248 : decode cL_law 248 = .ok (.iload_n 3, 1) := by decide +kernel
theorem dL_law_249 : decode cL_law 249 = .ok (.iconst 4, 1) := by decide +kernel
theorem dL_law_250 : decode cL_law 250 = .ok (.iadd, 1) := by decide +kernel
theorem dL_law_251 : decode cL_law 251 = .ok (.iaload, 1) := by decide +kernel
theorem dL_law_252 : decode cL_law 252 = .ok (.invokevirtual 22, 3) := by decide +kernel
theorem dL_law_255 : decode cL_law 255 = .ok (.if_icmp .eq 605, 3) := by decide +kernel
theorem dL_law_258 : decode cL_law 258 = .ok (.iconst 0, 1) := by decide +kernel
theorem dL_law_259 : decode cL_law 259 = .ok (.ireturn, 1) := by decide +kernel
theorem dL_law_260 : decode cL_law 260 = .ok (.aload_n 1, 1) := by decide +kernel
theorem dL_law_261 : decode cL_law 261 = .ok (.aload_n 0, 1) := by decide +kernel
theorem dL_law_262 : decode cL_law 262 = .ok (.iload_n 3, 1) := by decide +kernel
theorem dL_law_263 : decode cL_law 263 = .ok (.iconst 1, 1) := by decide +kernel
theorem dL_law_264 : decode cL_law 264 = .ok (.iadd, 1) := by decide +kernel
theorem dL_law_265 : decode cL_law 265 = .ok (.iaload, 1) := by decide +kernel
theorem dL_law_266 : decode cL_law 266 = .ok (.invokevirtual 23, 3) := by decide +kernel
theorem dL_law_269 : decode cL_law 269 = .ok (.aload_n 2, 1) := by decide +kernel
theorem dL_law_270 : decode cL_law 270 = .ok (.aload_n 0, 1) := by decide +kernel
theorem dL_law_271 : decode cL_law 271 = .ok (.iload_n 3, 1) := by decide +kernel
theorem dL_law_272 : decode cL_law 272 = .ok (.iconst 1, 1) := by decide +kernel
theorem dL_law_273 : decode cL_law 273 = .ok (.iadd, 1) := by decide +kernel
theorem dL_law_274 : decode cL_law 274 = .ok (.iaload, 1) := by decide +kernel
theorem dL_law_275 : decode cL_law 275 = .ok (.invokevirtual 27, 3) := by decide +kernel
theorem dL_law_278 : decode cL_law 278 = .ok (.if_icmp .eq 582, 3) := by decide +kernel
theorem dL_law_281 : decode cL_law 281 = .ok (.iconst 0, 1) := by decide +kernel
theorem dL_law_282 : decode cL_law 282 = .ok (.ireturn, 1) := by decide +kernel
theorem dL_law_283 : decode cL_law 283 = .ok (.aload_n 1, 1) := by decide +kernel
theorem dL_law_284 : decode cL_law 284 = .ok (.aload_n 0, 1) := by decide +kernel
theorem dL_law_285 : decode cL_law 285 = .ok (.iload_n 3, 1) := by decide +kernel
theorem dL_law_286 : decode cL_law 286 = .ok (.iconst 1, 1) := by decide +kernel
theorem dL_law_287 : decode cL_law 287 = .ok (.iadd, 1) := by decide +kernel
theorem dL_law_288 : decode cL_law 288 = .ok (.iaload, 1) := by decide +kernel
theorem dL_law_289 : decode cL_law 289 = .ok (.aload_n 0, 1) := by decide +kernel
theorem dL_law_290 : decode cL_law 290 = .ok (.iload_n 3, 1) := by decide +kernel
theorem dL_law_291 : decode cL_law 291 = .ok (.iconst 2, 1) := by decide +kernel
theorem dL_law_292 : decode cL_law 292 = .ok (.iadd, 1) := by decide +kernel
theorem dL_law_293 : decode cL_law 293 = .ok (.iaload, 1) := by decide +kernel
theorem dL_law_294 : decode cL_law 294 = .ok (.invokevirtual 28, 3) := by decide +kernel
theorem dL_law_297 : decode cL_law 297 = .ok (.aload_n 2, 1) := by decide +kernel
theorem dL_law_298 : decode cL_law 298 = .ok (.aload_n 0, 1) := by decide +kernel
theorem dL_law_299 : decode cL_law 299 = .ok (.iload_n 3, 1) := by decide +kernel
theorem dL_law_300 : decode cL_law 300 = .ok (.iconst 1, 1) := by decide +kernel
theorem dL_law_301 : decode cL_law 301 = .ok (.iadd, 1) := by decide +kernel
theorem dL_law_302 : decode cL_law 302 = .ok (.iaload, 1) := by decide +kernel
theorem dL_law_303 : decode cL_law 303 = .ok (.aload_n 0, 1) := by decide +kernel
theorem dL_law_304 : decode cL_law 304 = .ok (.iload_n 3, 1) := by decide +kernel
theorem dL_law_305 : decode cL_law 305 = .ok (.iconst 2, 1) := by decide +kernel
theorem dL_law_306 : decode cL_law 306 = .ok (.iadd, 1) := by decide +kernel
theorem dL_law_307 : decode cL_law 307 = .ok (.iaload, 1) := by decide +kernel
theorem dL_law_308 : decode cL_law 308 = .ok (.invokevirtual 32, 3) := by decide +kernel
theorem dL_law_311 : decode cL_law 311 = .ok (.if_icmp .eq 549, 3) := by decide +kernel
theorem dL_law_314 : decode cL_law 314 = .ok (.iconst 0, 1) := by decide +kernel
theorem dL_law_315 : decode cL_law 315 = .ok (.ireturn, 1) := by decide +kernel
theorem dL_law_316 : decode cL_law 316 = .ok (.aload_n 1, 1) := by decide +kernel
theorem dL_law_317 : decode cL_law 317 = .ok (.aload_n 0, 1) := by decide +kernel
theorem dL_law_318 : decode cL_law 318 = .ok (.iload_n 3, 1) := by decide +kernel
theorem dL_law_319 : decode cL_law 319 = .ok (.iconst 1, 1) := by decide +kernel
theorem dL_law_320 : decode cL_law 320 = .ok (.iadd, 1) := by decide +kernel
theorem dL_law_321 : decode cL_law 321 = .ok (.iaload, 1) := by decide +kernel
theorem dL_law_322 : decode cL_law 322 = .ok (.aload_n 0, 1) := by decide +kernel
theorem dL_law_323 : decode cL_law 323 = .ok (.iload_n 3, 1) := by decide +kernel
theorem dL_law_324 : decode cL_law 324 = .ok (.iconst 2, 1) := by decide +kernel
theorem dL_law_325 : decode cL_law 325 = .ok (.iadd, 1) := by decide +kernel
theorem dL_law_326 : decode cL_law 326 = .ok (.iaload, 1) := by decide +kernel
theorem dL_law_327 : decode cL_law 327 = .ok (.aload_n 0, 1) := by decide +kernel
theorem dL_law_328 : decode cL_law 328 = .ok (.iload_n 3, 1) := by decide +kernel
theorem dL_law_329 : decode cL_law 329 = .ok (.iconst 3, 1) := by decide +kernel
theorem dL_law_330 : decode cL_law 330 = .ok (.iadd, 1) := by decide +kernel
theorem dL_law_331 : decode cL_law 331 = .ok (.iaload, 1) := by decide +kernel
theorem dL_law_332 : decode cL_law 332 = .ok (.invokevirtual 33, 3) := by decide +kernel
theorem dL_law_335 : decode cL_law 335 = .ok (.aload_n 2, 1) := by decide +kernel
theorem dL_law_336 : decode cL_law 336 = .ok (.aload_n 0, 1) := by decide +kernel
theorem dL_law_337 : decode cL_law 337 = .ok (.iload_n 3, 1) := by decide +kernel
theorem dL_law_338 : decode cL_law 338 = .ok (.iconst 1, 1) := by decide +kernel
theorem dL_law_339 : decode cL_law 339 = .ok (.iadd, 1) := by decide +kernel
theorem dL_law_340 : decode cL_law 340 = .ok (.iaload, 1) := by decide +kernel
theorem dL_law_341 : decode cL_law 341 = .ok (.aload_n 0, 1) := by decide +kernel
theorem dL_law_342 : decode cL_law 342 = .ok (.iload_n 3, 1) := by decide +kernel
theorem dL_law_343 : decode cL_law 343 = .ok (.iconst 2, 1) := by decide +kernel
theorem dL_law_344 : decode cL_law 344 = .ok (.iadd, 1) := by decide +kernel
theorem dL_law_345 : decode cL_law 345 = .ok (.iaload, 1) := by decide +kernel
theorem dL_law_346 : decode cL_law 346 = .ok (.aload_n 0, 1) := by decide +kernel
theorem dL_law_347 : decode cL_law 347 = .ok (.iload_n 3, 1) := by decide +kernel
theorem dL_law_348 : decode cL_law 348 = .ok (.iconst 3, 1) := by decide +kernel
theorem dL_law_349 : decode cL_law 349 = .ok (.iadd, 1) := by decide +kernel
theorem dL_law_350 : decode cL_law 350 = .ok (.iaload, 1) := by decide +kernel
theorem dL_law_351 : decode cL_law 351 = .ok (.invokevirtual 37, 3) := by decide +kernel
theorem dL_law_354 : decode cL_law 354 = .ok (.if_icmp .eq 506, 3) := by decide +kernel
theorem dL_law_357 : decode cL_law 357 = .ok (.iconst 0, 1) := by decide +kernel
theorem dL_law_358 : decode cL_law 358 = .ok (.ireturn, 1) := by decide +kernel
theorem dL_law_359 : decode cL_law 359 = .ok (.aload_n 1, 1) := by decide +kernel
theorem dL_law_360 : decode cL_law 360 = .ok (.aload_n 0, 1) := by decide +kernel
theorem dL_law_361 : decode cL_law 361 = .ok (.iload_n 3, 1) := by decide +kernel
theorem dL_law_362 : decode cL_law 362 = .ok (.iconst 1, 1) := by decide +kernel
theorem dL_law_363 : decode cL_law 363 = .ok (.iadd, 1) := by decide +kernel
theorem dL_law_364 : decode cL_law 364 = .ok (.iaload, 1) := by decide +kernel
theorem dL_law_365 : decode cL_law 365 = .ok (.aload_n 0, 1) := by decide +kernel
theorem dL_law_366 : decode cL_law 366 = .ok (.iload_n 3, 1) := by decide +kernel
theorem dL_law_367 : decode cL_law 367 = .ok (.iconst 2, 1) := by decide +kernel
theorem dL_law_368 : decode cL_law 368 = .ok (.iadd, 1) := by decide +kernel
theorem dL_law_369 : decode cL_law 369 = .ok (.iaload, 1) := by decide +kernel
theorem dL_law_370 : decode cL_law 370 = .ok (.invokevirtual 38, 3) := by decide +kernel
theorem dL_law_373 : decode cL_law 373 = .ok (.aload_n 2, 1) := by decide +kernel
theorem dL_law_374 : decode cL_law 374 = .ok (.aload_n 0, 1) := by decide +kernel
theorem dL_law_375 : decode cL_law 375 = .ok (.iload_n 3, 1) := by decide +kernel
theorem dL_law_376 : decode cL_law 376 = .ok (.iconst 1, 1) := by decide +kernel
theorem dL_law_377 : decode cL_law 377 = .ok (.iadd, 1) := by decide +kernel
theorem dL_law_378 : decode cL_law 378 = .ok (.iaload, 1) := by decide +kernel
theorem dL_law_379 : decode cL_law 379 = .ok (.aload_n 0, 1) := by decide +kernel
theorem dL_law_380 : decode cL_law 380 = .ok (.iload_n 3, 1) := by decide +kernel
theorem dL_law_381 : decode cL_law 381 = .ok (.iconst 2, 1) := by decide +kernel
theorem dL_law_382 : decode cL_law 382 = .ok (.iadd, 1) := by decide +kernel
theorem dL_law_383 : decode cL_law 383 = .ok (.iaload, 1) := by decide +kernel
theorem dL_law_384 : decode cL_law 384 = .ok (.invokevirtual 41, 3) := by decide +kernel
theorem dL_law_387 : decode cL_law 387 = .ok (.if_icmp .eq 473, 3) := by decide +kernel
theorem dL_law_390 : decode cL_law 390 = .ok (.iconst 0, 1) := by decide +kernel
theorem dL_law_391 : decode cL_law 391 = .ok (.ireturn, 1) := by decide +kernel
theorem dL_law_392 : decode cL_law 392 = .ok (.aload_n 1, 1) := by decide +kernel
theorem dL_law_393 : decode cL_law 393 = .ok (.aload_n 0, 1) := by decide +kernel
theorem dL_law_394 : decode cL_law 394 = .ok (.iload_n 3, 1) := by decide +kernel
theorem dL_law_395 : decode cL_law 395 = .ok (.iconst 1, 1) := by decide +kernel
theorem dL_law_396 : decode cL_law 396 = .ok (.iadd, 1) := by decide +kernel
theorem dL_law_397 : decode cL_law 397 = .ok (.iaload, 1) := by decide +kernel
theorem dL_law_398 : decode cL_law 398 = .ok (.aload_n 0, 1) := by decide +kernel
theorem dL_law_399 : decode cL_law 399 = .ok (.iload_n 3, 1) := by decide +kernel
theorem dL_law_400 : decode cL_law 400 = .ok (.iconst 2, 1) := by decide +kernel
theorem dL_law_401 : decode cL_law 401 = .ok (.iadd, 1) := by decide +kernel
theorem dL_law_402 : decode cL_law 402 = .ok (.iaload, 1) := by decide +kernel
theorem dL_law_403 : decode cL_law 403 = .ok (.aload_n 0, 1) := by decide +kernel
theorem dL_law_404 : decode cL_law 404 = .ok (.iload_n 3, 1) := by decide +kernel
theorem dL_law_405 : decode cL_law 405 = .ok (.iconst 3, 1) := by decide +kernel
theorem dL_law_406 : decode cL_law 406 = .ok (.iadd, 1) := by decide +kernel
theorem dL_law_407 : decode cL_law 407 = .ok (.iaload, 1) := by decide +kernel
theorem dL_law_408 : decode cL_law 408 = .ok (.aload_n 0, 1) := by decide +kernel
theorem dL_law_409 : decode cL_law 409 = .ok (.iload_n 3, 1) := by decide +kernel
theorem dL_law_410 : decode cL_law 410 = .ok (.iconst 4, 1) := by decide +kernel
theorem dL_law_411 : decode cL_law 411 = .ok (.iadd, 1) := by decide +kernel
theorem dL_law_412 : decode cL_law 412 = .ok (.iaload, 1) := by decide +kernel
theorem dL_law_413 : decode cL_law 413 = .ok (.aload_n 0, 1) := by decide +kernel
theorem dL_law_414 : decode cL_law 414 = .ok (.iload_n 3, 1) := by decide +kernel
theorem dL_law_415 : decode cL_law 415 = .ok (.iconst 5, 1) := by decide +kernel
theorem dL_law_416 : decode cL_law 416 = .ok (.iadd, 1) := by decide +kernel
theorem dL_law_417 : decode cL_law 417 = .ok (.iaload, 1) := by decide +kernel
theorem dL_law_418 : decode cL_law 418 = .ok (.invokevirtual 42, 3) := by decide +kernel
theorem dL_law_421 : decode cL_law 421 = .ok (.aload_n 2, 1) := by decide +kernel
theorem dL_law_422 : decode cL_law 422 = .ok (.aload_n 0, 1) := by decide +kernel
theorem dL_law_423 : decode cL_law 423 = .ok (.iload_n 3, 1) := by decide +kernel
theorem dL_law_424 : decode cL_law 424 = .ok (.iconst 1, 1) := by decide +kernel
theorem dL_law_425 : decode cL_law 425 = .ok (.iadd, 1) := by decide +kernel
theorem dL_law_426 : decode cL_law 426 = .ok (.iaload, 1) := by decide +kernel
theorem dL_law_427 : decode cL_law 427 = .ok (.aload_n 0, 1) := by decide +kernel
theorem dL_law_428 : decode cL_law 428 = .ok (.iload_n 3, 1) := by decide +kernel
theorem dL_law_429 : decode cL_law 429 = .ok (.iconst 2, 1) := by decide +kernel
theorem dL_law_430 : decode cL_law 430 = .ok (.iadd, 1) := by decide +kernel
theorem dL_law_431 : decode cL_law 431 = .ok (.iaload, 1) := by decide +kernel
theorem dL_law_432 : decode cL_law 432 = .ok (.aload_n 0, 1) := by decide +kernel
theorem dL_law_433 : decode cL_law 433 = .ok (.iload_n 3, 1) := by decide +kernel
theorem dL_law_434 : decode cL_law 434 = .ok (.iconst 3, 1) := by decide +kernel
theorem dL_law_435 : decode cL_law 435 = .ok (.iadd, 1) := by decide +kernel
theorem dL_law_436 : decode cL_law 436 = .ok (.iaload, 1) := by decide +kernel
theorem dL_law_437 : decode cL_law 437 = .ok (.aload_n 0, 1) := by decide +kernel
theorem dL_law_438 : decode cL_law 438 = .ok (.iload_n 3, 1) := by decide +kernel
theorem dL_law_439 : decode cL_law 439 = .ok (.iconst 4, 1) := by decide +kernel
theorem dL_law_440 : decode cL_law 440 = .ok (.iadd, 1) := by decide +kernel
theorem dL_law_441 : decode cL_law 441 = .ok (.iaload, 1) := by decide +kernel
theorem dL_law_442 : decode cL_law 442 = .ok (.aload_n 0, 1) := by decide +kernel
theorem dL_law_443 : decode cL_law 443 = .ok (.iload_n 3, 1) := by decide +kernel
theorem dL_law_444 : decode cL_law 444 = .ok (.iconst 5, 1) := by decide +kernel
theorem dL_law_445 : decode cL_law 445 = .ok (.iadd, 1) := by decide +kernel
theorem dL_law_446 : decode cL_law 446 = .ok (.iaload, 1) := by decide +kernel
theorem dL_law_447 : decode cL_law 447 = .ok (.invokevirtual 45, 3) := by decide +kernel
theorem dL_law_450 : decode cL_law 450 = .ok (.if_icmp .eq 410, 3) := by decide +kernel
theorem dL_law_453 : decode cL_law 453 = .ok (.iconst 0, 1) := by decide +kernel
theorem dL_law_454 : decode cL_law 454 = .ok (.ireturn, 1) := by decide +kernel
theorem dL_law_455 : decode cL_law 455 = .ok (.aload_n 1, 1) := by decide +kernel
theorem dL_law_456 : decode cL_law 456 = .ok (.aload_n 0, 1) := by decide +kernel
theorem dL_law_457 : decode cL_law 457 = .ok (.iload_n 3, 1) := by decide +kernel
theorem dL_law_458 : decode cL_law 458 = .ok (.iconst 1, 1) := by decide +kernel
theorem dL_law_459 : decode cL_law 459 = .ok (.iadd, 1) := by decide +kernel
theorem dL_law_460 : decode cL_law 460 = .ok (.iaload, 1) := by decide +kernel
theorem dL_law_461 : decode cL_law 461 = .ok (.invokevirtual 46, 3) := by decide +kernel
theorem dL_law_464 : decode cL_law 464 = .ok (.aload_n 2, 1) := by decide +kernel
theorem dL_law_465 : decode cL_law 465 = .ok (.aload_n 0, 1) := by decide +kernel
theorem dL_law_466 : decode cL_law 466 = .ok (.iload_n 3, 1) := by decide +kernel
theorem dL_law_467 : decode cL_law 467 = .ok (.iconst 1, 1) := by decide +kernel
theorem dL_law_468 : decode cL_law 468 = .ok (.iadd, 1) := by decide +kernel
theorem dL_law_469 : decode cL_law 469 = .ok (.iaload, 1) := by decide +kernel
theorem dL_law_470 : decode cL_law 470 = .ok (.invokevirtual 50, 3) := by decide +kernel
theorem dL_law_473 : decode cL_law 473 = .ok (.if_icmp .eq 387, 3) := by decide +kernel
theorem dL_law_476 : decode cL_law 476 = .ok (.iconst 0, 1) := by decide +kernel
theorem dL_law_477 : decode cL_law 477 = .ok (.ireturn, 1) := by decide +kernel
theorem dL_law_478 : decode cL_law 478 = .ok (.aload_n 1, 1) := by decide +kernel
theorem dL_law_479 : decode cL_law 479 = .ok (.aload_n 0, 1) := by decide +kernel
theorem dL_law_480 : decode cL_law 480 = .ok (.iload_n 3, 1) := by decide +kernel
theorem dL_law_481 : decode cL_law 481 = .ok (.iconst 1, 1) := by decide +kernel
theorem dL_law_482 : decode cL_law 482 = .ok (.iadd, 1) := by decide +kernel
theorem dL_law_483 : decode cL_law 483 = .ok (.iaload, 1) := by decide +kernel
theorem dL_law_484 : decode cL_law 484 = .ok (.aload_n 0, 1) := by decide +kernel
theorem dL_law_485 : decode cL_law 485 = .ok (.iload_n 3, 1) := by decide +kernel
theorem dL_law_486 : decode cL_law 486 = .ok (.iconst 2, 1) := by decide +kernel
theorem dL_law_487 : decode cL_law 487 = .ok (.iadd, 1) := by decide +kernel
theorem dL_law_488 : decode cL_law 488 = .ok (.iaload, 1) := by decide +kernel
theorem dL_law_489 : decode cL_law 489 = .ok (.invokevirtual 51, 3) := by decide +kernel
theorem dL_law_492 : decode cL_law 492 = .ok (.aload_n 2, 1) := by decide +kernel
theorem dL_law_493 : decode cL_law 493 = .ok (.aload_n 0, 1) := by decide +kernel
theorem dL_law_494 : decode cL_law 494 = .ok (.iload_n 3, 1) := by decide +kernel
theorem dL_law_495 : decode cL_law 495 = .ok (.iconst 1, 1) := by decide +kernel
theorem dL_law_496 : decode cL_law 496 = .ok (.iadd, 1) := by decide +kernel
theorem dL_law_497 : decode cL_law 497 = .ok (.iaload, 1) := by decide +kernel
theorem dL_law_498 : decode cL_law 498 = .ok (.aload_n 0, 1) := by decide +kernel
theorem dL_law_499 : decode cL_law 499 = .ok (.iload_n 3, 1) := by decide +kernel
theorem dL_law_500 : decode cL_law 500 = .ok (.iconst 2, 1) := by decide +kernel
theorem dL_law_501 : decode cL_law 501 = .ok (.iadd, 1) := by decide +kernel
theorem dL_law_502 : decode cL_law 502 = .ok (.iaload, 1) := by decide +kernel
theorem dL_law_503 : decode cL_law 503 = .ok (.invokevirtual 55, 3) := by decide +kernel
theorem dL_law_506 : decode cL_law 506 = .ok (.if_icmp .eq 354, 3) := by decide +kernel
theorem dL_law_509 : decode cL_law 509 = .ok (.iconst 0, 1) := by decide +kernel
theorem dL_law_510 : decode cL_law 510 = .ok (.ireturn, 1) := by decide +kernel
theorem dL_law_511 : decode cL_law 511 = .ok (.aload_n 1, 1) := by decide +kernel
theorem dL_law_512 : decode cL_law 512 = .ok (.aload_n 0, 1) := by decide +kernel
theorem dL_law_513 : decode cL_law 513 = .ok (.iload_n 3, 1) := by decide +kernel
theorem dL_law_514 : decode cL_law 514 = .ok (.iconst 1, 1) := by decide +kernel
theorem dL_law_515 : decode cL_law 515 = .ok (.iadd, 1) := by decide +kernel
theorem dL_law_516 : decode cL_law 516 = .ok (.iaload, 1) := by decide +kernel
theorem dL_law_517 : decode cL_law 517 = .ok (.invokevirtual 56, 3) := by decide +kernel
theorem dL_law_520 : decode cL_law 520 = .ok (.aload_n 2, 1) := by decide +kernel
theorem dL_law_521 : decode cL_law 521 = .ok (.aload_n 0, 1) := by decide +kernel
theorem dL_law_522 : decode cL_law 522 = .ok (.iload_n 3, 1) := by decide +kernel
theorem dL_law_523 : decode cL_law 523 = .ok (.iconst 1, 1) := by decide +kernel
theorem dL_law_524 : decode cL_law 524 = .ok (.iadd, 1) := by decide +kernel
theorem dL_law_525 : decode cL_law 525 = .ok (.iaload, 1) := by decide +kernel
theorem dL_law_526 : decode cL_law 526 = .ok (.invokevirtual 59, 3) := by decide +kernel
theorem dL_law_529 : decode cL_law 529 = .ok (.if_icmp .eq 331, 3) := by decide +kernel
theorem dL_law_532 : decode cL_law 532 = .ok (.iconst 0, 1) := by decide +kernel
theorem dL_law_533 : decode cL_law 533 = .ok (.ireturn, 1) := by decide +kernel
theorem dL_law_534 : decode cL_law 534 = .ok (.aload_n 1, 1) := by decide +kernel
theorem dL_law_535 : decode cL_law 535 = .ok (.aload_n 0, 1) := by decide +kernel
theorem dL_law_536 : decode cL_law 536 = .ok (.iload_n 3, 1) := by decide +kernel
theorem dL_law_537 : decode cL_law 537 = .ok (.iconst 1, 1) := by decide +kernel
theorem dL_law_538 : decode cL_law 538 = .ok (.iadd, 1) := by decide +kernel
theorem dL_law_539 : decode cL_law 539 = .ok (.iaload, 1) := by decide +kernel
theorem dL_law_540 : decode cL_law 540 = .ok (.aload_n 0, 1) := by decide +kernel
theorem dL_law_541 : decode cL_law 541 = .ok (.iload_n 3, 1) := by decide +kernel
theorem dL_law_542 : decode cL_law 542 = .ok (.iconst 2, 1) := by decide +kernel
theorem dL_law_543 : decode cL_law 543 = .ok (.iadd, 1) := by decide +kernel
theorem dL_law_544 : decode cL_law 544 = .ok (.iaload, 1) := by decide +kernel
theorem dL_law_545 : decode cL_law 545 = .ok (.aload_n 0, 1) := by decide +kernel
theorem dL_law_546 : decode cL_law 546 = .ok (.iload_n 3, 1) := by decide +kernel
theorem dL_law_547 : decode cL_law 547 = .ok (.iconst 3, 1) := by decide +kernel
theorem dL_law_548 : decode cL_law 548 = .ok (.iadd, 1) := by decide +kernel
theorem dL_law_549 : decode cL_law 549 = .ok (.iaload, 1) := by decide +kernel
theorem dL_law_550 : decode cL_law 550 = .ok (.invokevirtual 60, 3) := by decide +kernel
theorem dL_law_553 : decode cL_law 553 = .ok (.aload_n 2, 1) := by decide +kernel
theorem dL_law_554 : decode cL_law 554 = .ok (.aload_n 0, 1) := by decide +kernel
theorem dL_law_555 : decode cL_law 555 = .ok (.iload_n 3, 1) := by decide +kernel
theorem dL_law_556 : decode cL_law 556 = .ok (.iconst 1, 1) := by decide +kernel
theorem dL_law_557 : decode cL_law 557 = .ok (.iadd, 1) := by decide +kernel
theorem dL_law_558 : decode cL_law 558 = .ok (.iaload, 1) := by decide +kernel
theorem dL_law_559 : decode cL_law 559 = .ok (.aload_n 0, 1) := by decide +kernel
theorem dL_law_560 : decode cL_law 560 = .ok (.iload_n 3, 1) := by decide +kernel
theorem dL_law_561 : decode cL_law 561 = .ok (.iconst 2, 1) := by decide +kernel
theorem dL_law_562 : decode cL_law 562 = .ok (.iadd, 1) := by decide +kernel
theorem dL_law_563 : decode cL_law 563 = .ok (.iaload, 1) := by decide +kernel
theorem dL_law_564 : decode cL_law 564 = .ok (.aload_n 0, 1) := by decide +kernel
theorem dL_law_565 : decode cL_law 565 = .ok (.iload_n 3, 1) := by decide +kernel
theorem dL_law_566 : decode cL_law 566 = .ok (.iconst 3, 1) := by decide +kernel
theorem dL_law_567 : decode cL_law 567 = .ok (.iadd, 1) := by decide +kernel
theorem dL_law_568 : decode cL_law 568 = .ok (.iaload, 1) := by decide +kernel
theorem dL_law_569 : decode cL_law 569 = .ok (.invokevirtual 64, 3) := by decide +kernel
theorem dL_law_572 : decode cL_law 572 = .ok (.if_icmp .eq 288, 3) := by decide +kernel
theorem dL_law_575 : decode cL_law 575 = .ok (.iconst 0, 1) := by decide +kernel
theorem dL_law_576 : decode cL_law 576 = .ok (.ireturn, 1) := by decide +kernel
theorem dL_law_577 : decode cL_law 577 = .ok (.aload_n 1, 1) := by decide +kernel
theorem dL_law_578 : decode cL_law 578 = .ok (.aload_n 0, 1) := by decide +kernel
theorem dL_law_579 : decode cL_law 579 = .ok (.iload_n 3, 1) := by decide +kernel
theorem dL_law_580 : decode cL_law 580 = .ok (.iconst 1, 1) := by decide +kernel
theorem dL_law_581 : decode cL_law 581 = .ok (.iadd, 1) := by decide +kernel
theorem dL_law_582 : decode cL_law 582 = .ok (.iaload, 1) := by decide +kernel
theorem dL_law_583 : decode cL_law 583 = .ok (.aload_n 0, 1) := by decide +kernel
theorem dL_law_584 : decode cL_law 584 = .ok (.iload_n 3, 1) := by decide +kernel
theorem dL_law_585 : decode cL_law 585 = .ok (.iconst 2, 1) := by decide +kernel
theorem dL_law_586 : decode cL_law 586 = .ok (.iadd, 1) := by decide +kernel
theorem dL_law_587 : decode cL_law 587 = .ok (.iaload, 1) := by decide +kernel
theorem dL_law_588 : decode cL_law 588 = .ok (.invokevirtual 65, 3) := by decide +kernel
theorem dL_law_591 : decode cL_law 591 = .ok (.aload_n 2, 1) := by decide +kernel
theorem dL_law_592 : decode cL_law 592 = .ok (.aload_n 0, 1) := by decide +kernel
theorem dL_law_593 : decode cL_law 593 = .ok (.iload_n 3, 1) := by decide +kernel
theorem dL_law_594 : decode cL_law 594 = .ok (.iconst 1, 1) := by decide +kernel
theorem dL_law_595 : decode cL_law 595 = .ok (.iadd, 1) := by decide +kernel
theorem dL_law_596 : decode cL_law 596 = .ok (.iaload, 1) := by decide +kernel
theorem dL_law_597 : decode cL_law 597 = .ok (.aload_n 0, 1) := by decide +kernel
theorem dL_law_598 : decode cL_law 598 = .ok (.iload_n 3, 1) := by decide +kernel
theorem dL_law_599 : decode cL_law 599 = .ok (.iconst 2, 1) := by decide +kernel
theorem dL_law_600 : decode cL_law 600 = .ok (.iadd, 1) := by decide +kernel
theorem dL_law_601 : decode cL_law 601 = .ok (.iaload, 1) := by decide +kernel
theorem dL_law_602 : decode cL_law 602 = .ok (.invokevirtual 68, 3) := by decide +kernel
theorem dL_law_605 : decode cL_law 605 = .ok (.if_icmp .eq 255, 3) := by decide +kernel
theorem dL_law_608 : decode cL_law 608 = .ok (.iconst 0, 1) := by decide +kernel
theorem dL_law_609 : decode cL_law 609 = .ok (.ireturn, 1) := by decide +kernel
theorem dL_law_610 : decode cL_law 610 = .ok (.aload_n 1, 1) := by decide +kernel
theorem dL_law_611 : decode cL_law 611 = .ok (.aload_n 0, 1) := by decide +kernel
theorem dL_law_612 : decode cL_law 612 = .ok (.iload_n 3, 1) := by decide +kernel
theorem dL_law_613 : decode cL_law 613 = .ok (.iconst 1, 1) := by decide +kernel
theorem dL_law_614 : decode cL_law 614 = .ok (.iadd, 1) := by decide +kernel
theorem dL_law_615 : decode cL_law 615 = .ok (.iaload, 1) := by decide +kernel
theorem dL_law_616 : decode cL_law 616 = .ok (.aload_n 0, 1) := by decide +kernel
theorem dL_law_617 : decode cL_law 617 = .ok (.iload_n 3, 1) := by decide +kernel
theorem dL_law_618 : decode cL_law 618 = .ok (.iconst 2, 1) := by decide +kernel
theorem dL_law_619 : decode cL_law 619 = .ok (.iadd, 1) := by decide +kernel
theorem dL_law_620 : decode cL_law 620 = .ok (.iaload, 1) := by decide +kernel
theorem dL_law_621 : decode cL_law 621 = .ok (.invokevirtual 69, 3) := by decide +kernel
theorem dL_law_624 : decode cL_law 624 = .ok (.aload_n 2, 1) := by decide +kernel
theorem dL_law_625 : decode cL_law 625 = .ok (.aload_n 0, 1) := by decide +kernel
theorem dL_law_626 : decode cL_law 626 = .ok (.iload_n 3, 1) := by decide +kernel
theorem dL_law_627 : decode cL_law 627 = .ok (.iconst 1, 1) := by decide +kernel
theorem dL_law_628 : decode cL_law 628 = .ok (.iadd, 1) := by decide +kernel
theorem dL_law_629 : decode cL_law 629 = .ok (.iaload, 1) := by decide +kernel
theorem dL_law_630 : decode cL_law 630 = .ok (.aload_n 0, 1) := by decide +kernel
theorem dL_law_631 : decode cL_law 631 = .ok (.iload_n 3, 1) := by decide +kernel
theorem dL_law_632 : decode cL_law 632 = .ok (.iconst 2, 1) := by decide +kernel
theorem dL_law_633 : decode cL_law 633 = .ok (.iadd, 1) := by decide +kernel
theorem dL_law_634 : decode cL_law 634 = .ok (.iaload, 1) := by decide +kernel
theorem dL_law_635 : decode cL_law 635 = .ok (.invokevirtual 72, 3) := by decide +kernel
theorem dL_law_638 : decode cL_law 638 = .ok (.if_icmp .eq 222, 3) := by decide +kernel
theorem dL_law_641 : decode cL_law 641 = .ok (.iconst 0, 1) := by decide +kernel
theorem dL_law_642 : decode cL_law 642 = .ok (.ireturn, 1) := by decide +kernel
theorem dL_law_643 : decode cL_law 643 = .ok (.aload_n 1, 1) := by decide +kernel
theorem dL_law_644 : decode cL_law 644 = .ok (.aload_n 0, 1) := by decide +kernel
theorem dL_law_645 : decode cL_law 645 = .ok (.iload_n 3, 1) := by decide +kernel
theorem dL_law_646 : decode cL_law 646 = .ok (.iconst 1, 1) := by decide +kernel
theorem dL_law_647 : decode cL_law 647 = .ok (.iadd, 1) := by decide +kernel
theorem dL_law_648 : decode cL_law 648 = .ok (.iaload, 1) := by decide +kernel
theorem dL_law_649 : decode cL_law 649 = .ok (.aload_n 0, 1) := by decide +kernel
theorem dL_law_650 : decode cL_law 650 = .ok (.iload_n 3, 1) := by decide +kernel
theorem dL_law_651 : decode cL_law 651 = .ok (.iconst 2, 1) := by decide +kernel
theorem dL_law_652 : decode cL_law 652 = .ok (.iadd, 1) := by decide +kernel
theorem dL_law_653 : decode cL_law 653 = .ok (.iaload, 1) := by decide +kernel
theorem dL_law_654 : decode cL_law 654 = .ok (.invokevirtual 73, 3) := by decide +kernel
theorem dL_law_657 : decode cL_law 657 = .ok (.aload_n 2, 1) := by decide +kernel
theorem dL_law_658 : decode cL_law 658 = .ok (.aload_n 0, 1) := by decide +kernel
theorem dL_law_659 : decode cL_law 659 = .ok (.iload_n 3, 1) := by decide +kernel
theorem dL_law_660 : decode cL_law 660 = .ok (.iconst 1, 1) := by decide +kernel
theorem dL_law_661 : decode cL_law 661 = .ok (.iadd, 1) := by decide +kernel
theorem dL_law_662 : decode cL_law 662 = .ok (.iaload, 1) := by decide +kernel
theorem dL_law_663 : decode cL_law 663 = .ok (.aload_n 0, 1) := by decide +kernel
theorem dL_law_664 : decode cL_law 664 = .ok (.iload_n 3, 1) := by decide +kernel
theorem dL_law_665 : decode cL_law 665 = .ok (.iconst 2, 1) := by decide +kernel
theorem dL_law_666 : decode cL_law 666 = .ok (.iadd, 1) := by decide +kernel
theorem dL_law_667 : decode cL_law 667 = .ok (.iaload, 1) := by decide +kernel
theorem dL_law_668 : decode cL_law 668 = .ok (.invokevirtual 76, 3) := by decide +kernel
theorem dL_law_671 : decode cL_law 671 = .ok (.if_icmp .eq 189, 3) := by decide +kernel
theorem dL_law_674 : decode cL_law 674 = .ok (.iconst 0, 1) := by decide +kernel
theorem dL_law_675 : decode cL_law 675 = .ok (.ireturn, 1) := by decide +kernel
theorem dL_law_676 : decode cL_law 676 = .ok (.aload_n 1, 1) := by decide +kernel
theorem dL_law_677 : decode cL_law 677 = .ok (.aload_n 0, 1) := by decide +kernel
theorem dL_law_678 : decode cL_law 678 = .ok (.iload_n 3, 1) := by decide +kernel
theorem dL_law_679 : decode cL_law 679 = .ok (.iconst 1, 1) := by decide +kernel
theorem dL_law_680 : decode cL_law 680 = .ok (.iadd, 1) := by decide +kernel
theorem dL_law_681 : decode cL_law 681 = .ok (.iaload, 1) := by decide +kernel
theorem dL_law_682 : decode cL_law 682 = .ok (.invokevirtual 77, 3) := by decide +kernel
theorem dL_law_685 : decode cL_law 685 = .ok (.aload_n 2, 1) := by decide +kernel
theorem dL_law_686 : decode cL_law 686 = .ok (.aload_n 0, 1) := by decide +kernel
theorem dL_law_687 : decode cL_law 687 = .ok (.iload_n 3, 1) := by decide +kernel
theorem dL_law_688 : decode cL_law 688 = .ok (.iconst 1, 1) := by decide +kernel
theorem dL_law_689 : decode cL_law 689 = .ok (.iadd, 1) := by decide +kernel
theorem dL_law_690 : decode cL_law 690 = .ok (.iaload, 1) := by decide +kernel
theorem dL_law_691 : decode cL_law 691 = .ok (.invokevirtual 80, 3) := by decide +kernel
theorem dL_law_694 : decode cL_law 694 = .ok (.if_icmp .eq 166, 3) := by decide +kernel
theorem dL_law_697 : decode cL_law 697 = .ok (.iconst 0, 1) := by decide +kernel
theorem dL_law_698 : decode cL_law 698 = .ok (.ireturn, 1) := by decide +kernel
theorem dL_law_699 : decode cL_law 699 = .ok (.aload_n 1, 1) := by decide +kernel
theorem dL_law_700 : decode cL_law 700 = .ok (.aload_n 0, 1) := by decide +kernel
theorem dL_law_701 : decode cL_law 701 = .ok (.iload_n 3, 1) := by decide +kernel
theorem dL_law_702 : decode cL_law 702 = .ok (.iconst 1, 1) := by decide +kernel
theorem dL_law_703 : decode cL_law 703 = .ok (.iadd, 1) := by decide +kernel
theorem dL_law_704 : decode cL_law 704 = .ok (.iaload, 1) := by decide +kernel
theorem dL_law_705 : decode cL_law 705 = .ok (.aload_n 0, 1) := by decide +kernel
theorem dL_law_706 : decode cL_law 706 = .ok (.iload_n 3, 1) := by decide +kernel
theorem dL_law_707 : decode cL_law 707 = .ok (.iconst 2, 1) := by decide +kernel
theorem dL_law_708 : decode cL_law 708 = .ok (.iadd, 1) := by decide +kernel
theorem dL_law_709 : decode cL_law 709 = .ok (.iaload, 1) := by decide +kernel
theorem dL_law_710 : decode cL_law 710 = .ok (.ifCond .eq 7, 3) := by decide +kernel
theorem dL_law_713 : decode cL_law 713 = .ok (.iconst 1, 1) := by decide +kernel
theorem dL_law_714 : decode cL_law 714 = .ok (.goto 4, 3) := by decide +kernel
theorem dL_law_717 : decode cL_law 717 = .ok (.iconst 0, 1) := by decide +kernel
theorem dL_law_718 : decode cL_law 718 = .ok (.invokevirtual 81, 3) := by decide +kernel
theorem dL_law_721 : decode cL_law 721 = .ok (.aload_n 2, 1) := by decide +kernel
theorem dL_law_722 : decode cL_law 722 = .ok (.aload_n 0, 1) := by decide +kernel
theorem dL_law_723 : decode cL_law 723 = .ok (.iload_n 3, 1) := by decide +kernel
theorem dL_law_724 : decode cL_law 724 = .ok (.iconst 1, 1) := by decide +kernel
theorem dL_law_725 : decode cL_law 725 = .ok (.iadd, 1) := by decide +kernel
theorem dL_law_726 : decode cL_law 726 = .ok (.iaload, 1) := by decide +kernel
theorem dL_law_727 : decode cL_law 727 = .ok (.aload_n 0, 1) := by decide +kernel
theorem dL_law_728 : decode cL_law 728 = .ok (.iload_n 3, 1) := by decide +kernel
theorem dL_law_729 : decode cL_law 729 = .ok (.iconst 2, 1) := by decide +kernel
theorem dL_law_730 : decode cL_law 730 = .ok (.iadd, 1) := by decide +kernel
theorem dL_law_731 : decode cL_law 731 = .ok (.iaload, 1) := by decide +kernel
theorem dL_law_732 : decode cL_law 732 = .ok (.ifCond .eq 7, 3) := by decide +kernel
theorem dL_law_735 : decode cL_law 735 = .ok (.iconst 1, 1) := by decide +kernel
theorem dL_law_736 : decode cL_law 736 = .ok (.goto 4, 3) := by decide +kernel
theorem dL_law_739 : decode cL_law 739 = .ok (.iconst 0, 1) := by decide +kernel
theorem dL_law_740 : decode cL_law 740 = .ok (.invokevirtual 85, 3) := by decide +kernel
theorem dL_law_743 : decode cL_law 743 = .ok (.if_icmp .eq 117, 3) := by decide +kernel
theorem dL_law_746 : decode cL_law 746 = .ok (.iconst 0, 1) := by decide +kernel
theorem dL_law_747 : decode cL_law 747 = .ok (.ireturn, 1) := by decide +kernel
theorem dL_law_748 : decode cL_law 748 = .ok (.aload_n 1, 1) := by decide +kernel
theorem dL_law_749 : decode cL_law 749 = .ok (.aload_n 0, 1) := by decide +kernel
theorem dL_law_750 : decode cL_law 750 = .ok (.iload_n 3, 1) := by decide +kernel
theorem dL_law_751 : decode cL_law 751 = .ok (.iconst 1, 1) := by decide +kernel
theorem dL_law_752 : decode cL_law 752 = .ok (.iadd, 1) := by decide +kernel
theorem dL_law_753 : decode cL_law 753 = .ok (.iaload, 1) := by decide +kernel
theorem dL_law_754 : decode cL_law 754 = .ok (.invokevirtual 86, 3) := by decide +kernel
theorem dL_law_757 : decode cL_law 757 = .ok (.aload_n 2, 1) := by decide +kernel
theorem dL_law_758 : decode cL_law 758 = .ok (.aload_n 0, 1) := by decide +kernel
theorem dL_law_759 : decode cL_law 759 = .ok (.iload_n 3, 1) := by decide +kernel
theorem dL_law_760 : decode cL_law 760 = .ok (.iconst 1, 1) := by decide +kernel
theorem dL_law_761 : decode cL_law 761 = .ok (.iadd, 1) := by decide +kernel
theorem dL_law_762 : decode cL_law 762 = .ok (.iaload, 1) := by decide +kernel
theorem dL_law_763 : decode cL_law 763 = .ok (.invokevirtual 89, 3) := by decide +kernel
theorem dL_law_766 : decode cL_law 766 = .ok (.if_icmp .eq 94, 3) := by decide +kernel
theorem dL_law_769 : decode cL_law 769 = .ok (.iconst 0, 1) := by decide +kernel
theorem dL_law_770 : decode cL_law 770 = .ok (.ireturn, 1) := by decide +kernel
theorem dL_law_771 : decode cL_law 771 = .ok (.aload_n 1, 1) := by decide +kernel
theorem dL_law_772 : decode cL_law 772 = .ok (.aload_n 0, 1) := by decide +kernel
theorem dL_law_773 : decode cL_law 773 = .ok (.iload_n 3, 1) := by decide +kernel
theorem dL_law_774 : decode cL_law 774 = .ok (.iconst 1, 1) := by decide +kernel
theorem dL_law_775 : decode cL_law 775 = .ok (.iadd, 1) := by decide +kernel
theorem dL_law_776 : decode cL_law 776 = .ok (.iaload, 1) := by decide +kernel
theorem dL_law_777 : decode cL_law 777 = .ok (.aload_n 0, 1) := by decide +kernel
theorem dL_law_778 : decode cL_law 778 = .ok (.iload_n 3, 1) := by decide +kernel
theorem dL_law_779 : decode cL_law 779 = .ok (.iconst 2, 1) := by decide +kernel
theorem dL_law_780 : decode cL_law 780 = .ok (.iadd, 1) := by decide +kernel
theorem dL_law_781 : decode cL_law 781 = .ok (.iaload, 1) := by decide +kernel
theorem dL_law_782 : decode cL_law 782 = .ok (.invokevirtual 90, 3) := by decide +kernel
theorem dL_law_785 : decode cL_law 785 = .ok (.aload_n 2, 1) := by decide +kernel
theorem dL_law_786 : decode cL_law 786 = .ok (.aload_n 0, 1) := by decide +kernel
theorem dL_law_787 : decode cL_law 787 = .ok (.iload_n 3, 1) := by decide +kernel
theorem dL_law_788 : decode cL_law 788 = .ok (.iconst 1, 1) := by decide +kernel
theorem dL_law_789 : decode cL_law 789 = .ok (.iadd, 1) := by decide +kernel
theorem dL_law_790 : decode cL_law 790 = .ok (.iaload, 1) := by decide +kernel
theorem dL_law_791 : decode cL_law 791 = .ok (.aload_n 0, 1) := by decide +kernel
theorem dL_law_792 : decode cL_law 792 = .ok (.iload_n 3, 1) := by decide +kernel
theorem dL_law_793 : decode cL_law 793 = .ok (.iconst 2, 1) := by decide +kernel
theorem dL_law_794 : decode cL_law 794 = .ok (.iadd, 1) := by decide +kernel
theorem dL_law_795 : decode cL_law 795 = .ok (.iaload, 1) := by decide +kernel
theorem dL_law_796 : decode cL_law 796 = .ok (.invokevirtual 93, 3) := by decide +kernel
theorem dL_law_799 : decode cL_law 799 = .ok (.if_icmp .eq 61, 3) := by decide +kernel
theorem dL_law_802 : decode cL_law 802 = .ok (.iconst 0, 1) := by decide +kernel
theorem dL_law_803 : decode cL_law 803 = .ok (.ireturn, 1) := by decide +kernel
theorem dL_law_804 : decode cL_law 804 = .ok (.aload_n 1, 1) := by decide +kernel
theorem dL_law_805 : decode cL_law 805 = .ok (.aload_n 0, 1) := by decide +kernel
theorem dL_law_806 : decode cL_law 806 = .ok (.iload_n 3, 1) := by decide +kernel
theorem dL_law_807 : decode cL_law 807 = .ok (.iconst 1, 1) := by decide +kernel
theorem dL_law_808 : decode cL_law 808 = .ok (.iadd, 1) := by decide +kernel
theorem dL_law_809 : decode cL_law 809 = .ok (.iaload, 1) := by decide +kernel
theorem dL_law_810 : decode cL_law 810 = .ok (.aload_n 0, 1) := by decide +kernel
theorem dL_law_811 : decode cL_law 811 = .ok (.iload_n 3, 1) := by decide +kernel
theorem dL_law_812 : decode cL_law 812 = .ok (.iconst 2, 1) := by decide +kernel
theorem dL_law_813 : decode cL_law 813 = .ok (.iadd, 1) := by decide +kernel
theorem dL_law_814 : decode cL_law 814 = .ok (.iaload, 1) := by decide +kernel
theorem dL_law_815 : decode cL_law 815 = .ok (.invokevirtual 94, 3) := by decide +kernel
theorem dL_law_818 : decode cL_law 818 = .ok (.aload_n 2, 1) := by decide +kernel
theorem dL_law_819 : decode cL_law 819 = .ok (.aload_n 0, 1) := by decide +kernel
theorem dL_law_820 : decode cL_law 820 = .ok (.iload_n 3, 1) := by decide +kernel
theorem dL_law_821 : decode cL_law 821 = .ok (.iconst 1, 1) := by decide +kernel
theorem dL_law_822 : decode cL_law 822 = .ok (.iadd, 1) := by decide +kernel
theorem dL_law_823 : decode cL_law 823 = .ok (.iaload, 1) := by decide +kernel
theorem dL_law_824 : decode cL_law 824 = .ok (.aload_n 0, 1) := by decide +kernel
theorem dL_law_825 : decode cL_law 825 = .ok (.iload_n 3, 1) := by decide +kernel
theorem dL_law_826 : decode cL_law 826 = .ok (.iconst 2, 1) := by decide +kernel
theorem dL_law_827 : decode cL_law 827 = .ok (.iadd, 1) := by decide +kernel
theorem dL_law_828 : decode cL_law 828 = .ok (.iaload, 1) := by decide +kernel
theorem dL_law_829 : decode cL_law 829 = .ok (.invokevirtual 97, 3) := by decide +kernel
theorem dL_law_832 : decode cL_law 832 = .ok (.if_icmp .eq 28, 3) := by decide +kernel
theorem dL_law_835 : decode cL_law 835 = .ok (.iconst 0, 1) := by decide +kernel
theorem dL_law_836 : decode cL_law 836 = .ok (.ireturn, 1) := by decide +kernel
theorem dL_law_837 : decode cL_law 837 = .ok (.aload_n 1, 1) := by decide +kernel
theorem dL_law_838 : decode cL_law 838 = .ok (.aload_n 0, 1) := by decide +kernel
theorem dL_law_839 : decode cL_law 839 = .ok (.iload_n 3, 1) := by decide +kernel
theorem dL_law_840 : decode cL_law 840 = .ok (.iconst 1, 1) := by decide +kernel
theorem dL_law_841 : decode cL_law 841 = .ok (.iadd, 1) := by decide +kernel
theorem dL_law_842 : decode cL_law 842 = .ok (.iaload, 1) := by decide +kernel
theorem dL_law_843 : decode cL_law 843 = .ok (.invokevirtual 98, 3) := by decide +kernel
theorem dL_law_846 : decode cL_law 846 = .ok (.aload_n 2, 1) := by decide +kernel
theorem dL_law_847 : decode cL_law 847 = .ok (.aload_n 0, 1) := by decide +kernel
theorem dL_law_848 : decode cL_law 848 = .ok (.iload_n 3, 1) := by decide +kernel
theorem dL_law_849 : decode cL_law 849 = .ok (.iconst 1, 1) := by decide +kernel
theorem dL_law_850 : decode cL_law 850 = .ok (.iadd, 1) := by decide +kernel
theorem dL_law_851 : decode cL_law 851 = .ok (.iaload, 1) := by decide +kernel
theorem dL_law_852 : decode cL_law 852 = .ok (.invokevirtual 101, 3) := by decide +kernel
theorem dL_law_855 : decode cL_law 855 = .ok (.if_icmp .eq 5, 3) := by decide +kernel
theorem dL_law_858 : decode cL_law 858 = .ok (.iconst 0, 1) := by decide +kernel
theorem dL_law_859 : decode cL_law 859 = .ok (.ireturn, 1) := by decide +kernel
theorem dL_law_860 : decode cL_law 860 = .ok (.iinc 3 6, 3) := by decide +kernel
theorem dL_law_863 : decode cL_law 863 = .ok (.goto (-845), 3) := by decide +kernel
theorem dL_law_866 : decode cL_law 866 = .ok (.iconst 1, 1) := by decide +kernel
theorem dL_law_867 : decode cL_law 867 = .ok (.ireturn, 1) := by decide +kernel
end
section
abbrev fh_M : Type := (Nat → Nat → Int32) × (Nat → Nat → Int64) × (Nat → Nat → Option Nat)
abbrev fh_K : Type := Nat → Nat × Nat
abbrev fh_D : Type := (Nat → ClassId) × (Nat → Nat → Nat) × (Nat → ClassId)
def fh_tab : List (List Nat) := [[2, 0], [2, 2], [2, 0, 0, 0], [2, 2, 0], [2, 2, 2, 2, 0, 0, 0], [2, 2, 2], [2, 2], [2, 0, 0, 0, 0, 0, 0, 0, 0], [0, 0, 0, 0, 0], [2, 0], [2, 2, 2, 2, 2, 2, 2, 2, 2, 2, 2, 0, 0, 0, 1], [2, 0, 0, 0, 2, 2, 2, 2, 2, 0, 2, 2, 2, 2, 2, 2, 0, 2, 2, 0, 2, 2, 2, 2, 2, 0, 0, 2, 2, 2, 0, 2, 2, 2, 2, 0, 2, 0, 2, 2, 0, 0, 2]]
def fh_fv (M : fh_M) (a k t : Nat) : Value := if t = 0 then .int (M.1 a k) else if t = 1 then .long (M.2.1 a k) else va_rf (M.2.2 a k)
def fh_fs (c : Nat) (M : fh_M) (a : Nat) : List Value := (fh_tab.getD c []).mapIdx (fun k t => fh_fv M a k t)
def fh_cell (D : fh_D) (K : fh_K) (M : fh_M) (a : Nat) : va_E :=
  if (K a).1 < 13 then .inr ((K a).1 - 1, fh_fs ((K a).1 - 1) M a) else if (K a).1 < 16 then .inl (D.2.2 (K a).1, (K a).2, .inl (M.1 a)) else if (K a).1 = 16 then .inl (D.2.2 16, (K a).2, .inr (.inl (M.2.1 a))) else .inl (D.2.2 (K a).1, (K a).2, .inr (.inr (.inr (.inr (M.2.2 a)))))
def fh_P (D : fh_D) (K : fh_K) (M : fh_M) (H : Heap) : Prop := ∀ a, (K a).1 ≠ 0 → va_at (D.1, D.2.1) vwCl (a, fh_cell D K M a) H
def fh_u {α : Type} (f : Nat → Nat → α) (a k : Nat) (v : α) : Nat → Nat → α := fun x j => if x = a ∧ j = k then v else f x j
def fh_r {α : Type} (f : Nat → Nat → α) (a : Nat) (g : Nat → α) : Nat → Nat → α := fun x j => if x = a then g j else f x j
def fh_si (M : fh_M) (a k : Nat) (v : Int32) : fh_M := (fh_u M.1 a k v, M.2)
def fh_sl (M : fh_M) (a k : Nat) (v : Int64) : fh_M := (M.1, fh_u M.2.1 a k v, M.2.2)
def fh_sr (M : fh_M) (a k : Nat) (v : Option Nat) : fh_M := (M.1, M.2.1, fh_u M.2.2 a k v)
def fh_ri (M : fh_M) (a : Nat) (g : Nat → Int32) : fh_M := (fh_r M.1 a g, M.2)
def fh_clr (M : fh_M) (a : Nat) : fh_M := (fh_r M.1 a (fun _ => 0), fh_r M.2.1 a (fun _ => 0), fh_r M.2.2 a (fun _ => none))
def fh_uk (K : fh_K) (a : Nat) (v : Nat × Nat) : fh_K := fun x => if x = a then v else K x
theorem fh_u_ne {α : Type} {f : Nat → Nat → α} {a k b : Nat} {v : α} (h : b ≠ a) : f b = fh_u f a k v b := by
  funext j; simp [fh_u, h]
theorem fh_r_ne {α : Type} {f : Nat → Nat → α} {a b : Nat} {g : Nat → α} (h : b ≠ a) : f b = fh_r f a g b := by
  funext j; simp [fh_r, h]
theorem fh_cell_congr {D : fh_D} {K : fh_K} {M M' : fh_M} {b : Nat} (h : M.1 b = M'.1 b ∧ M.2.1 b = M'.2.1 b ∧ M.2.2 b = M'.2.2 b) : fh_cell D K M b = fh_cell D K M' b := by
  obtain ⟨h1, h2, h3⟩ := h
  unfold fh_cell
  simp only [fh_fs, fh_fv, h1, h2, h3]
theorem fh_P_write {D : fh_D} {K : fh_K} {M M' : fh_M} {H H1 : Heap} {a : Nat} (hP : fh_P D K M H) (ha : va_at (D.1, D.2.1) vwCl (a, fh_cell D K M' a) H1) (ho : ∀ q : Nat, q ≠ a → H1[q]? = H[q]?) (hM : ∀ b, b ≠ a → M.1 b = M'.1 b ∧ M.2.1 b = M'.2.1 b ∧ M.2.2 b = M'.2.2 b) : fh_P D K M' H1 := by
  intro b hb
  by_cases e : b = a
  · subst e; exact ha
  · rw [← fh_cell_congr (hM b e)]
    exact (hP b hb).kept (ho b e)
theorem fh_cell_o {D : fh_D} {K : fh_K} {M : fh_M} {a ci : Nat} (h : (K a).1 = ci + 1) (hc : ci < 12) : fh_cell D K M a = .inr (ci, fh_fs ci M a) := by
  unfold fh_cell; rw [h, if_pos (by omega)]; rfl
theorem fh_cell_i {D : fh_D} {K : fh_K} {M : fh_M} {a t : Nat} (h : (K a).1 = t) (h1 : 13 ≤ t) (h2 : t < 16) : fh_cell D K M a = .inl (D.2.2 t, (K a).2, .inl (M.1 a)) := by
  unfold fh_cell; rw [h, if_neg (by omega), if_pos h2]
theorem fh_cell_l {D : fh_D} {K : fh_K} {M : fh_M} {a : Nat} (h : (K a).1 = 16) : fh_cell D K M a = .inl (D.2.2 16, (K a).2, .inr (.inl (M.2.1 a))) := by
  unfold fh_cell; rw [h]; rfl
theorem fh_cell_r {D : fh_D} {K : fh_K} {M : fh_M} {a t : Nat} (h : (K a).1 = t) (h1 : 16 < t) : fh_cell D K M a = .inl (D.2.2 t, (K a).2, .inr (.inr (.inr (.inr (M.2.2 a))))) := by
  unfold fh_cell; rw [h, if_neg (by omega), if_neg (by omega), if_neg (by omega)]
theorem fh_one {D : fh_D} {K : fh_K} {M : fh_M} {H : Heap} {a : Nat} {e : va_E} (hP : fh_P D K M H) (h0 : (K a).1 ≠ 0) (he : fh_cell D K M a = e) : va_P (D.1, D.2.1) vwCl [(a, e)] H := by
  intro k q hq
  cases k with
  | zero => cases hq; rw [← he]; exact hP a h0
  | succ k => simp at hq
def fh_tys (D : fh_D) : List (ClassId × FieldType) := [(D.2.2 13, .int), (D.2.2 14, .byte), (D.2.2 15, .boolean), (D.2.2 16, .long), (D.2.2 17, .object RX2), (D.2.2 18, .object RX7), (D.2.2 19, .object RX8)]
def fh_W : List Cond := lw_tbl.filter goodWord
def fh_nest : List (String × Nat × MethodName × String) := [("FileHouse", 42, ⟨"FileHouse$Readers", "<init>", "()V"⟩, "FileHouse"), ("FileHouse", 49, ⟨"FileHouse$Turners", "<init>", "()V"⟩, "FileHouse"), ("FileHouse", 56, ⟨"FileHouse$Roads", "<init>", "()V"⟩, "FileHouse"), ("FileHouse", 63, ⟨"FileHouse$Spans", "<init>", "()V"⟩, "FileHouse"), ("FileHouse", 70, ⟨"FileHouse$Reading", "<init>", "()V"⟩, "FileHouse"), ("FileHouse$Reading", 50, ⟨"FileHouse", "sumOfFirst", "([II)I"⟩, "FileHouse"), ("FileHouse$Reading", 61, ⟨"FileHouse", "holds", "(II)Z"⟩, "FileHouse")]
def fh_Ks (D : fh_D) (U : State) : Prop := va_K (D.1, D.2.1) vwCl (fh_tys D) U ∧ (∀ q ∈ fh_nest, va_Nw (.methodLinkNest q.1 q.2.1 q.2.2.1 q.2.2.2) U) ∧ va_Nw (.castable "[I" "java/lang/Cloneable") U ∧ (va_AO RX2 U ∧ va_AO RX7 U ∧ va_AO RX8 U)
theorem fh_Ks_warm {D : fh_D} {s U : State} (hW : s.WarmedH U.vm) (h : fh_Ks D s) : fh_Ks D U := ⟨va_K.moved hW.alike h.1, fun q hq => va_Nw.warmM hW (h.2.1 q hq), va_Nw.warmC hW h.2.2.1, h.2.2.2.1.moved hW.alike, h.2.2.2.2.1.moved hW.alike, h.2.2.2.2.2.moved hW.alike⟩
theorem fh_Ks_same {D : fh_D} {s U : State} (e : s.vm = U.vm) (h : fh_Ks D s) : fh_Ks D U := ⟨va_K.moved (by rw [← e]; exact Vm.Alike.refl _) h.1, fun q hq => va_Nw.same rfl e (h.2.1 q hq), va_Nw.same rfl e h.2.2.1, h.2.2.2.1.moved (by rw [← e]; exact Vm.Alike.refl _), h.2.2.2.2.1.moved (by rw [← e]; exact Vm.Alike.refl _), h.2.2.2.2.2.moved (by rw [← e]; exact Vm.Alike.refl _)⟩
abbrev fh_X : Type := Program × Launch × Env × State × MethodId × Array Value × List Frame × Method × Code × fh_D × (Nat → Prop) × (State → Prop)
def fh_V (X : fh_X) (R : Room) (nL : Nat) (z : Nat × Nat × Nat) (K : fh_K) (M : fh_M) (pc : Nat) (lv : List (Nat × Value)) (st : List Value) : Prop := match X with
  | (p, l, e, s, m, args, below, meth, c, D, A, Q) => ∀ (H : Heap) (locs : List Loc) (ls : Array Slot), fh_P D K M H → H.size = z.1 → va_S A s.heap H locs → (∀ a, (K a).1 ≠ 0 → A a) → lv_has ls nL lv → W p l e R s m args below meth c H locs z.2.1 z.2.2 Q (F0 m pc ls st)
def fh_C (X : fh_X) (nL : Nat) (cc : ByteArray) (own : String) : Prop := match X with
  | (p, l, e, s, m, args, below, meth, c, D, A, Q) => p.tables.exec = Jvm.exec ∧ c.code = cc ∧ c.maxLocals = nL ∧ s.vm.findClass own = some m.cls ∧ (∀ w ∈ fh_W, w.before args s = true) ∧ fh_Ks D s ∧ meth.locks = false ∧ (∀ q, s.heap.size ≤ q → A q)
theorem bx {α β : Type} {x : Option α} {f : α → Option β} {b : β} (h : x.bind f = some b) : ∃ a, x = some a ∧ f a = some b := Option.bind_eq_some_iff.mp h
theorem itT {α : Type} {c : Prop} {_ : Decidable c} {a b r : α} (hc : c) (h : (if c then a else b) = r) : a = r := by rw [if_pos hc] at h; exact h
theorem itF {α : Type} {c : Prop} {_ : Decidable c} {a b r : α} (hc : ¬ c) (h : (if c then a else b) = r) : b = r := by rw [if_neg hc] at h; exact h
/-- an object of class ci -/
def fo {α : Type} (K : fh_K) (ci : Nat) (r : Option Nat) (f : Nat → Option α) : Option α := match r with
  | none => none
  | some a => if (K a).1 = ci + 1 then f a else none
theorem fo_s {α : Type} {K : fh_K} {ci : Nat} {r : Option Nat} {f : Nat → Option α} {x : α} (h : fo K ci r f = some x) : ∃ a, r = some a ∧ (K a).1 = ci + 1 ∧ f a = some x := by
  cases r with
  | none => cases h
  | some a =>
    by_cases hk : (K a).1 = ci + 1
    · exact ⟨a, rfl, hk, by simpa [fo, hk] using h⟩
    · simp [fo, hk] at h
/-- an array of kind t -/
def fa {α : Type} (K : fh_K) (t : Nat) (r : Option Nat) (f : Nat → Option α) : Option α := match r with
  | none => none
  | some a => if (K a).1 = t then f a else none
theorem fa_s {α : Type} {K : fh_K} {t : Nat} {r : Option Nat} {f : Nat → Option α} {x : α} (h : fa K t r f = some x) : ∃ a, r = some a ∧ (K a).1 = t ∧ f a = some x := by
  cases r with
  | none => cases h
  | some a =>
    by_cases hk : (K a).1 = t
    · exact ⟨a, rfl, hk, by simpa [fa, hk] using h⟩
    · simp [fa, hk] at h
/-- an array of kind t, and a place in it -/
def fi {α : Type} (K : fh_K) (t : Nat) (r : Option Nat) (i : Int32) (f : Nat → Option α) : Option α := match r with
  | none => none
  | some a => if (K a).1 = t ∧ ¬ (i < 0 ∨ (K a).2 ≤ i.toNatClampNeg) then f a else none
theorem fi_s {α : Type} {K : fh_K} {t : Nat} {r : Option Nat} {i : Int32} {f : Nat → Option α} {x : α} (h : fi K t r i f = some x) : ∃ a, r = some a ∧ (K a).1 = t ∧ vp_in i (K a).2 ∧ f a = some x := by
  cases r with
  | none => cases h
  | some a =>
    by_cases hk : (K a).1 = t ∧ ¬ (i < 0 ∨ (K a).2 ≤ i.toNatClampNeg)
    · exact ⟨a, rfl, hk.1, hk.2, by simpa [fi, hk] using h⟩
    · simp only [fi] at h
      rw [if_neg hk] at h
      cases h
theorem va_rf_cat (r : Option Nat) : (va_rf r).category = 1 := by cases r <;> rfl
theorem fv_iconst {X : fh_X} {R : Room} {nL : Nat} {z : Nat × Nat × Nat} {K : fh_K} {M : fh_M} {pc : Nat} {lv : List (Nat × Value)} {st : List Value} {cc : ByteArray} {own : String} (C : fh_C X nL cc own) {n : Int} {v : Int32} (hv : Int32.ofInt n = v) (hd : decode cc pc = .ok (.iconst n, 1)) (k : fh_V X R nL z K M (pc + 1) lv (.int v :: st)) : fh_V X R nL z K M pc lv st := by
  obtain ⟨p, l, e, s, m, args, below, meth, c, D, A, Q⟩ := X
  exact fun H locs ls hP hz hS hA hl => lv_iconst C.1 C.2.1 hd hv (k H locs ls hP hz hS hA hl)
theorem fv_bipush {X : fh_X} {R : Room} {nL : Nat} {z : Nat × Nat × Nat} {K : fh_K} {M : fh_M} {pc : Nat} {lv : List (Nat × Value)} {st : List Value} {cc : ByteArray} {own : String} (C : fh_C X nL cc own) {n : Int} {v : Int32} (hv : (Int8.ofInt n).toInt32 = v) (hd : decode cc pc = .ok (.bipush n, 2)) (k : fh_V X R nL z K M (pc + 2) lv (.int v :: st)) : fh_V X R nL z K M pc lv st := by
  obtain ⟨p, l, e, s, m, args, below, meth, c, D, A, Q⟩ := X
  exact fun H locs ls hP hz hS hA hl => lv_bipush C.1 C.2.1 hd hv (k H locs ls hP hz hS hA hl)
theorem fv_sipush {X : fh_X} {R : Room} {nL : Nat} {z : Nat × Nat × Nat} {K : fh_K} {M : fh_M} {pc : Nat} {lv : List (Nat × Value)} {st : List Value} {cc : ByteArray} {own : String} (C : fh_C X nL cc own) {n : Int} {v : Int32} (hv : (Int16.ofInt n).toInt32 = v) (hd : decode cc pc = .ok (.sipush n, 3)) (k : fh_V X R nL z K M (pc + 3) lv (.int v :: st)) : fh_V X R nL z K M pc lv st := by
  obtain ⟨p, l, e, s, m, args, below, meth, c, D, A, Q⟩ := X
  exact fun H locs ls hP hz hS hA hl => lv_sipush C.1 C.2.1 hd hv (k H locs ls hP hz hS hA hl)
theorem fv_lconst {X : fh_X} {R : Room} {nL : Nat} {z : Nat × Nat × Nat} {K : fh_K} {M : fh_M} {pc : Nat} {lv : List (Nat × Value)} {st : List Value} {cc : ByteArray} {own : String} (C : fh_C X nL cc own) {n : Fin 2} {v : Int64} (hv : Int64.ofNat (n : Nat) = v) (hd : decode cc pc = .ok (.lconst n, 1)) (k : fh_V X R nL z K M (pc + 1) lv (.long v :: st)) : fh_V X R nL z K M pc lv st := by
  obtain ⟨p, l, e, s, m, args, below, meth, c, D, A, Q⟩ := X
  exact fun H locs ls hP hz hS hA hl => lv_lconst C.1 C.2.1 hd hv (k H locs ls hP hz hS hA hl)
theorem fv_null {X : fh_X} {R : Room} {nL : Nat} {z : Nat × Nat × Nat} {K : fh_K} {M : fh_M} {pc : Nat} {lv : List (Nat × Value)} {st : List Value} {cc : ByteArray} {own : String} (C : fh_C X nL cc own)  (hd : decode cc pc = .ok (.aconst_null, 1)) (k : fh_V X R nL z K M (pc + 1) lv (va_rf none :: st)) : fh_V X R nL z K M pc lv st := by
  obtain ⟨p, l, e, s, m, args, below, meth, c, D, A, Q⟩ := X
  exact fun H locs ls hP hz hS hA hl => lv_null C.1 C.2.1 hd (k H locs ls hP hz hS hA hl)
theorem fv_ldc {X : fh_X} {R : Room} {nL : Nat} {z : Nat × Nat × Nat} {K : fh_K} {M : fh_M} {pc : Nat} {lv : List (Nat × Value)} {st : List Value} {cc : ByteArray} {own : String} (C : fh_C X nL cc own) {index : Nat} {v : Int32} (hw : Cond.constant own index v ∈ fh_W) (hd : decode cc pc = .ok (.ldc index, 2)) (k : fh_V X R nL z K M (pc + 2) lv (.int v :: st)) : fh_V X R nL z K M pc lv st := by
  obtain ⟨p, l, e, s, m, args, below, meth, c, D, A, Q⟩ := X
  exact fun H locs ls hP hz hS hA hl => lv_ldc C.1 C.2.1 C.2.2.2.1 (C.2.2.2.2.1 _ hw) hd (k H locs ls hP hz hS hA hl)
theorem fv_ldc2 {X : fh_X} {R : Room} {nL : Nat} {z : Nat × Nat × Nat} {K : fh_K} {M : fh_M} {pc : Nat} {lv : List (Nat × Value)} {st : List Value} {cc : ByteArray} {own : String} (C : fh_C X nL cc own) {index : Nat} {v : Int64} (hw : Cond.constantLong own index v ∈ fh_W) (hd : decode cc pc = .ok (.ldc2_w index, 3)) (k : fh_V X R nL z K M (pc + 3) lv (.long v :: st)) : fh_V X R nL z K M pc lv st := by
  obtain ⟨p, l, e, s, m, args, below, meth, c, D, A, Q⟩ := X
  exact fun H locs ls hP hz hS hA hl => lv_ldc2 C.1 C.2.1 C.2.2.2.1 (C.2.2.2.2.1 _ hw) hd (k H locs ls hP hz hS hA hl)
theorem fv_iload_n {X : fh_X} {R : Room} {nL : Nat} {z : Nat × Nat × Nat} {K : fh_K} {M : fh_M} {pc : Nat} {lv : List (Nat × Value)} {st : List Value} {cc : ByteArray} {own : String} (C : fh_C X nL cc own) {kf : Fin 4} {i : Nat} {x : Int32} (j : Nat) (hi : (kf : Nat) = i) (hj : lv[j]? = some (i, .int x)) (hd : decode cc pc = .ok (.iload_n kf, 1)) (k : fh_V X R nL z K M (pc + 1) lv (.int x :: st)) : fh_V X R nL z K M pc lv st := by
  obtain ⟨p, l, e, s, m, args, below, meth, c, D, A, Q⟩ := X
  exact fun H locs ls hP hz hS hA hl => lv_iload_n C.1 C.2.1 hd hi (lv_at hl j hj) (k H locs ls hP hz hS hA hl)
theorem fv_iload {X : fh_X} {R : Room} {nL : Nat} {z : Nat × Nat × Nat} {K : fh_K} {M : fh_M} {pc : Nat} {lv : List (Nat × Value)} {st : List Value} {cc : ByteArray} {own : String} (C : fh_C X nL cc own) {i : Nat} {x : Int32} (j : Nat) (hj : lv[j]? = some (i, .int x)) (hd : decode cc pc = .ok (.iload i, 2)) (k : fh_V X R nL z K M (pc + 2) lv (.int x :: st)) : fh_V X R nL z K M pc lv st := by
  obtain ⟨p, l, e, s, m, args, below, meth, c, D, A, Q⟩ := X
  exact fun H locs ls hP hz hS hA hl => lv_iload C.1 C.2.1 hd (lv_at hl j hj) (k H locs ls hP hz hS hA hl)
theorem fv_lload_n {X : fh_X} {R : Room} {nL : Nat} {z : Nat × Nat × Nat} {K : fh_K} {M : fh_M} {pc : Nat} {lv : List (Nat × Value)} {st : List Value} {cc : ByteArray} {own : String} (C : fh_C X nL cc own) {kf : Fin 4} {i : Nat} {x : Int64} (j : Nat) (hi : (kf : Nat) = i) (hj : lv[j]? = some (i, .long x)) (hd : decode cc pc = .ok (.lload_n kf, 1)) (k : fh_V X R nL z K M (pc + 1) lv (.long x :: st)) : fh_V X R nL z K M pc lv st := by
  obtain ⟨p, l, e, s, m, args, below, meth, c, D, A, Q⟩ := X
  exact fun H locs ls hP hz hS hA hl => lv_lload_n C.1 C.2.1 hd hi (lv_at hl j hj) (k H locs ls hP hz hS hA hl)
theorem fv_lload {X : fh_X} {R : Room} {nL : Nat} {z : Nat × Nat × Nat} {K : fh_K} {M : fh_M} {pc : Nat} {lv : List (Nat × Value)} {st : List Value} {cc : ByteArray} {own : String} (C : fh_C X nL cc own) {i : Nat} {x : Int64} (j : Nat) (hj : lv[j]? = some (i, .long x)) (hd : decode cc pc = .ok (.lload i, 2)) (k : fh_V X R nL z K M (pc + 2) lv (.long x :: st)) : fh_V X R nL z K M pc lv st := by
  obtain ⟨p, l, e, s, m, args, below, meth, c, D, A, Q⟩ := X
  exact fun H locs ls hP hz hS hA hl => lv_lload C.1 C.2.1 hd (lv_at hl j hj) (k H locs ls hP hz hS hA hl)
theorem fv_aload_n {X : fh_X} {R : Room} {nL : Nat} {z : Nat × Nat × Nat} {K : fh_K} {M : fh_M} {pc : Nat} {lv : List (Nat × Value)} {st : List Value} {cc : ByteArray} {own : String} (C : fh_C X nL cc own) {kf : Fin 4} {i : Nat} {x : Option Nat} (j : Nat) (hi : (kf : Nat) = i) (hj : lv[j]? = some (i, va_rf x)) (hd : decode cc pc = .ok (.aload_n kf, 1)) (k : fh_V X R nL z K M (pc + 1) lv (va_rf x :: st)) : fh_V X R nL z K M pc lv st := by
  obtain ⟨p, l, e, s, m, args, below, meth, c, D, A, Q⟩ := X
  cases x with
  | none => exact fun H locs ls hP hz hS hA hl => lv_aload_nN C.1 C.2.1 hd hi (lv_at hl j hj) (k H locs ls hP hz hS hA hl)
  | some x => exact fun H locs ls hP hz hS hA hl => lv_aload_n C.1 C.2.1 hd hi (lv_at hl j hj) (k H locs ls hP hz hS hA hl)
theorem fv_aload {X : fh_X} {R : Room} {nL : Nat} {z : Nat × Nat × Nat} {K : fh_K} {M : fh_M} {pc : Nat} {lv : List (Nat × Value)} {st : List Value} {cc : ByteArray} {own : String} (C : fh_C X nL cc own) {i : Nat} {x : Option Nat} (j : Nat) (hj : lv[j]? = some (i, va_rf x)) (hd : decode cc pc = .ok (.aload i, 2)) (k : fh_V X R nL z K M (pc + 2) lv (va_rf x :: st)) : fh_V X R nL z K M pc lv st := by
  obtain ⟨p, l, e, s, m, args, below, meth, c, D, A, Q⟩ := X
  cases x with
  | none => exact fun H locs ls hP hz hS hA hl => lv_aloadN C.1 C.2.1 hd (lv_at hl j hj) (k H locs ls hP hz hS hA hl)
  | some x => exact fun H locs ls hP hz hS hA hl => lv_aload C.1 C.2.1 hd (lv_at hl j hj) (k H locs ls hP hz hS hA hl)
theorem fv_istore_n {X : fh_X} {R : Room} {nL : Nat} {z : Nat × Nat × Nat} {K : fh_K} {M : fh_M} {pc : Nat} {lv : List (Nat × Value)} {st : List Value} {cc : ByteArray} {own : String} (C : fh_C X nL cc own) {kf : Fin 4} {i : Nat} {x : Int32} {lv' : List (Nat × Value)} (hi : (kf : Nat) = i) (hn : i < nL) (hl0 : (i, Value.int x) :: lv.filter (fun q => !(q.1 == i) && !(q.1 + 1 == i && q.2.category == 2)) = lv') (hd : decode cc pc = .ok (.istore_n kf, 1)) (k : fh_V X R nL z K M (pc + 1) lv' st) : fh_V X R nL z K M pc lv (.int x :: st) := by
  obtain ⟨p, l, e, s, m, args, below, meth, c, D, A, Q⟩ := X
  exact fun H locs ls hP hz hS hA hl => lv_istore_n C.1 C.2.1 hd hi hl hn hl0 (fun ls hl => (k H locs ls hP hz hS hA hl))
theorem fv_istore {X : fh_X} {R : Room} {nL : Nat} {z : Nat × Nat × Nat} {K : fh_K} {M : fh_M} {pc : Nat} {lv : List (Nat × Value)} {st : List Value} {cc : ByteArray} {own : String} (C : fh_C X nL cc own) {i : Nat} {x : Int32} {lv' : List (Nat × Value)} (hn : i < nL) (hl0 : (i, Value.int x) :: lv.filter (fun q => !(q.1 == i) && !(q.1 + 1 == i && q.2.category == 2)) = lv') (hd : decode cc pc = .ok (.istore i, 2)) (k : fh_V X R nL z K M (pc + 2) lv' st) : fh_V X R nL z K M pc lv (.int x :: st) := by
  obtain ⟨p, l, e, s, m, args, below, meth, c, D, A, Q⟩ := X
  exact fun H locs ls hP hz hS hA hl => lv_istore C.1 C.2.1 hd hl hn hl0 (fun ls hl => (k H locs ls hP hz hS hA hl))
theorem fv_lstore_n {X : fh_X} {R : Room} {nL : Nat} {z : Nat × Nat × Nat} {K : fh_K} {M : fh_M} {pc : Nat} {lv : List (Nat × Value)} {st : List Value} {cc : ByteArray} {own : String} (C : fh_C X nL cc own) {kf : Fin 4} {i : Nat} {x : Int64} {lv' : List (Nat × Value)} (hi : (kf : Nat) = i) (hn : i + 1 < nL) (hl0 : (i, Value.long x) :: lv.filter (fun q => !(q.1 == i) && (!(q.1 == i + 1) && !(q.1 + 1 == i && q.2.category == 2))) = lv') (hd : decode cc pc = .ok (.lstore_n kf, 1)) (k : fh_V X R nL z K M (pc + 1) lv' st) : fh_V X R nL z K M pc lv (.long x :: st) := by
  obtain ⟨p, l, e, s, m, args, below, meth, c, D, A, Q⟩ := X
  exact fun H locs ls hP hz hS hA hl => lv_lstore_n C.1 C.2.1 hd hi hl hn hl0 (fun ls hl => (k H locs ls hP hz hS hA hl))
theorem fv_lstore {X : fh_X} {R : Room} {nL : Nat} {z : Nat × Nat × Nat} {K : fh_K} {M : fh_M} {pc : Nat} {lv : List (Nat × Value)} {st : List Value} {cc : ByteArray} {own : String} (C : fh_C X nL cc own) {i : Nat} {x : Int64} {lv' : List (Nat × Value)} (hn : i + 1 < nL) (hl0 : (i, Value.long x) :: lv.filter (fun q => !(q.1 == i) && (!(q.1 == i + 1) && !(q.1 + 1 == i && q.2.category == 2))) = lv') (hd : decode cc pc = .ok (.lstore i, 2)) (k : fh_V X R nL z K M (pc + 2) lv' st) : fh_V X R nL z K M pc lv (.long x :: st) := by
  obtain ⟨p, l, e, s, m, args, below, meth, c, D, A, Q⟩ := X
  exact fun H locs ls hP hz hS hA hl => lv_lstore C.1 C.2.1 hd hl hn hl0 (fun ls hl => (k H locs ls hP hz hS hA hl))
theorem fv_astore_n {X : fh_X} {R : Room} {nL : Nat} {z : Nat × Nat × Nat} {K : fh_K} {M : fh_M} {pc : Nat} {lv : List (Nat × Value)} {st : List Value} {cc : ByteArray} {own : String} (C : fh_C X nL cc own) {kf : Fin 4} {i : Nat} {x : Option Nat} {lv' : List (Nat × Value)} (hi : (kf : Nat) = i) (hn : i < nL) (hl0 : (i, va_rf x) :: lv.filter (fun q => !(q.1 == i) && !(q.1 + 1 == i && q.2.category == 2)) = lv') (hd : decode cc pc = .ok (.astore_n kf, 1)) (k : fh_V X R nL z K M (pc + 1) lv' st) : fh_V X R nL z K M pc lv (va_rf x :: st) := by
  obtain ⟨p, l, e, s, m, args, below, meth, c, D, A, Q⟩ := X
  cases x with
  | none => exact fun H locs ls hP hz hS hA hl => lv_astore_nN C.1 C.2.1 hd hi hl hn hl0 (fun ls hl => (k H locs ls hP hz hS hA hl))
  | some x => exact fun H locs ls hP hz hS hA hl => lv_astore_n C.1 C.2.1 hd hi hl hn hl0 (fun ls hl => (k H locs ls hP hz hS hA hl))
theorem fv_astore {X : fh_X} {R : Room} {nL : Nat} {z : Nat × Nat × Nat} {K : fh_K} {M : fh_M} {pc : Nat} {lv : List (Nat × Value)} {st : List Value} {cc : ByteArray} {own : String} (C : fh_C X nL cc own) {i : Nat} {x : Option Nat} {lv' : List (Nat × Value)} (hn : i < nL) (hl0 : (i, va_rf x) :: lv.filter (fun q => !(q.1 == i) && !(q.1 + 1 == i && q.2.category == 2)) = lv') (hd : decode cc pc = .ok (.astore i, 2)) (k : fh_V X R nL z K M (pc + 2) lv' st) : fh_V X R nL z K M pc lv (va_rf x :: st) := by
  obtain ⟨p, l, e, s, m, args, below, meth, c, D, A, Q⟩ := X
  cases x with
  | none => exact fun H locs ls hP hz hS hA hl => lv_astoreN C.1 C.2.1 hd hl hn hl0 (fun ls hl => (k H locs ls hP hz hS hA hl))
  | some x => exact fun H locs ls hP hz hS hA hl => lv_astore C.1 C.2.1 hd hl hn hl0 (fun ls hl => (k H locs ls hP hz hS hA hl))
theorem fv_iinc {X : fh_X} {R : Room} {nL : Nat} {z : Nat × Nat × Nat} {K : fh_K} {M : fh_M} {pc : Nat} {lv : List (Nat × Value)} {st : List Value} {cc : ByteArray} {own : String} (C : fh_C X nL cc own) {i : Nat} {n : Int} {x v : Int32} {lv' : List (Nat × Value)} (j : Nat) (hj : lv[j]? = some (i, .int x)) (hv : x + Int32.ofInt n = v) (hn : i < nL) (hl0 : (i, Value.int v) :: lv.filter (fun q => !(q.1 == i) && !(q.1 + 1 == i && q.2.category == 2)) = lv') (hd : decode cc pc = .ok (.iinc i n, 3)) (k : fh_V X R nL z K M (pc + 3) lv' st) : fh_V X R nL z K M pc lv st := by
  obtain ⟨p, l, e, s, m, args, below, meth, c, D, A, Q⟩ := X
  exact fun H locs ls hP hz hS hA hl => lv_iinc C.1 C.2.1 hd hl hj hv hn hl0 (fun ls hl => (k H locs ls hP hz hS hA hl))
theorem fv_iadd {X : fh_X} {R : Room} {nL : Nat} {z : Nat × Nat × Nat} {K : fh_K} {M : fh_M} {pc : Nat} {lv : List (Nat × Value)} {st : List Value} {cc : ByteArray} {own : String} (C : fh_C X nL cc own) {x y : Int32} (hd : decode cc pc = .ok (.iadd, 1)) (k : fh_V X R nL z K M (pc + 1) lv (.int (x + y) :: st)) : fh_V X R nL z K M pc lv (.int y :: .int x :: st) := by
  obtain ⟨p, l, e, s, m, args, below, meth, c, D, A, Q⟩ := X
  exact fun H locs ls hP hz hS hA hl => lv_iadd C.1 C.2.1 hd (k H locs ls hP hz hS hA hl)
theorem fv_isub {X : fh_X} {R : Room} {nL : Nat} {z : Nat × Nat × Nat} {K : fh_K} {M : fh_M} {pc : Nat} {lv : List (Nat × Value)} {st : List Value} {cc : ByteArray} {own : String} (C : fh_C X nL cc own) {x y : Int32} (hd : decode cc pc = .ok (.isub, 1)) (k : fh_V X R nL z K M (pc + 1) lv (.int (x - y) :: st)) : fh_V X R nL z K M pc lv (.int y :: .int x :: st) := by
  obtain ⟨p, l, e, s, m, args, below, meth, c, D, A, Q⟩ := X
  exact fun H locs ls hP hz hS hA hl => lv_isub C.1 C.2.1 hd (k H locs ls hP hz hS hA hl)
theorem fv_imul {X : fh_X} {R : Room} {nL : Nat} {z : Nat × Nat × Nat} {K : fh_K} {M : fh_M} {pc : Nat} {lv : List (Nat × Value)} {st : List Value} {cc : ByteArray} {own : String} (C : fh_C X nL cc own) {x y : Int32} (hd : decode cc pc = .ok (.imul, 1)) (k : fh_V X R nL z K M (pc + 1) lv (.int (x * y) :: st)) : fh_V X R nL z K M pc lv (.int y :: .int x :: st) := by
  obtain ⟨p, l, e, s, m, args, below, meth, c, D, A, Q⟩ := X
  exact fun H locs ls hP hz hS hA hl => lv_imul C.1 C.2.1 hd (k H locs ls hP hz hS hA hl)
theorem fv_iand {X : fh_X} {R : Room} {nL : Nat} {z : Nat × Nat × Nat} {K : fh_K} {M : fh_M} {pc : Nat} {lv : List (Nat × Value)} {st : List Value} {cc : ByteArray} {own : String} (C : fh_C X nL cc own) {x y : Int32} (hd : decode cc pc = .ok (.iand, 1)) (k : fh_V X R nL z K M (pc + 1) lv (.int (x &&& y) :: st)) : fh_V X R nL z K M pc lv (.int y :: .int x :: st) := by
  obtain ⟨p, l, e, s, m, args, below, meth, c, D, A, Q⟩ := X
  exact fun H locs ls hP hz hS hA hl => lv_iand C.1 C.2.1 hd (k H locs ls hP hz hS hA hl)
theorem fv_ior {X : fh_X} {R : Room} {nL : Nat} {z : Nat × Nat × Nat} {K : fh_K} {M : fh_M} {pc : Nat} {lv : List (Nat × Value)} {st : List Value} {cc : ByteArray} {own : String} (C : fh_C X nL cc own) {x y : Int32} (hd : decode cc pc = .ok (.ior, 1)) (k : fh_V X R nL z K M (pc + 1) lv (.int (x ||| y) :: st)) : fh_V X R nL z K M pc lv (.int y :: .int x :: st) := by
  obtain ⟨p, l, e, s, m, args, below, meth, c, D, A, Q⟩ := X
  exact fun H locs ls hP hz hS hA hl => lv_ior C.1 C.2.1 hd (k H locs ls hP hz hS hA hl)
theorem fv_ixor {X : fh_X} {R : Room} {nL : Nat} {z : Nat × Nat × Nat} {K : fh_K} {M : fh_M} {pc : Nat} {lv : List (Nat × Value)} {st : List Value} {cc : ByteArray} {own : String} (C : fh_C X nL cc own) {x y : Int32} (hd : decode cc pc = .ok (.ixor, 1)) (k : fh_V X R nL z K M (pc + 1) lv (.int (x ^^^ y) :: st)) : fh_V X R nL z K M pc lv (.int y :: .int x :: st) := by
  obtain ⟨p, l, e, s, m, args, below, meth, c, D, A, Q⟩ := X
  exact fun H locs ls hP hz hS hA hl => lv_ixor C.1 C.2.1 hd (k H locs ls hP hz hS hA hl)
theorem fv_ishl {X : fh_X} {R : Room} {nL : Nat} {z : Nat × Nat × Nat} {K : fh_K} {M : fh_M} {pc : Nat} {lv : List (Nat × Value)} {st : List Value} {cc : ByteArray} {own : String} (C : fh_C X nL cc own) {x y : Int32} (hd : decode cc pc = .ok (.ishl, 1)) (k : fh_V X R nL z K M (pc + 1) lv (.int (x <<< (y &&& 31)) :: st)) : fh_V X R nL z K M pc lv (.int y :: .int x :: st) := by
  obtain ⟨p, l, e, s, m, args, below, meth, c, D, A, Q⟩ := X
  exact fun H locs ls hP hz hS hA hl => lv_ishl C.1 C.2.1 hd (k H locs ls hP hz hS hA hl)
theorem fv_ishr {X : fh_X} {R : Room} {nL : Nat} {z : Nat × Nat × Nat} {K : fh_K} {M : fh_M} {pc : Nat} {lv : List (Nat × Value)} {st : List Value} {cc : ByteArray} {own : String} (C : fh_C X nL cc own) {x y : Int32} (hd : decode cc pc = .ok (.ishr, 1)) (k : fh_V X R nL z K M (pc + 1) lv (.int (x >>> (y &&& 31)) :: st)) : fh_V X R nL z K M pc lv (.int y :: .int x :: st) := by
  obtain ⟨p, l, e, s, m, args, below, meth, c, D, A, Q⟩ := X
  exact fun H locs ls hP hz hS hA hl => lv_ishr C.1 C.2.1 hd (k H locs ls hP hz hS hA hl)
theorem fv_irem {X : fh_X} {R : Room} {nL : Nat} {z : Nat × Nat × Nat} {K : fh_K} {M : fh_M} {pc : Nat} {lv : List (Nat × Value)} {st : List Value} {cc : ByteArray} {own : String} (C : fh_C X nL cc own) {x y : Int32} (hne : ¬ y = 0) (hd : decode cc pc = .ok (.irem, 1)) (k : fh_V X R nL z K M (pc + 1) lv (.int (x - x / y * y) :: st)) : fh_V X R nL z K M pc lv (.int y :: .int x :: st) := by
  obtain ⟨p, l, e, s, m, args, below, meth, c, D, A, Q⟩ := X
  exact fun H locs ls hP hz hS hA hl => lv_irem C.1 C.2.1 hd hne (k H locs ls hP hz hS hA hl)
theorem fv_ladd {X : fh_X} {R : Room} {nL : Nat} {z : Nat × Nat × Nat} {K : fh_K} {M : fh_M} {pc : Nat} {lv : List (Nat × Value)} {st : List Value} {cc : ByteArray} {own : String} (C : fh_C X nL cc own) {x y : Int64} (hd : decode cc pc = .ok (.ladd, 1)) (k : fh_V X R nL z K M (pc + 1) lv (.long (x + y) :: st)) : fh_V X R nL z K M pc lv (.long y :: .long x :: st) := by
  obtain ⟨p, l, e, s, m, args, below, meth, c, D, A, Q⟩ := X
  exact fun H locs ls hP hz hS hA hl => lv_ladd C.1 C.2.1 hd (k H locs ls hP hz hS hA hl)
theorem fv_land {X : fh_X} {R : Room} {nL : Nat} {z : Nat × Nat × Nat} {K : fh_K} {M : fh_M} {pc : Nat} {lv : List (Nat × Value)} {st : List Value} {cc : ByteArray} {own : String} (C : fh_C X nL cc own) {x y : Int64} (hd : decode cc pc = .ok (.land, 1)) (k : fh_V X R nL z K M (pc + 1) lv (.long (x &&& y) :: st)) : fh_V X R nL z K M pc lv (.long y :: .long x :: st) := by
  obtain ⟨p, l, e, s, m, args, below, meth, c, D, A, Q⟩ := X
  exact fun H locs ls hP hz hS hA hl => lv_land C.1 C.2.1 hd (k H locs ls hP hz hS hA hl)
theorem fv_lor {X : fh_X} {R : Room} {nL : Nat} {z : Nat × Nat × Nat} {K : fh_K} {M : fh_M} {pc : Nat} {lv : List (Nat × Value)} {st : List Value} {cc : ByteArray} {own : String} (C : fh_C X nL cc own) {x y : Int64} (hd : decode cc pc = .ok (.lor, 1)) (k : fh_V X R nL z K M (pc + 1) lv (.long (x ||| y) :: st)) : fh_V X R nL z K M pc lv (.long y :: .long x :: st) := by
  obtain ⟨p, l, e, s, m, args, below, meth, c, D, A, Q⟩ := X
  exact fun H locs ls hP hz hS hA hl => lv_lor C.1 C.2.1 hd (k H locs ls hP hz hS hA hl)
theorem fv_lshl {X : fh_X} {R : Room} {nL : Nat} {z : Nat × Nat × Nat} {K : fh_K} {M : fh_M} {pc : Nat} {lv : List (Nat × Value)} {st : List Value} {cc : ByteArray} {own : String} (C : fh_C X nL cc own) {x : Int64} {y : Int32} (hd : decode cc pc = .ok (.lshl, 1)) (k : fh_V X R nL z K M (pc + 1) lv (.long (x <<< (y.toInt64 &&& 63)) :: st)) : fh_V X R nL z K M pc lv (.int y :: .long x :: st) := by
  obtain ⟨p, l, e, s, m, args, below, meth, c, D, A, Q⟩ := X
  exact fun H locs ls hP hz hS hA hl => lv_lshl C.1 C.2.1 hd rfl (k H locs ls hP hz hS hA hl)
theorem fv_lshr {X : fh_X} {R : Room} {nL : Nat} {z : Nat × Nat × Nat} {K : fh_K} {M : fh_M} {pc : Nat} {lv : List (Nat × Value)} {st : List Value} {cc : ByteArray} {own : String} (C : fh_C X nL cc own) {x : Int64} {y : Int32} (hd : decode cc pc = .ok (.lshr, 1)) (k : fh_V X R nL z K M (pc + 1) lv (.long (x >>> (y.toInt64 &&& 63)) :: st)) : fh_V X R nL z K M pc lv (.int y :: .long x :: st) := by
  obtain ⟨p, l, e, s, m, args, below, meth, c, D, A, Q⟩ := X
  exact fun H locs ls hP hz hS hA hl => lv_lshr C.1 C.2.1 hd rfl (k H locs ls hP hz hS hA hl)
theorem fv_lcmp {X : fh_X} {R : Room} {nL : Nat} {z : Nat × Nat × Nat} {K : fh_K} {M : fh_M} {pc : Nat} {lv : List (Nat × Value)} {st : List Value} {cc : ByteArray} {own : String} (C : fh_C X nL cc own) {x y : Int64} (hd : decode cc pc = .ok (.lcmp, 1)) (k : fh_V X R nL z K M (pc + 1) lv (.int (lg_cmp x y) :: st)) : fh_V X R nL z K M pc lv (.long y :: .long x :: st) := by
  obtain ⟨p, l, e, s, m, args, below, meth, c, D, A, Q⟩ := X
  exact fun H locs ls hP hz hS hA hl => W.lcmp C.1 C.2.1 hd (k H locs ls hP hz hS hA hl)
theorem fv_i2l {X : fh_X} {R : Room} {nL : Nat} {z : Nat × Nat × Nat} {K : fh_K} {M : fh_M} {pc : Nat} {lv : List (Nat × Value)} {st : List Value} {cc : ByteArray} {own : String} (C : fh_C X nL cc own) {x : Int32} (hd : decode cc pc = .ok (.i2l, 1)) (k : fh_V X R nL z K M (pc + 1) lv (.long x.toInt64 :: st)) : fh_V X R nL z K M pc lv (.int x :: st) := by
  obtain ⟨p, l, e, s, m, args, below, meth, c, D, A, Q⟩ := X
  exact fun H locs ls hP hz hS hA hl => lv_i2l C.1 C.2.1 hd rfl (k H locs ls hP hz hS hA hl)
theorem fv_l2i {X : fh_X} {R : Room} {nL : Nat} {z : Nat × Nat × Nat} {K : fh_K} {M : fh_M} {pc : Nat} {lv : List (Nat × Value)} {st : List Value} {cc : ByteArray} {own : String} (C : fh_C X nL cc own) {x : Int64} (hd : decode cc pc = .ok (.l2i, 1)) (k : fh_V X R nL z K M (pc + 1) lv (.int x.toInt32 :: st)) : fh_V X R nL z K M pc lv (.long x :: st) := by
  obtain ⟨p, l, e, s, m, args, below, meth, c, D, A, Q⟩ := X
  exact fun H locs ls hP hz hS hA hl => lv_l2i C.1 C.2.1 hd rfl (k H locs ls hP hz hS hA hl)
theorem fv_i2b {X : fh_X} {R : Room} {nL : Nat} {z : Nat × Nat × Nat} {K : fh_K} {M : fh_M} {pc : Nat} {lv : List (Nat × Value)} {st : List Value} {cc : ByteArray} {own : String} (C : fh_C X nL cc own) {x : Int32} (hd : decode cc pc = .ok (.i2b, 1)) (k : fh_V X R nL z K M (pc + 1) lv (.int x.toInt8.toInt32 :: st)) : fh_V X R nL z K M pc lv (.int x :: st) := by
  obtain ⟨p, l, e, s, m, args, below, meth, c, D, A, Q⟩ := X
  exact fun H locs ls hP hz hS hA hl => lv_i2b C.1 C.2.1 hd rfl (k H locs ls hP hz hS hA hl)
theorem fv_dupi {X : fh_X} {R : Room} {nL : Nat} {z : Nat × Nat × Nat} {K : fh_K} {M : fh_M} {pc : Nat} {lv : List (Nat × Value)} {st : List Value} {cc : ByteArray} {own : String} (C : fh_C X nL cc own) {x : Int32} (hd : decode cc pc = .ok (.dup, 1)) (k : fh_V X R nL z K M (pc + 1) lv (.int x :: .int x :: st)) : fh_V X R nL z K M pc lv (.int x :: st) := by
  obtain ⟨p, l, e, s, m, args, below, meth, c, D, A, Q⟩ := X
  exact fun H locs ls hP hz hS hA hl => lv_dup C.1 C.2.1 hd rfl (k H locs ls hP hz hS hA hl)
theorem fv_dupr {X : fh_X} {R : Room} {nL : Nat} {z : Nat × Nat × Nat} {K : fh_K} {M : fh_M} {pc : Nat} {lv : List (Nat × Value)} {st : List Value} {cc : ByteArray} {own : String} (C : fh_C X nL cc own) {x : Option Nat} (hd : decode cc pc = .ok (.dup, 1)) (k : fh_V X R nL z K M (pc + 1) lv (va_rf x :: va_rf x :: st)) : fh_V X R nL z K M pc lv (va_rf x :: st) := by
  obtain ⟨p, l, e, s, m, args, below, meth, c, D, A, Q⟩ := X
  exact fun H locs ls hP hz hS hA hl => lv_dup C.1 C.2.1 hd (va_rf_cat x) (k H locs ls hP hz hS hA hl)
theorem fv_pop {X : fh_X} {R : Room} {nL : Nat} {z : Nat × Nat × Nat} {K : fh_K} {M : fh_M} {pc : Nat} {lv : List (Nat × Value)} {st : List Value} {cc : ByteArray} {own : String} (C : fh_C X nL cc own) {x : Int32} (hd : decode cc pc = .ok (.pop, 1)) (k : fh_V X R nL z K M (pc + 1) lv st) : fh_V X R nL z K M pc lv (.int x :: st) := by
  obtain ⟨p, l, e, s, m, args, below, meth, c, D, A, Q⟩ := X
  exact fun H locs ls hP hz hS hA hl => lv_pop C.1 C.2.1 hd rfl (k H locs ls hP hz hS hA hl)
theorem fv_icmp_eq {X : fh_X} {R : Room} {nL : Nat} {z : Nat × Nat × Nat} {K : fh_K} {M : fh_M} {pc : Nat} {lv : List (Nat × Value)} {st : List Value} {cc : ByteArray} {own : String} (C : fh_C X nL cc own) {x y : Int32} {off : Int} (tgt : Nat) (ht : (pc : Int) + off = (tgt : Int)) (hd : decode cc pc = .ok (.if_icmp .eq off, 3)) (kt : x = y → fh_V X R nL z K M tgt lv st) (kf : ¬ x = y → fh_V X R nL z K M (pc + 3) lv st) : fh_V X R nL z K M pc lv (.int y :: .int x :: st) := by
  obtain ⟨p, l, e, s, m, args, below, meth, c, D, A, Q⟩ := X
  exact fun H locs ls hP hz hS hA hl => lv_icmp_eq C.1 C.2.1 hd ht (fun q => kt q H locs ls hP hz hS hA hl) (fun q => kf q H locs ls hP hz hS hA hl)
theorem fv_icmp_ne {X : fh_X} {R : Room} {nL : Nat} {z : Nat × Nat × Nat} {K : fh_K} {M : fh_M} {pc : Nat} {lv : List (Nat × Value)} {st : List Value} {cc : ByteArray} {own : String} (C : fh_C X nL cc own) {x y : Int32} {off : Int} (tgt : Nat) (ht : (pc : Int) + off = (tgt : Int)) (hd : decode cc pc = .ok (.if_icmp .ne off, 3)) (kt : ¬ x = y → fh_V X R nL z K M tgt lv st) (kf : x = y → fh_V X R nL z K M (pc + 3) lv st) : fh_V X R nL z K M pc lv (.int y :: .int x :: st) := by
  obtain ⟨p, l, e, s, m, args, below, meth, c, D, A, Q⟩ := X
  exact fun H locs ls hP hz hS hA hl => lv_icmp_ne C.1 C.2.1 hd ht (fun q => kt q H locs ls hP hz hS hA hl) (fun q => kf q H locs ls hP hz hS hA hl)
theorem fv_icmp_lt {X : fh_X} {R : Room} {nL : Nat} {z : Nat × Nat × Nat} {K : fh_K} {M : fh_M} {pc : Nat} {lv : List (Nat × Value)} {st : List Value} {cc : ByteArray} {own : String} (C : fh_C X nL cc own) {x y : Int32} {off : Int} (tgt : Nat) (ht : (pc : Int) + off = (tgt : Int)) (hd : decode cc pc = .ok (.if_icmp .lt off, 3)) (kt : x < y → fh_V X R nL z K M tgt lv st) (kf : ¬ x < y → fh_V X R nL z K M (pc + 3) lv st) : fh_V X R nL z K M pc lv (.int y :: .int x :: st) := by
  obtain ⟨p, l, e, s, m, args, below, meth, c, D, A, Q⟩ := X
  exact fun H locs ls hP hz hS hA hl => lv_icmp_lt C.1 C.2.1 hd ht (fun q => kt q H locs ls hP hz hS hA hl) (fun q => kf q H locs ls hP hz hS hA hl)
theorem fv_icmp_ge {X : fh_X} {R : Room} {nL : Nat} {z : Nat × Nat × Nat} {K : fh_K} {M : fh_M} {pc : Nat} {lv : List (Nat × Value)} {st : List Value} {cc : ByteArray} {own : String} (C : fh_C X nL cc own) {x y : Int32} {off : Int} (tgt : Nat) (ht : (pc : Int) + off = (tgt : Int)) (hd : decode cc pc = .ok (.if_icmp .ge off, 3)) (kt : y ≤ x → fh_V X R nL z K M tgt lv st) (kf : ¬ y ≤ x → fh_V X R nL z K M (pc + 3) lv st) : fh_V X R nL z K M pc lv (.int y :: .int x :: st) := by
  obtain ⟨p, l, e, s, m, args, below, meth, c, D, A, Q⟩ := X
  exact fun H locs ls hP hz hS hA hl => lv_icmp_ge C.1 C.2.1 hd ht (fun q => kt q H locs ls hP hz hS hA hl) (fun q => kf q H locs ls hP hz hS hA hl)
theorem fv_icmp_gt {X : fh_X} {R : Room} {nL : Nat} {z : Nat × Nat × Nat} {K : fh_K} {M : fh_M} {pc : Nat} {lv : List (Nat × Value)} {st : List Value} {cc : ByteArray} {own : String} (C : fh_C X nL cc own) {x y : Int32} {off : Int} (tgt : Nat) (ht : (pc : Int) + off = (tgt : Int)) (hd : decode cc pc = .ok (.if_icmp .gt off, 3)) (kt : y < x → fh_V X R nL z K M tgt lv st) (kf : ¬ y < x → fh_V X R nL z K M (pc + 3) lv st) : fh_V X R nL z K M pc lv (.int y :: .int x :: st) := by
  obtain ⟨p, l, e, s, m, args, below, meth, c, D, A, Q⟩ := X
  exact fun H locs ls hP hz hS hA hl => lv_icmp_gt C.1 C.2.1 hd ht (fun q => kt q H locs ls hP hz hS hA hl) (fun q => kf q H locs ls hP hz hS hA hl)
theorem fv_icmp_le {X : fh_X} {R : Room} {nL : Nat} {z : Nat × Nat × Nat} {K : fh_K} {M : fh_M} {pc : Nat} {lv : List (Nat × Value)} {st : List Value} {cc : ByteArray} {own : String} (C : fh_C X nL cc own) {x y : Int32} {off : Int} (tgt : Nat) (ht : (pc : Int) + off = (tgt : Int)) (hd : decode cc pc = .ok (.if_icmp .le off, 3)) (kt : x ≤ y → fh_V X R nL z K M tgt lv st) (kf : ¬ x ≤ y → fh_V X R nL z K M (pc + 3) lv st) : fh_V X R nL z K M pc lv (.int y :: .int x :: st) := by
  obtain ⟨p, l, e, s, m, args, below, meth, c, D, A, Q⟩ := X
  exact fun H locs ls hP hz hS hA hl => lv_icmp_le C.1 C.2.1 hd ht (fun q => kt q H locs ls hP hz hS hA hl) (fun q => kf q H locs ls hP hz hS hA hl)
theorem fv_if_eq {X : fh_X} {R : Room} {nL : Nat} {z : Nat × Nat × Nat} {K : fh_K} {M : fh_M} {pc : Nat} {lv : List (Nat × Value)} {st : List Value} {cc : ByteArray} {own : String} (C : fh_C X nL cc own) {x : Int32} {off : Int} (tgt : Nat) (ht : (pc : Int) + off = (tgt : Int)) (hd : decode cc pc = .ok (.ifCond .eq off, 3)) (kt : x = 0 → fh_V X R nL z K M tgt lv st) (kf : ¬ x = 0 → fh_V X R nL z K M (pc + 3) lv st) : fh_V X R nL z K M pc lv (.int x :: st) := by
  obtain ⟨p, l, e, s, m, args, below, meth, c, D, A, Q⟩ := X
  exact fun H locs ls hP hz hS hA hl => lv_if_eq C.1 C.2.1 hd ht (fun q => kt q H locs ls hP hz hS hA hl) (fun q => kf q H locs ls hP hz hS hA hl)
theorem fv_if_ne {X : fh_X} {R : Room} {nL : Nat} {z : Nat × Nat × Nat} {K : fh_K} {M : fh_M} {pc : Nat} {lv : List (Nat × Value)} {st : List Value} {cc : ByteArray} {own : String} (C : fh_C X nL cc own) {x : Int32} {off : Int} (tgt : Nat) (ht : (pc : Int) + off = (tgt : Int)) (hd : decode cc pc = .ok (.ifCond .ne off, 3)) (kt : ¬ x = 0 → fh_V X R nL z K M tgt lv st) (kf : x = 0 → fh_V X R nL z K M (pc + 3) lv st) : fh_V X R nL z K M pc lv (.int x :: st) := by
  obtain ⟨p, l, e, s, m, args, below, meth, c, D, A, Q⟩ := X
  exact fun H locs ls hP hz hS hA hl => lv_if_ne C.1 C.2.1 hd ht (fun q => kt q H locs ls hP hz hS hA hl) (fun q => kf q H locs ls hP hz hS hA hl)
theorem fv_if_lt {X : fh_X} {R : Room} {nL : Nat} {z : Nat × Nat × Nat} {K : fh_K} {M : fh_M} {pc : Nat} {lv : List (Nat × Value)} {st : List Value} {cc : ByteArray} {own : String} (C : fh_C X nL cc own) {x : Int32} {off : Int} (tgt : Nat) (ht : (pc : Int) + off = (tgt : Int)) (hd : decode cc pc = .ok (.ifCond .lt off, 3)) (kt : x < 0 → fh_V X R nL z K M tgt lv st) (kf : ¬ x < 0 → fh_V X R nL z K M (pc + 3) lv st) : fh_V X R nL z K M pc lv (.int x :: st) := by
  obtain ⟨p, l, e, s, m, args, below, meth, c, D, A, Q⟩ := X
  exact fun H locs ls hP hz hS hA hl => lv_if_lt C.1 C.2.1 hd ht (fun q => kt q H locs ls hP hz hS hA hl) (fun q => kf q H locs ls hP hz hS hA hl)
theorem fv_if_ge {X : fh_X} {R : Room} {nL : Nat} {z : Nat × Nat × Nat} {K : fh_K} {M : fh_M} {pc : Nat} {lv : List (Nat × Value)} {st : List Value} {cc : ByteArray} {own : String} (C : fh_C X nL cc own) {x : Int32} {off : Int} (tgt : Nat) (ht : (pc : Int) + off = (tgt : Int)) (hd : decode cc pc = .ok (.ifCond .ge off, 3)) (kt : 0 ≤ x → fh_V X R nL z K M tgt lv st) (kf : ¬ 0 ≤ x → fh_V X R nL z K M (pc + 3) lv st) : fh_V X R nL z K M pc lv (.int x :: st) := by
  obtain ⟨p, l, e, s, m, args, below, meth, c, D, A, Q⟩ := X
  exact fun H locs ls hP hz hS hA hl => lv_if_ge C.1 C.2.1 hd ht (fun q => kt q H locs ls hP hz hS hA hl) (fun q => kf q H locs ls hP hz hS hA hl)
theorem fv_if_gt {X : fh_X} {R : Room} {nL : Nat} {z : Nat × Nat × Nat} {K : fh_K} {M : fh_M} {pc : Nat} {lv : List (Nat × Value)} {st : List Value} {cc : ByteArray} {own : String} (C : fh_C X nL cc own) {x : Int32} {off : Int} (tgt : Nat) (ht : (pc : Int) + off = (tgt : Int)) (hd : decode cc pc = .ok (.ifCond .gt off, 3)) (kt : 0 < x → fh_V X R nL z K M tgt lv st) (kf : ¬ 0 < x → fh_V X R nL z K M (pc + 3) lv st) : fh_V X R nL z K M pc lv (.int x :: st) := by
  obtain ⟨p, l, e, s, m, args, below, meth, c, D, A, Q⟩ := X
  exact fun H locs ls hP hz hS hA hl => lv_if_gt C.1 C.2.1 hd ht (fun q => kt q H locs ls hP hz hS hA hl) (fun q => kf q H locs ls hP hz hS hA hl)
theorem fv_if_le {X : fh_X} {R : Room} {nL : Nat} {z : Nat × Nat × Nat} {K : fh_K} {M : fh_M} {pc : Nat} {lv : List (Nat × Value)} {st : List Value} {cc : ByteArray} {own : String} (C : fh_C X nL cc own) {x : Int32} {off : Int} (tgt : Nat) (ht : (pc : Int) + off = (tgt : Int)) (hd : decode cc pc = .ok (.ifCond .le off, 3)) (kt : x ≤ 0 → fh_V X R nL z K M tgt lv st) (kf : ¬ x ≤ 0 → fh_V X R nL z K M (pc + 3) lv st) : fh_V X R nL z K M pc lv (.int x :: st) := by
  obtain ⟨p, l, e, s, m, args, below, meth, c, D, A, Q⟩ := X
  exact fun H locs ls hP hz hS hA hl => lv_if_le C.1 C.2.1 hd ht (fun q => kt q H locs ls hP hz hS hA hl) (fun q => kf q H locs ls hP hz hS hA hl)
theorem fv_goto {X : fh_X} {R : Room} {nL : Nat} {z : Nat × Nat × Nat} {K : fh_K} {M : fh_M} {pc : Nat} {lv : List (Nat × Value)} {st : List Value} {cc : ByteArray} {own : String} (C : fh_C X nL cc own) {off : Int} (tgt : Nat) (ht : (pc : Int) + off = (tgt : Int)) (hd : decode cc pc = .ok (.goto off, 3)) (k : fh_V X R nL z K M tgt lv st) : fh_V X R nL z K M pc lv st := by
  obtain ⟨p, l, e, s, m, args, below, meth, c, D, A, Q⟩ := X
  exact fun H locs ls hP hz hS hA hl => lv_goto C.1 C.2.1 hd ht (k H locs ls hP hz hS hA hl)
theorem fv_ifnull {X : fh_X} {R : Room} {nL : Nat} {z : Nat × Nat × Nat} {K : fh_K} {M : fh_M} {pc : Nat} {lv : List (Nat × Value)} {st : List Value} {cc : ByteArray} {own : String} (C : fh_C X nL cc own) {x : Option Nat} {off : Int} (tgt : Nat) (ht : (pc : Int) + off = (tgt : Int)) (hd : decode cc pc = .ok (.ifnull off, 3)) (kt : x = none → fh_V X R nL z K M tgt lv st) (kf : ¬ x = none → fh_V X R nL z K M (pc + 3) lv st) : fh_V X R nL z K M pc lv (va_rf x :: st) := by
  obtain ⟨p, l, e, s, m, args, below, meth, c, D, A, Q⟩ := X
  cases x with
  | none => exact fun H locs ls hP hz hS hA hl => lv_ifnullN C.1 C.2.1 hd ht (kt rfl H locs ls hP hz hS hA hl)
  | some x => exact fun H locs ls hP hz hS hA hl => lv_ifnull C.1 C.2.1 hd (kf (fun q => by cases q) H locs ls hP hz hS hA hl)
theorem fv_ifnonnull {X : fh_X} {R : Room} {nL : Nat} {z : Nat × Nat × Nat} {K : fh_K} {M : fh_M} {pc : Nat} {lv : List (Nat × Value)} {st : List Value} {cc : ByteArray} {own : String} (C : fh_C X nL cc own) {x : Option Nat} {off : Int} (tgt : Nat) (ht : (pc : Int) + off = (tgt : Int)) (hd : decode cc pc = .ok (.ifnonnull off, 3)) (kt : ¬ x = none → fh_V X R nL z K M tgt lv st) (kf : x = none → fh_V X R nL z K M (pc + 3) lv st) : fh_V X R nL z K M pc lv (va_rf x :: st) := by
  obtain ⟨p, l, e, s, m, args, below, meth, c, D, A, Q⟩ := X
  cases x with
  | none => exact fun H locs ls hP hz hS hA hl => lv_ifnonnullN C.1 C.2.1 hd (kf rfl H locs ls hP hz hS hA hl)
  | some x => exact fun H locs ls hP hz hS hA hl => lv_ifnonnull C.1 C.2.1 hd ht (kt (fun q => by cases q) H locs ls hP hz hS hA hl)
theorem fv_tsOut {X : fh_X} {R : Room} {nL : Nat} {z : Nat × Nat × Nat} {K : fh_K} {M : fh_M} {pc : Nat} {lv : List (Nat × Value)} {st : List Value} {cc : ByteArray} {own : String} (C : fh_C X nL cc own) {dflt lo hi : Int} {offs : Array Int} {len : Nat} {x : Int32} (tgt : Nat) (h : x.toInt < lo ∨ hi < x.toInt) (ht : (pc : Int) + dflt = (tgt : Int)) (hd : decode cc pc = .ok (.tableswitch dflt lo hi offs, len)) (k : fh_V X R nL z K M tgt lv st) : fh_V X R nL z K M pc lv (.int x :: st) := by
  obtain ⟨p, l, e, s, m, args, below, meth, c, D, A, Q⟩ := X
  exact fun H locs ls hP hz hS hA hl => lv_tableOut C.1 C.2.1 hd h ht (k H locs ls hP hz hS hA hl)
theorem fv_tsIn {X : fh_X} {R : Room} {nL : Nat} {z : Nat × Nat × Nat} {K : fh_K} {M : fh_M} {pc : Nat} {lv : List (Nat × Value)} {st : List Value} {cc : ByteArray} {own : String} (C : fh_C X nL cc own) {dflt lo hi : Int} {offs : Array Int} {len : Nat} {x : Int32} {off : Int} (tgt : Nat) (h1 : ¬ x.toInt < lo) (h2 : ¬ hi < x.toInt) (ho : offs[(x.toInt - lo).toNat]? = some off) (ht : (pc : Int) + off = (tgt : Int)) (hd : decode cc pc = .ok (.tableswitch dflt lo hi offs, len)) (k : fh_V X R nL z K M tgt lv st) : fh_V X R nL z K M pc lv (.int x :: st) := by
  obtain ⟨p, l, e, s, m, args, below, meth, c, D, A, Q⟩ := X
  exact fun H locs ls hP hz hS hA hl => lv_tableIn C.1 C.2.1 hd h1 h2 ho ht (k H locs ls hP hz hS hA hl)
theorem fv_sub {X : fh_X} {R : Room} {nL : Nat} {z : Nat × Nat × Nat} {K : fh_K} {M : fh_M} {pc : Nat} {lv : List (Nat × Value)} {st : List Value} {cc : ByteArray} {own : String} {lv' : List (Nat × Value)} (ks : List Nat) (hp : lv_pick lv ks = lv') (k : fh_V X R nL z K M pc lv' st) : fh_V X R nL z K M pc lv st := by
  obtain ⟨p, l, e, s, m, args, below, meth, c, D, A, Q⟩ := X
  exact fun H locs ls hP hz hS hA hl => k H locs ls hP hz hS hA (lv_sub hl ks hp)
end
section
def fh_fl (own : String) (index ci k t : Nat) (fin : Bool) (fty : FieldType) : Prop := ∃ (Cn : String) (T : u_T) (ty : Nat → FieldType) (N : Nat), vwCl[ci]? = some (Cn, T, N) ∧ (∀ w ∈ u_ws Cn T N, w ∈ fh_W) ∧ (∀ k, k < N → parseFieldDescriptor (T k).2.2.1 = some (ty k)) ∧ (∀ a, a < N → ∀ b, b < N → a ≠ b → (T a).2.1 ≠ (T b).2.1) ∧ ci < 12 ∧ k < N ∧ (fh_tab.getD ci []).length = N ∧ (fh_tab.getD ci [])[k]? = some t ∧ (T k).2.2.2 = fin ∧ ty k = fty ∧ (T k).1 = Cn ∧ Cond.fieldLink own index (T k).1 (T k).2.1 (T k).2.2.1 ∈ fh_W
theorem fh_fs_get {c k t : Nat} {M : fh_M} {a : Nat} (h : (fh_tab.getD c [])[k]? = some t) : (fh_fs c M a)[k]? = some (fh_fv M a k t) := by
  unfold fh_fs
  rw [List.getElem?_mapIdx, h]; rfl
theorem fh_fs_len (c : Nat) (M : fh_M) (a : Nat) : (fh_fs c M a).length = (fh_tab.getD c []).length := by
  unfold fh_fs; rw [List.length_mapIdx]
/-- one field is set -/
theorem fh_fs_set {c k t : Nat} {M M' : fh_M} {a : Nat} (h : (fh_tab.getD c [])[k]? = some t) (ho : ∀ j u, j ≠ k → fh_fv M' a j u = fh_fv M a j u) : (fh_fs c M a).set k (fh_fv M' a k t) = fh_fs c M' a := by
  apply List.ext_getElem?
  intro j
  rw [List.getElem?_set]
  have hk : k < (fh_tab.getD c []).length := (List.getElem?_eq_some_iff.mp h).1
  by_cases e : k = j
  · subst e
    rw [if_pos rfl, if_pos (by rw [fh_fs_len]; exact hk), fh_fs_get h]
  · rw [if_neg e]
    unfold fh_fs
    rw [List.getElem?_mapIdx, List.getElem?_mapIdx]
    cases (fh_tab.getD c [])[j]? with
    | none => rfl
    | some u => exact congrArg some (ho j u (fun q => e q.symm)).symm
theorem fh_get {p : Program} {l : Launch} {e : Env} {R : Room} {s : State} {m : MethodId} {args : Array Value} {below : List Frame} {meth : Method} {c : Code} {H : Heap} {locs : List Loc} {cells slots : Nat} {Q : State → Prop} {cc : ByteArray} {pc : Nat} {ls : Array Slot} {rest : List Value} {own : String} {D : fh_D} {K : fh_K} {M : fh_M} {a index ci k t : Nat} {fin : Bool} {fty : FieldType}
    (hx : p.tables.exec = Jvm.exec) (hb : c.code = cc) (hown : s.vm.findClass own = some m.cls) (hts : ∀ w ∈ fh_W, w.before args s = true) (hK : fh_Ks D s) (hF : fh_fl own index ci k t fin fty) (hP : fh_P D K M H) (hk : (K a).1 = ci + 1) (hd : decode cc pc = .ok (.getfield index, 3))
    (kk : W p l e R s m args below meth c H locs cells slots Q (F0 m (pc + 3) ls (fh_fv M a k t :: rest))) : W p l e R s m args below meth c H locs cells slots Q (F0 m pc ls (.ref a :: rest)) := by
  obtain ⟨Cn, T, ty, N, h1, h2, h3, h4, h5, h6, h7, h8, h9, h10, h11, h12⟩ := hF
  exact va_get (D := (D.1, D.2.1)) (ci := ci) hx hb hts h2 hown hK.1 (fh_one hP (by omega) (fh_cell_o hk h5)) 0 rfl h1 k h6 (hts _ h12) (fun _ q => q) (fh_fs_get h8) hd kk
theorem fh_put {p : Program} {l : Launch} {e : Env} {R : Room} {s : State} {m : MethodId} {args : Array Value} {below : List Frame} {meth : Method} {c : Code} {H : Heap} {locs : List Loc} {cells slots : Nat} {Q : State → Prop} {cc : ByteArray} {pc : Nat} {ls : Array Slot} {rest : List Value} {own : String} {D : fh_D} {K : fh_K} {M M' : fh_M} {A : Nat → Prop} {a index ci k t : Nat} {fin : Bool} {fty : FieldType}
    (hx : p.tables.exec = Jvm.exec) (hb : c.code = cc) (hown : s.vm.findClass own = some m.cls) (hts : ∀ w ∈ fh_W, w.before args s = true) (hK : fh_Ks D s) (hF : fh_fl own index ci k t fin fty) (hfin : fin = true → meth.name = "<init>" ∧ vwCl[ci]?.map (fun q => q.1) = some own) (hP : fh_P D K M H) (hS : va_S A s.heap H locs) (hA : A a) (hk : (K a).1 = ci + 1) (hn : narrow fty (fh_fv M' a k t) = fh_fv M' a k t) (hfit : fits fty (fh_fv M' a k t) = true) (ho : ∀ j u, j ≠ k → fh_fv M' a j u = fh_fv M a j u) (hM : ∀ b, b ≠ a → M.1 b = M'.1 b ∧ M.2.1 b = M'.2.1 b ∧ M.2.2 b = M'.2.2 b) (hd : decode cc pc = .ok (.putfield index, 3))
    (kk : ∀ (H1 : Heap) (locs1 : List Loc), fh_P D K M' H1 → H1.size = H.size → va_S A s.heap H1 locs1 → W p l e R s m args below meth c H1 locs1 cells slots Q (F0 m (pc + 3) ls rest)) : W p l e R s m args below meth c H locs cells slots Q (F0 m pc ls (fh_fv M' a k t :: .ref a :: rest)) := by
  obtain ⟨Cn, T, ty, N, hc, hin, hty, hnm, h5, hkN, h7, h8, h9, h10, h11, h12⟩ := hF
  have hat := hP a (by omega)
  rw [fh_cell_o hk h5] at hat
  have hl : k < (fh_fs ci M a).length := by rw [fh_fs_len, h7]; exact hkN
  have hap := va_apart (own := own) hts hin ty hty hnm hK.1 hc
  obtain ⟨r, h1, cell, q1, q2, q3, q4⟩ := hat
  have hr : r = (Cn, T, N) := Option.some.inj (h1.symm.trans hc)
  subst hr
  obtain ⟨hSl, hfc, kC, hkC, hkind⟩ := hK.1.1 ci _ hc
  obtain ⟨cf, kf, fi, f, hi, hsl⟩ := hSl k hkN
  have hlay := hts _ (hin _ (u_in_lay hkN))
  have hst := (u_facts hfc hkC (u_lays hts hin hkN) hi).1
  have hd2 : parseFieldDescriptor (T k).2.2.1 = some fty := by rw [hty k hkN, h10]
  have fin_ : ∀ H' : Heap, H'[a]? = some (cell.setSlot ((D.2.1) ci k) (fh_fv M' a k t)) → H'.size = H.size → (∀ q : Nat, q ≠ a → H'[q]? = H[q]?) → fh_P D K M' H' := by
    intro H' e1 e2 e3
    refine fh_P_write hP ?_ e3 hM
    rw [fh_cell_o hk h5, ← fh_fs_set h8 ho]
    exact ⟨_, hc, t_OB.to (V := updV (vp_V (fh_fs ci M a)) k (fh_fv M' a k t)) ⟨_, e1, q2, q3, t_set q4 hap hkN _⟩ (fun j _ => vp_updV_set hl _ j)⟩
  unfold u_lay at hlay
  cases fin with
  | false =>
    rw [if_neg (by rw [h9]; decide)] at hlay
    have h6 := u_store hfc hkC hkind hlay hi hd2 hn hfit
    refine W.putK hx hb (f := f) ⟨hown, hts _ h12, ⟨_, _, _, hi⟩, hst⟩ (by rw [q2]; exact h6) q1 q3 (by rw [hsl]; exact k2_hasslot (q4 k hkN)) rfl rfl hd fun H' e1 e2 e3 => ?_
    rw [hsl] at e1 ⊢
    exact kk H' _ (fin_ H' e1 e2 e3) e2 (hS.put e2 e3 hA)
  | true =>
    obtain ⟨hin2, hcn⟩ := hfin rfl
    rw [hc] at hcn
    have hdecl : (T k).1 = own := by rw [h11]; exact Option.some.inj hcn
    rw [if_pos h9] at hlay
    have hcf : m.cls = cf := by
      obtain ⟨_, _, c', _, _, _, -, -, hf', -, -, -, hown2, -⟩ := Cond.laysFinal_spec hlay
      have e1 : c' = cf := by have := hi.symm.trans hf'; simp at this; exact this.1.symm
      rw [hdecl] at hown2
      rw [← e1]; exact Option.some.inj (hown.symm.trans hown2)
    have h6 := u_fits hfc hkC hkind (Or.inr hlay) hi hd2 hn hfit
    refine W.putFinK hx hb hown (hts _ h12) hi hst hcf hin2 (by rw [q2]; exact h6) q1 q3 (by rw [hsl]; exact k2_hasslot (q4 k hkN)) rfl rfl hd fun H' e1 e2 e3 => ?_
    rw [hsl] at e1 ⊢
    exact kk H' _ (fin_ H' e1 e2 e3) e2 (hS.put e2 e3 hA)
theorem fv_getI {X : fh_X} {R : Room} {nL : Nat} {z : Nat × Nat × Nat} {K : fh_K} {M : fh_M} {pc : Nat} {lv : List (Nat × Value)} {st : List Value} {cc : ByteArray} {own : String} (C : fh_C X nL cc own) {r : Option Nat} {a index ci k : Nat} {fin : Bool} {fty : FieldType} (hF : fh_fl own index ci k 0 fin fty) (hr : r = some a) (hk : (K a).1 = ci + 1) (hd : decode cc pc = .ok (.getfield index, 3)) (kk : fh_V X R nL z K M (pc + 3) lv (.int (M.1 a k) :: st)) : fh_V X R nL z K M pc lv (va_rf r :: st) := by
  obtain ⟨p, l, e, s, m, args, below, meth, c, D, A, Q⟩ := X
  subst hr
  exact fun H locs ls hP hz hS hA hl => fh_get C.1 C.2.1 C.2.2.2.1 C.2.2.2.2.1 C.2.2.2.2.2.1 hF hP hk hd (kk H locs ls hP hz hS hA hl)
theorem fv_getJ {X : fh_X} {R : Room} {nL : Nat} {z : Nat × Nat × Nat} {K : fh_K} {M : fh_M} {pc : Nat} {lv : List (Nat × Value)} {st : List Value} {cc : ByteArray} {own : String} (C : fh_C X nL cc own) {r : Option Nat} {a index ci k : Nat} {fin : Bool} {fty : FieldType} (hF : fh_fl own index ci k 1 fin fty) (hr : r = some a) (hk : (K a).1 = ci + 1) (hd : decode cc pc = .ok (.getfield index, 3)) (kk : fh_V X R nL z K M (pc + 3) lv (.long (M.2.1 a k) :: st)) : fh_V X R nL z K M pc lv (va_rf r :: st) := by
  obtain ⟨p, l, e, s, m, args, below, meth, c, D, A, Q⟩ := X
  subst hr
  exact fun H locs ls hP hz hS hA hl => fh_get C.1 C.2.1 C.2.2.2.1 C.2.2.2.2.1 C.2.2.2.2.2.1 hF hP hk hd (kk H locs ls hP hz hS hA hl)
theorem fv_getR {X : fh_X} {R : Room} {nL : Nat} {z : Nat × Nat × Nat} {K : fh_K} {M : fh_M} {pc : Nat} {lv : List (Nat × Value)} {st : List Value} {cc : ByteArray} {own : String} (C : fh_C X nL cc own) {r : Option Nat} {a index ci k : Nat} {fin : Bool} {fty : FieldType} (hF : fh_fl own index ci k 2 fin fty) (hr : r = some a) (hk : (K a).1 = ci + 1) (hd : decode cc pc = .ok (.getfield index, 3)) (kk : fh_V X R nL z K M (pc + 3) lv (va_rf (M.2.2 a k) :: st)) : fh_V X R nL z K M pc lv (va_rf r :: st) := by
  obtain ⟨p, l, e, s, m, args, below, meth, c, D, A, Q⟩ := X
  subst hr
  exact fun H locs ls hP hz hS hA hl => fh_get C.1 C.2.1 C.2.2.2.1 C.2.2.2.2.1 C.2.2.2.2.2.1 hF hP hk hd (kk H locs ls hP hz hS hA hl)
theorem narrow_rf_o (r : Option Nat) (C : String) : narrow (.object C) (va_rf r) = va_rf r ∧ fits (.object C) (va_rf r) = true := by cases r <;> exact ⟨rfl, rfl⟩
theorem narrow_rf_a (r : Option Nat) (C : FieldType) : narrow (.array C) (va_rf r) = va_rf r ∧ fits (.array C) (va_rf r) = true := by cases r <;> exact ⟨rfl, rfl⟩
theorem narrow_z {v : Int32} (h : v = 0 ∨ v = 1) : narrow .boolean (.int v) = .int v ∧ fits .boolean (.int v) = true := by
  rcases h with rfl | rfl <;> exact ⟨rfl, rfl⟩
theorem narrow_i (v : Int32) : narrow .int (.int v) = .int v ∧ fits .int (.int v) = true := ⟨rfl, rfl⟩
theorem narrow_l (v : Int64) : narrow .long (.long v) = .long v ∧ fits .long (.long v) = true := ⟨rfl, rfl⟩
theorem fh_fv_fh_si_k (M : fh_M) (a k : Nat) (v : Int32) : fh_fv (fh_si M a k v) a k 0 = .int v := by simp [fh_fv, fh_si, fh_u]
theorem fh_fv_fh_si_o (M : fh_M) (a k : Nat) (v : Int32) (j u : Nat) (h : j ≠ k) : fh_fv (fh_si M a k v) a j u = fh_fv M a j u := by simp [fh_fv, fh_si, fh_u, h]
theorem fh_ne_fh_si (M : fh_M) (a k : Nat) (v : Int32) (b : Nat) (h : b ≠ a) : M.1 b = (fh_si M a k v).1 b ∧ M.2.1 b = (fh_si M a k v).2.1 b ∧ M.2.2 b = (fh_si M a k v).2.2 b := by
  refine ⟨?_, ?_, ?_⟩ <;> first | rfl | exact fh_u_ne h
theorem fv_putI {X : fh_X} {R : Room} {nL : Nat} {z : Nat × Nat × Nat} {K : fh_K} {M : fh_M} {pc : Nat} {lv : List (Nat × Value)} {st : List Value} {cc : ByteArray} {own : String} (C : fh_C X nL cc own) {r : Option Nat} {a index ci k : Nat} {fin : Bool} {fty : FieldType} {v : Int32} (hF : fh_fl own index ci k 0 false fty) (hr : r = some a) (hk : (K a).1 = ci + 1) (hn : narrow fty (.int v) = .int v ∧ fits fty (.int v) = true) (hd : decode cc pc = .ok (.putfield index, 3)) (kk : fh_V X R nL z K (fh_si M a k v) (pc + 3) lv st) : fh_V X R nL z K M pc lv (.int v :: va_rf r :: st) := by
  obtain ⟨p, l, e, s, m, args, below, meth, c, D, A, Q⟩ := X
  subst hr
  have e0 := fh_fv_fh_si_k M a k v
  intro H locs ls hP hz hS hA hl
  have := fh_put (M' := fh_si M a k v) (ls := ls) (rest := st) (pc := pc) (cells := z.2.1) (slots := z.2.2) (p := p) (l := l) (e := e) (R := R) (s := s) (m := m) (args := args) (below := below) (meth := meth) (c := c) (Q := Q) C.1 C.2.1 C.2.2.2.1 C.2.2.2.2.1 C.2.2.2.2.2.1 hF (fun q => by cases q) hP hS (hA a (by omega)) hk (by rw [e0]; exact hn.1) (by rw [e0]; exact hn.2) (fh_fv_fh_si_o M a k v) (fh_ne_fh_si M a k v) hd (fun H1 locs1 hP1 hz1 hS1 => kk H1 locs1 ls hP1 (hz1.trans hz) hS1 hA hl)
  rw [e0] at this
  exact this
theorem fv_putFI {X : fh_X} {R : Room} {nL : Nat} {z : Nat × Nat × Nat} {K : fh_K} {M : fh_M} {pc : Nat} {lv : List (Nat × Value)} {st : List Value} {cc : ByteArray} {own : String} (C : fh_C X nL cc own) {r : Option Nat} {a index ci k : Nat} {fin : Bool} {fty : FieldType} {v : Int32} (hF : fh_fl own index ci k 0 true fty) (hr : r = some a) (hk : (K a).1 = ci + 1) (hcn : vwCl[ci]?.map (fun q => q.1) = some own) (hnm : X.2.2.2.2.2.2.2.1.name = "<init>") (hn : narrow fty (.int v) = .int v ∧ fits fty (.int v) = true) (hd : decode cc pc = .ok (.putfield index, 3)) (kk : fh_V X R nL z K (fh_si M a k v) (pc + 3) lv st) : fh_V X R nL z K M pc lv (.int v :: va_rf r :: st) := by
  obtain ⟨p, l, e, s, m, args, below, meth, c, D, A, Q⟩ := X
  subst hr
  have e0 := fh_fv_fh_si_k M a k v
  intro H locs ls hP hz hS hA hl
  have := fh_put (M' := fh_si M a k v) (ls := ls) (rest := st) (pc := pc) (cells := z.2.1) (slots := z.2.2) (p := p) (l := l) (e := e) (R := R) (s := s) (m := m) (args := args) (below := below) (meth := meth) (c := c) (Q := Q) C.1 C.2.1 C.2.2.2.1 C.2.2.2.2.1 C.2.2.2.2.2.1 hF (fun _ => ⟨hnm, hcn⟩) hP hS (hA a (by omega)) hk (by rw [e0]; exact hn.1) (by rw [e0]; exact hn.2) (fh_fv_fh_si_o M a k v) (fh_ne_fh_si M a k v) hd (fun H1 locs1 hP1 hz1 hS1 => kk H1 locs1 ls hP1 (hz1.trans hz) hS1 hA hl)
  rw [e0] at this
  exact this
theorem fh_fv_fh_sl_k (M : fh_M) (a k : Nat) (v : Int64) : fh_fv (fh_sl M a k v) a k 1 = .long v := by simp [fh_fv, fh_sl, fh_u]
theorem fh_fv_fh_sl_o (M : fh_M) (a k : Nat) (v : Int64) (j u : Nat) (h : j ≠ k) : fh_fv (fh_sl M a k v) a j u = fh_fv M a j u := by simp [fh_fv, fh_sl, fh_u, h]
theorem fh_ne_fh_sl (M : fh_M) (a k : Nat) (v : Int64) (b : Nat) (h : b ≠ a) : M.1 b = (fh_sl M a k v).1 b ∧ M.2.1 b = (fh_sl M a k v).2.1 b ∧ M.2.2 b = (fh_sl M a k v).2.2 b := by
  refine ⟨?_, ?_, ?_⟩ <;> first | rfl | exact fh_u_ne h
theorem fv_putJ {X : fh_X} {R : Room} {nL : Nat} {z : Nat × Nat × Nat} {K : fh_K} {M : fh_M} {pc : Nat} {lv : List (Nat × Value)} {st : List Value} {cc : ByteArray} {own : String} (C : fh_C X nL cc own) {r : Option Nat} {a index ci k : Nat} {fin : Bool} {fty : FieldType} {v : Int64} (hF : fh_fl own index ci k 1 false fty) (hr : r = some a) (hk : (K a).1 = ci + 1) (hn : narrow fty (.long v) = .long v ∧ fits fty (.long v) = true) (hd : decode cc pc = .ok (.putfield index, 3)) (kk : fh_V X R nL z K (fh_sl M a k v) (pc + 3) lv st) : fh_V X R nL z K M pc lv (.long v :: va_rf r :: st) := by
  obtain ⟨p, l, e, s, m, args, below, meth, c, D, A, Q⟩ := X
  subst hr
  have e0 := fh_fv_fh_sl_k M a k v
  intro H locs ls hP hz hS hA hl
  have := fh_put (M' := fh_sl M a k v) (ls := ls) (rest := st) (pc := pc) (cells := z.2.1) (slots := z.2.2) (p := p) (l := l) (e := e) (R := R) (s := s) (m := m) (args := args) (below := below) (meth := meth) (c := c) (Q := Q) C.1 C.2.1 C.2.2.2.1 C.2.2.2.2.1 C.2.2.2.2.2.1 hF (fun q => by cases q) hP hS (hA a (by omega)) hk (by rw [e0]; exact hn.1) (by rw [e0]; exact hn.2) (fh_fv_fh_sl_o M a k v) (fh_ne_fh_sl M a k v) hd (fun H1 locs1 hP1 hz1 hS1 => kk H1 locs1 ls hP1 (hz1.trans hz) hS1 hA hl)
  rw [e0] at this
  exact this
theorem fv_putFJ {X : fh_X} {R : Room} {nL : Nat} {z : Nat × Nat × Nat} {K : fh_K} {M : fh_M} {pc : Nat} {lv : List (Nat × Value)} {st : List Value} {cc : ByteArray} {own : String} (C : fh_C X nL cc own) {r : Option Nat} {a index ci k : Nat} {fin : Bool} {fty : FieldType} {v : Int64} (hF : fh_fl own index ci k 1 true fty) (hr : r = some a) (hk : (K a).1 = ci + 1) (hcn : vwCl[ci]?.map (fun q => q.1) = some own) (hnm : X.2.2.2.2.2.2.2.1.name = "<init>") (hn : narrow fty (.long v) = .long v ∧ fits fty (.long v) = true) (hd : decode cc pc = .ok (.putfield index, 3)) (kk : fh_V X R nL z K (fh_sl M a k v) (pc + 3) lv st) : fh_V X R nL z K M pc lv (.long v :: va_rf r :: st) := by
  obtain ⟨p, l, e, s, m, args, below, meth, c, D, A, Q⟩ := X
  subst hr
  have e0 := fh_fv_fh_sl_k M a k v
  intro H locs ls hP hz hS hA hl
  have := fh_put (M' := fh_sl M a k v) (ls := ls) (rest := st) (pc := pc) (cells := z.2.1) (slots := z.2.2) (p := p) (l := l) (e := e) (R := R) (s := s) (m := m) (args := args) (below := below) (meth := meth) (c := c) (Q := Q) C.1 C.2.1 C.2.2.2.1 C.2.2.2.2.1 C.2.2.2.2.2.1 hF (fun _ => ⟨hnm, hcn⟩) hP hS (hA a (by omega)) hk (by rw [e0]; exact hn.1) (by rw [e0]; exact hn.2) (fh_fv_fh_sl_o M a k v) (fh_ne_fh_sl M a k v) hd (fun H1 locs1 hP1 hz1 hS1 => kk H1 locs1 ls hP1 (hz1.trans hz) hS1 hA hl)
  rw [e0] at this
  exact this
theorem fh_fv_fh_sr_k (M : fh_M) (a k : Nat) (v : Option Nat) : fh_fv (fh_sr M a k v) a k 2 = va_rf v := by simp [fh_fv, fh_sr, fh_u]
theorem fh_fv_fh_sr_o (M : fh_M) (a k : Nat) (v : Option Nat) (j u : Nat) (h : j ≠ k) : fh_fv (fh_sr M a k v) a j u = fh_fv M a j u := by simp [fh_fv, fh_sr, fh_u, h]
theorem fh_ne_fh_sr (M : fh_M) (a k : Nat) (v : Option Nat) (b : Nat) (h : b ≠ a) : M.1 b = (fh_sr M a k v).1 b ∧ M.2.1 b = (fh_sr M a k v).2.1 b ∧ M.2.2 b = (fh_sr M a k v).2.2 b := by
  refine ⟨?_, ?_, ?_⟩ <;> first | rfl | exact fh_u_ne h
theorem fv_putR {X : fh_X} {R : Room} {nL : Nat} {z : Nat × Nat × Nat} {K : fh_K} {M : fh_M} {pc : Nat} {lv : List (Nat × Value)} {st : List Value} {cc : ByteArray} {own : String} (C : fh_C X nL cc own) {r : Option Nat} {a index ci k : Nat} {fin : Bool} {fty : FieldType} {v : Option Nat} (hF : fh_fl own index ci k 2 false fty) (hr : r = some a) (hk : (K a).1 = ci + 1) (hn : narrow fty (va_rf v) = va_rf v ∧ fits fty (va_rf v) = true) (hd : decode cc pc = .ok (.putfield index, 3)) (kk : fh_V X R nL z K (fh_sr M a k v) (pc + 3) lv st) : fh_V X R nL z K M pc lv (va_rf v :: va_rf r :: st) := by
  obtain ⟨p, l, e, s, m, args, below, meth, c, D, A, Q⟩ := X
  subst hr
  have e0 := fh_fv_fh_sr_k M a k v
  intro H locs ls hP hz hS hA hl
  have := fh_put (M' := fh_sr M a k v) (ls := ls) (rest := st) (pc := pc) (cells := z.2.1) (slots := z.2.2) (p := p) (l := l) (e := e) (R := R) (s := s) (m := m) (args := args) (below := below) (meth := meth) (c := c) (Q := Q) C.1 C.2.1 C.2.2.2.1 C.2.2.2.2.1 C.2.2.2.2.2.1 hF (fun q => by cases q) hP hS (hA a (by omega)) hk (by rw [e0]; exact hn.1) (by rw [e0]; exact hn.2) (fh_fv_fh_sr_o M a k v) (fh_ne_fh_sr M a k v) hd (fun H1 locs1 hP1 hz1 hS1 => kk H1 locs1 ls hP1 (hz1.trans hz) hS1 hA hl)
  rw [e0] at this
  exact this
theorem fv_putFR {X : fh_X} {R : Room} {nL : Nat} {z : Nat × Nat × Nat} {K : fh_K} {M : fh_M} {pc : Nat} {lv : List (Nat × Value)} {st : List Value} {cc : ByteArray} {own : String} (C : fh_C X nL cc own) {r : Option Nat} {a index ci k : Nat} {fin : Bool} {fty : FieldType} {v : Option Nat} (hF : fh_fl own index ci k 2 true fty) (hr : r = some a) (hk : (K a).1 = ci + 1) (hcn : vwCl[ci]?.map (fun q => q.1) = some own) (hnm : X.2.2.2.2.2.2.2.1.name = "<init>") (hn : narrow fty (va_rf v) = va_rf v ∧ fits fty (va_rf v) = true) (hd : decode cc pc = .ok (.putfield index, 3)) (kk : fh_V X R nL z K (fh_sr M a k v) (pc + 3) lv st) : fh_V X R nL z K M pc lv (va_rf v :: va_rf r :: st) := by
  obtain ⟨p, l, e, s, m, args, below, meth, c, D, A, Q⟩ := X
  subst hr
  have e0 := fh_fv_fh_sr_k M a k v
  intro H locs ls hP hz hS hA hl
  have := fh_put (M' := fh_sr M a k v) (ls := ls) (rest := st) (pc := pc) (cells := z.2.1) (slots := z.2.2) (p := p) (l := l) (e := e) (R := R) (s := s) (m := m) (args := args) (below := below) (meth := meth) (c := c) (Q := Q) C.1 C.2.1 C.2.2.2.1 C.2.2.2.2.1 C.2.2.2.2.2.1 hF (fun _ => ⟨hnm, hcn⟩) hP hS (hA a (by omega)) hk (by rw [e0]; exact hn.1) (by rw [e0]; exact hn.2) (fh_fv_fh_sr_o M a k v) (fh_ne_fh_sr M a k v) hd (fun H1 locs1 hP1 hz1 hS1 => kk H1 locs1 ls hP1 (hz1.trans hz) hS1 hA hl)
  rw [e0] at this
  exact this
theorem fv_iald {X : fh_X} {R : Room} {nL : Nat} {z : Nat × Nat × Nat} {K : fh_K} {M : fh_M} {pc : Nat} {lv : List (Nat × Value)} {st : List Value} {cc : ByteArray} {own : String} (C : fh_C X nL cc own) {r : Option Nat} {a : Nat} {i : Int32} (hr : r = some a) (hk : (K a).1 = 13) (hi : vp_in i (K a).2) (hd : decode cc pc = .ok (.iaload, 1)) (kk : fh_V X R nL z K M (pc + 1) lv (.int (M.1 a i.toNatClampNeg) :: st)) : fh_V X R nL z K M pc lv (.int i :: va_rf r :: st) := by
  obtain ⟨p, l, e, s, m, args, below, meth, c, D, A, Q⟩ := X
  subst hr
  exact fun H locs ls hP hz hS hA hl => va_iald C.1 C.2.1 C.2.2.2.2.2.1.1 (fh_one hP (by omega) (fh_cell_i hk (by decide) (by decide))) 0 0 rfl rfl hi hd (kk H locs ls hP hz hS hA hl)
theorem fv_bald {X : fh_X} {R : Room} {nL : Nat} {z : Nat × Nat × Nat} {K : fh_K} {M : fh_M} {pc : Nat} {lv : List (Nat × Value)} {st : List Value} {cc : ByteArray} {own : String} (C : fh_C X nL cc own) {r : Option Nat} {a : Nat} {i : Int32} (hr : r = some a) (hk : (K a).1 = 14) (hi : vp_in i (K a).2) (hd : decode cc pc = .ok (.baload, 1)) (kk : fh_V X R nL z K M (pc + 1) lv (.int (M.1 a i.toNatClampNeg) :: st)) : fh_V X R nL z K M pc lv (.int i :: va_rf r :: st) := by
  obtain ⟨p, l, e, s, m, args, below, meth, c, D, A, Q⟩ := X
  subst hr
  exact fun H locs ls hP hz hS hA hl => va_bald C.1 C.2.1 C.2.2.2.2.2.1.1 (fh_one hP (by omega) (fh_cell_i hk (by decide) (by decide))) 0 1 rfl rfl hi hd (kk H locs ls hP hz hS hA hl)
theorem fv_zald {X : fh_X} {R : Room} {nL : Nat} {z : Nat × Nat × Nat} {K : fh_K} {M : fh_M} {pc : Nat} {lv : List (Nat × Value)} {st : List Value} {cc : ByteArray} {own : String} (C : fh_C X nL cc own) {r : Option Nat} {a : Nat} {i : Int32} (hr : r = some a) (hk : (K a).1 = 15) (hi : vp_in i (K a).2) (hd : decode cc pc = .ok (.baload, 1)) (kk : fh_V X R nL z K M (pc + 1) lv (.int (M.1 a i.toNatClampNeg) :: st)) : fh_V X R nL z K M pc lv (.int i :: va_rf r :: st) := by
  obtain ⟨p, l, e, s, m, args, below, meth, c, D, A, Q⟩ := X
  subst hr
  exact fun H locs ls hP hz hS hA hl => va_zald C.1 C.2.1 C.2.2.2.2.2.1.1 (fh_one hP (by omega) (fh_cell_i hk (by decide) (by decide))) 0 2 rfl rfl hi hd (kk H locs ls hP hz hS hA hl)
theorem fv_lald {X : fh_X} {R : Room} {nL : Nat} {z : Nat × Nat × Nat} {K : fh_K} {M : fh_M} {pc : Nat} {lv : List (Nat × Value)} {st : List Value} {cc : ByteArray} {own : String} (C : fh_C X nL cc own) {r : Option Nat} {a : Nat} {i : Int32} (hr : r = some a) (hk : (K a).1 = 16) (hi : vp_in i (K a).2) (hd : decode cc pc = .ok (.laload, 1)) (kk : fh_V X R nL z K M (pc + 1) lv (.long (M.2.1 a i.toNatClampNeg) :: st)) : fh_V X R nL z K M pc lv (.int i :: va_rf r :: st) := by
  obtain ⟨p, l, e, s, m, args, below, meth, c, D, A, Q⟩ := X
  subst hr
  exact fun H locs ls hP hz hS hA hl => va_lald C.1 C.2.1 C.2.2.2.2.2.1.1 (fh_one hP (by omega) (fh_cell_l hk)) 0 3 rfl rfl hi hd (kk H locs ls hP hz hS hA hl)
theorem fv_aald {X : fh_X} {R : Room} {nL : Nat} {z : Nat × Nat × Nat} {K : fh_K} {M : fh_M} {pc : Nat} {lv : List (Nat × Value)} {st : List Value} {cc : ByteArray} {own : String} (C : fh_C X nL cc own) {r : Option Nat} {a : Nat} {i : Int32} {t : Nat} (t0 : Nat) {Cn : String} (ht : t = t0 + 13) (ht1 : 16 < t) (hty : ∀ D : fh_D, (fh_tys D)[t0]? = some (D.2.2 t, .object Cn)) (hr : r = some a) (hk : (K a).1 = t) (hi : vp_in i (K a).2) (hd : decode cc pc = .ok (.aaload, 1)) (kk : fh_V X R nL z K M (pc + 1) lv (va_rf (M.2.2 a i.toNatClampNeg) :: st)) : fh_V X R nL z K M pc lv (.int i :: va_rf r :: st) := by
  obtain ⟨p, l, e, s, m, args, below, meth, c, D, A, Q⟩ := X
  subst hr
  exact fun H locs ls hP hz hS hA hl => va_aldq C.1 C.2.1 C.2.2.2.2.2.1.1 (fh_one hP (by omega) (fh_cell_r hk ht1)) 0 t0 rfl (hty D) hi hd (kk H locs ls hP hz hS hA hl)
theorem fv_alen {X : fh_X} {R : Room} {nL : Nat} {z : Nat × Nat × Nat} {K : fh_K} {M : fh_M} {pc : Nat} {lv : List (Nat × Value)} {st : List Value} {cc : ByteArray} {own : String} (C : fh_C X nL cc own) {r : Option Nat} {a t : Nat} (t0 : Nat) {ty : FieldType} (ht : 13 ≤ t) (hty : ∀ D : fh_D, (fh_tys D)[t0]? = some (D.2.2 t, ty)) (hr : r = some a) (hk : (K a).1 = t) (hd : decode cc pc = .ok (.arraylength, 1)) (kk : fh_V X R nL z K M (pc + 1) lv (.int (nI (K a).2) :: st)) : fh_V X R nL z K M pc lv (va_rf r :: st) := by
  obtain ⟨p, l, e, s, m, args, below, meth, c, D, A, Q⟩ := X
  subst hr
  intro H locs ls hP hz hS hA hl
  have k0 := kk H locs ls hP hz hS hA hl
  rcases Nat.lt_or_ge t 16 with h | h
  · exact va_alen C.1 C.2.1 C.2.2.2.2.2.1.1 (fh_one hP (by omega) (fh_cell_i hk ht h)) 0 t0 rfl (hty D) rfl hd k0
  · rcases Nat.lt_or_ge 16 t with h2 | h2
    · exact va_alen C.1 C.2.1 C.2.2.2.2.2.1.1 (fh_one hP (by omega) (fh_cell_r hk h2)) 0 t0 rfl (hty D) rfl hd k0
    · obtain rfl : t = 16 := by omega
      exact va_alen C.1 C.2.1 C.2.2.2.2.2.1.1 (fh_one hP (by omega) (fh_cell_l hk)) 0 t0 rfl (hty D) rfl hd k0
theorem fh_si_row (M : fh_M) (a k : Nat) (v : Int32) : (fh_si M a k v).1 a = upd (M.1 a) k v := by funext j; simp [fh_si, fh_u, upd]
theorem fh_sl_row (M : fh_M) (a k : Nat) (v : Int64) : (fh_sl M a k v).2.1 a = vp_updL (M.2.1 a) k v := by funext j; simp [fh_sl, fh_u, vp_updL]
theorem fh_sr_row (M : fh_M) (a k : Nat) (v : Option Nat) : (fh_sr M a k v).2.2 a = va_up (M.2.2 a) k v := by funext j; simp [fh_sr, fh_u, va_up]
theorem fv_iast {X : fh_X} {R : Room} {nL : Nat} {z : Nat × Nat × Nat} {K : fh_K} {M : fh_M} {pc : Nat} {lv : List (Nat × Value)} {st : List Value} {cc : ByteArray} {own : String} (C : fh_C X nL cc own) {r : Option Nat} {a : Nat} {i : Int32} {x : Int32} (hr : r = some a) (hk : (K a).1 = 13) (hi : vp_in i (K a).2) (hd : decode cc pc = .ok (.iastore, 1)) (kk : fh_V X R nL z K (fh_si M a i.toNatClampNeg x) (pc + 1) lv st) : fh_V X R nL z K M pc lv (.int x :: .int i :: va_rf r :: st) := by
  obtain ⟨p, l, e, s, m, args, below, meth, c, D, A, Q⟩ := X
  subst hr
  intro H locs ls hP hz hS hA hl
  have hcell := hP a (by omega)
  rw [fh_cell_i hk (by decide) (by decide)] at hcell
  refine W.iast C.1 C.2.1 (rest := st) hcell ((C.2.2.2.2.2.1.1.2 0 _ rfl).1 (K a).2 (fun j => .int (M.1 a j))) (fun q => by cases q) (by show ¬ (i < 0 ∨ (arrV _ _ _).slots.size ≤ _); rw [arrV_size]; exact hi) rfl rfl hd fun H1 e0 z0 oq => ?_
  refine kk H1 _ ls (fh_P_write hP ?_ oq (fh_ne_fh_si M a _ _)) (z0.trans hz) (hS.put z0 oq (hA a (by omega))) hA hl
  rw [fh_cell_i hk (by decide) (by decide), fh_si_row]
  show H1[a]? = some (vp_cell _ _)
  rw [e0, vp_cell_i, vp_cell_i, arrV_store]
  congr 2
  funext q
  by_cases hq : q = i.toNatClampNeg
  · subst hq
    simp [updV, upd, vp_nar]
    try rfl
  · simp [updV, upd, hq]
theorem fv_bast {X : fh_X} {R : Room} {nL : Nat} {z : Nat × Nat × Nat} {K : fh_K} {M : fh_M} {pc : Nat} {lv : List (Nat × Value)} {st : List Value} {cc : ByteArray} {own : String} (C : fh_C X nL cc own) {r : Option Nat} {a : Nat} {i : Int32} {x : Int32} (hr : r = some a) (hk : (K a).1 = 14) (hi : vp_in i (K a).2) (hd : decode cc pc = .ok (.bastore, 1)) (kk : fh_V X R nL z K (fh_si M a i.toNatClampNeg (vp_nar .byte x)) (pc + 1) lv st) : fh_V X R nL z K M pc lv (.int x :: .int i :: va_rf r :: st) := by
  obtain ⟨p, l, e, s, m, args, below, meth, c, D, A, Q⟩ := X
  subst hr
  intro H locs ls hP hz hS hA hl
  have hcell := hP a (by omega)
  rw [fh_cell_i hk (by decide) (by decide)] at hcell
  refine W.bast C.1 C.2.1 (rest := st) hcell ((C.2.2.2.2.2.1.1.2 1 _ rfl).1 (K a).2 (fun j => .int (M.1 a j))) (fun q => by cases q) (by show ¬ (i < 0 ∨ (arrV _ _ _).slots.size ≤ _); rw [arrV_size]; exact hi) rfl rfl hd fun H1 e0 z0 oq => ?_
  refine kk H1 _ ls (fh_P_write hP ?_ oq (fh_ne_fh_si M a _ _)) (z0.trans hz) (hS.put z0 oq (hA a (by omega))) hA hl
  rw [fh_cell_i hk (by decide) (by decide), fh_si_row]
  show H1[a]? = some (vp_cell _ _)
  rw [e0, vp_cell_i, vp_cell_i, arrV_store]
  congr 2
  funext q
  by_cases hq : q = i.toNatClampNeg
  · subst hq
    simp [updV, upd, vp_nar]
    try rfl
  · simp [updV, upd, hq]
theorem fv_zast {X : fh_X} {R : Room} {nL : Nat} {z : Nat × Nat × Nat} {K : fh_K} {M : fh_M} {pc : Nat} {lv : List (Nat × Value)} {st : List Value} {cc : ByteArray} {own : String} (C : fh_C X nL cc own) {r : Option Nat} {a : Nat} {i : Int32} {x : Int32} (hr : r = some a) (hk : (K a).1 = 15) (hi : vp_in i (K a).2) (hd : decode cc pc = .ok (.bastore, 1)) (kk : fh_V X R nL z K (fh_si M a i.toNatClampNeg (vp_nar .boolean x)) (pc + 1) lv st) : fh_V X R nL z K M pc lv (.int x :: .int i :: va_rf r :: st) := by
  obtain ⟨p, l, e, s, m, args, below, meth, c, D, A, Q⟩ := X
  subst hr
  intro H locs ls hP hz hS hA hl
  have hcell := hP a (by omega)
  rw [fh_cell_i hk (by decide) (by decide)] at hcell
  refine W.zast C.1 C.2.1 (rest := st) hcell ((C.2.2.2.2.2.1.1.2 2 _ rfl).1 (K a).2 (fun j => .int (M.1 a j))) (fun q => by cases q) (by show ¬ (i < 0 ∨ (arrV _ _ _).slots.size ≤ _); rw [arrV_size]; exact hi) rfl rfl hd fun H1 e0 z0 oq => ?_
  refine kk H1 _ ls (fh_P_write hP ?_ oq (fh_ne_fh_si M a _ _)) (z0.trans hz) (hS.put z0 oq (hA a (by omega))) hA hl
  rw [fh_cell_i hk (by decide) (by decide), fh_si_row]
  show H1[a]? = some (vp_cell _ _)
  rw [e0, vp_cell_i, vp_cell_i, arrV_store]
  congr 2
  funext q
  by_cases hq : q = i.toNatClampNeg
  · subst hq
    simp [updV, upd, vp_nar]
    try rfl
  · simp [updV, upd, hq]
theorem fv_last {X : fh_X} {R : Room} {nL : Nat} {z : Nat × Nat × Nat} {K : fh_K} {M : fh_M} {pc : Nat} {lv : List (Nat × Value)} {st : List Value} {cc : ByteArray} {own : String} (C : fh_C X nL cc own) {r : Option Nat} {a : Nat} {i : Int32} {x : Int64} (hr : r = some a) (hk : (K a).1 = 16) (hi : vp_in i (K a).2) (hd : decode cc pc = .ok (.lastore, 1)) (kk : fh_V X R nL z K (fh_sl M a i.toNatClampNeg x) (pc + 1) lv st) : fh_V X R nL z K M pc lv (.long x :: .int i :: va_rf r :: st) := by
  obtain ⟨p, l, e, s, m, args, below, meth, c, D, A, Q⟩ := X
  subst hr
  intro H locs ls hP hz hS hA hl
  have hcell := hP a (by omega)
  rw [fh_cell_l hk] at hcell
  refine W.last C.1 C.2.1 (rest := st) hcell ((C.2.2.2.2.2.1.1.2 3 _ rfl).1 (K a).2 (fun j => .long (M.2.1 a j))) (fun q => by cases q) (by show ¬ (i < 0 ∨ (arrV _ _ _).slots.size ≤ _); rw [arrV_size]; exact hi) rfl rfl hd fun H1 e0 z0 oq => ?_
  refine kk H1 _ ls (fh_P_write hP ?_ oq (fh_ne_fh_sl M a _ _)) (z0.trans hz) (hS.put z0 oq (hA a (by omega))) hA hl
  rw [fh_cell_l hk, fh_sl_row]
  show H1[a]? = some (vp_cell _ _)
  rw [e0, vp_cell_l, vp_cell_l, arrV_store]
  congr 2
  funext q
  by_cases hq : q = i.toNatClampNeg
  · subst hq
    simp [updV, vp_updL]
  · simp [updV, vp_updL, hq]
end
section
theorem fv_aast {X : fh_X} {R : Room} {nL : Nat} {z : Nat × Nat × Nat} {K : fh_K} {M : fh_M} {pc : Nat} {lv : List (Nat × Value)} {st : List Value} {cc : ByteArray} {own : String} (C : fh_C X nL cc own) {r : Option Nat} {a v ci t : Nat} {i : Int32} {q : vw_C} (t0 : Nat) (ht1 : 16 < t) (hc : vwCl[ci]? = some q) (hci : ci < 12) (hty : ∀ D : fh_D, (fh_tys D)[t0]? = some (D.2.2 t, .object q.1)) (hr : r = some a) (hk : (K a).1 = t) (hi : vp_in i (K a).2) (hv : (K v).1 = ci + 1) (hd : decode cc pc = .ok (.aastore, 1)) (kk : fh_V X R nL z K (fh_sr M a i.toNatClampNeg (some v)) (pc + 1) lv st) : fh_V X R nL z K M pc lv (va_rf (some v) :: .int i :: va_rf r :: st) := by
  obtain ⟨p, l, e, s, m, args, below, meth, c, D, A, Q⟩ := X
  subst hr
  intro H locs ls hP hz hS hA hl
  have hK := C.2.2.2.2.2.1.1
  have hlt : i.toNatClampNeg < (K a).2 := Nat.not_le.mp fun q => hi (Or.inr q)
  have h0 : ¬ i < 0 := fun q => hi (Or.inl q)
  have hcell := hP a (by omega)
  rw [fh_cell_r hk ht1] at hcell
  have hcv := hP v (by omega)
  rw [fh_cell_o hv hci] at hcv
  obtain ⟨r', hr', cellV, g1, g2, g3, -⟩ := hcv
  have hcls := (hK.1 ci q hc).2
  obtain ⟨kA, comp, k1, k2, k3, -⟩ := (hK.2 t0 _ (hty D)).2
  have hcomp : comp = D.1 ci := Option.some.inj (k3.symm.trans hcls.1)
  subst hcomp
  obtain ⟨kC, hkC, -⟩ := hcls.2
  refine W.aast C.1 C.2.1 (rest := st) hcell (fun q h => by cases h) (fun h => by cases h) k1 k2 rfl hkC ⟨h0, by show _ < (arrV _ _ _).slots.size; rw [arrV_size]; exact hlt⟩ g1 (fun q h => by rw [g3] at h; cases h) (by rw [g2]; exact hkC) (by rw [g2]; exact va_assign hcls) rfl rfl hd fun H1 e0 z0 oq => ?_
  refine kk H1 _ ls (fh_P_write hP ?_ oq (fh_ne_fh_sr M a _ _)) (z0.trans hz) (hS.put z0 oq (hA a (by omega))) hA hl
  rw [fh_cell_r hk ht1, fh_sr_row]
  show H1[a]? = some (vp_cell _ _)
  rw [e0, vp_cell_q, vp_cell_q, arrV_store]
  congr 2
  funext q
  by_cases hq : q = i.toNatClampNeg
  · subst hq
    simp [updV, va_up, va_rf]
  · simp [updV, va_up, hq]
/-- a cell more, at the heap's end -/
theorem fh_P_push {D : fh_D} {K : fh_K} {M : fh_M} {H H1 : Heap} {q : Nat × Nat} (hP : fh_P D K M H) (h1 : va_at (D.1, D.2.1) vwCl (H.size, fh_cell D (fh_uk K H.size q) (fh_clr M H.size) H.size) H1) (ho : ∀ x : Nat, x < H.size → H1[x]? = H[x]?) : fh_P D (fh_uk K H.size q) (fh_clr M H.size) H1 := by
  intro b hb
  by_cases e : b = H.size
  · subst e; exact h1
  · have hKb : fh_uk K H.size q b = K b := by simp [fh_uk, e]
    rw [hKb] at hb
    have hlt := (hP b hb).lt
    have hce : fh_cell D (fh_uk K H.size q) (fh_clr M H.size) b = fh_cell D K M b := by
      have h2 : fh_cell D (fh_uk K H.size q) (fh_clr M H.size) b = fh_cell D K (fh_clr M H.size) b := by unfold fh_cell; rw [hKb]
      rw [h2]
      exact (fh_cell_congr ⟨fh_r_ne e, fh_r_ne e, fh_r_ne e⟩).symm
    rw [hce]
    exact (hP b hb).kept (ho b hlt)
theorem fh_S_push {A : Nat → Prop} {H0 H H1 : Heap} {locs : List Loc} (hS : va_S A H0 H locs) (z1 : H1.size = H.size + 1) (o1 : ∀ x : Nat, x < H.size → H1[x]? = H[x]?) : va_S A H0 H1 locs := ⟨Nat.le_trans hS.1 (by omega), fun x h1 h2 => (o1 x (Nat.lt_of_lt_of_le h1 hS.1)).trans (hS.2.1 x h1 h2), hS.2.2⟩
theorem fh_A_push {A : Nat → Prop} {K : fh_K} {n : Nat} {q : Nat × Nat} (hA : ∀ a, (K a).1 ≠ 0 → A a) (hn : A n) : ∀ a, (fh_uk K n q a).1 ≠ 0 → A a := by
  intro a ha
  by_cases e : a = n
  · subst e; exact hn
  · exact hA a (by simpa [fh_uk, e] using ha)
def fh_cl (own : String) (index ci N : Nat) : Prop := ∃ (Cn : String) (T : u_T) (ty : Nat → FieldType), vwCl[ci]? = some (Cn, T, N) ∧ (∀ w ∈ u_ws Cn T N, w ∈ fh_W) ∧ (∀ k, k < N → parseFieldDescriptor (T k).2.2.1 = some (ty k)) ∧ ci < 12 ∧ (fh_tab.getD ci []).length = N ∧ (∀ k, k < N → (defaultValue (ty k) = .int 0 ∧ (fh_tab.getD ci [])[k]? = some 0) ∨ (defaultValue (ty k) = .long 0 ∧ (fh_tab.getD ci [])[k]? = some 1) ∨ (defaultValue (ty k) = .null ∧ (fh_tab.getD ci [])[k]? = some 2)) ∧ Cond.classLink own index Cn ∈ fh_W ∧ Cond.instantiable Cn N ∈ fh_W ∧ Cond.initialized Cn ∈ fh_W
theorem fv_new {X : fh_X} {R : Room} {nL : Nat} {z : Nat × Nat × Nat} {K : fh_K} {M : fh_M} {pc : Nat} {lv : List (Nat × Value)} {st : List Value} {cc : ByteArray} {own : String} (C : fh_C X nL cc own) {index ci N : Nat} (hF : fh_cl own index ci N) (hcells : z.2.1 + 1 ≤ R.cells) (hslots : z.2.2 + N ≤ R.slots) (hd : decode cc pc = .ok (.new index, 3)) (kk : fh_V X R nL (z.1 + 1, z.2.1 + 1, z.2.2 + N) (fh_uk K z.1 (ci + 1, 0)) (fh_clr M z.1) (pc + 3) lv (va_rf (some z.1) :: st)) : fh_V X R nL z K M pc lv st := by
  obtain ⟨p, l, e, s, m, args, below, meth, c, D, A, Q⟩ := X
  obtain ⟨Cn, T, ty, h1, h2, h3, h4, h5, h6, h7, h8, h9⟩ := hF
  intro H locs ls hP hz hS hA hl
  have hts := C.2.2.2.2.1
  have hKn := C.2.2.2.2.2.1.1.1 ci _ h1
  refine W.newcK C.1 C.2.1 C.2.2.2.1 (hts _ h7) (hts _ h8) (hts _ h9) rfl hd hcells hslots hKn.2.1 hz fun H1 kC hkC e1 z1 o1 => ?_
  obtain ⟨zs, zc, zl⟩ := z
  have hz : H.size = zs := hz
  subst hz
  have hAn := C.2.2.2.2.2.2.2 H.size hS.1
  refine kk H1 locs ls (fh_P_push hP ?_ o1) z1 (fh_S_push hS z1 o1) (fh_A_push hA hAn) hl
  rw [fh_cell_o (ci := ci) (by simp [fh_uk]) h4]
  refine ⟨_, h1, (u_born ty hts h2 hKn hkC e1 h3).to (fun j hj => ?_)⟩
  unfold vp_V
  rw [List.getD_eq_getElem?_getD]
  rcases h6 j hj with ⟨d1, d2⟩ | ⟨d1, d2⟩ | ⟨d1, d2⟩
  · rw [fh_fs_get d2, d1]; simp [fh_fv, fh_clr, fh_r]
  · rw [fh_fs_get d2, d1]; simp [fh_fv, fh_clr, fh_r]
  · rw [fh_fs_get d2, d1]; simp [fh_fv, fh_clr, fh_r, va_rf]
theorem fv_newI {X : fh_X} {R : Room} {nL : Nat} {z : Nat × Nat × Nat} {K : fh_K} {M : fh_M} {pc : Nat} {lv : List (Nat × Value)} {st : List Value} {cc : ByteArray} {own : String} (C : fh_C X nL cc own) {n : Int32} {N : Nat} (hw : Cond.arrayClass .int ∈ fh_W) (hn : ¬ n < 0) (hN : n.toNatClampNeg = N) (hb : N ≤ 10000) (hcells : z.2.1 + 1 ≤ R.cells) (hslots : z.2.2 + N ≤ R.slots) (hd : decode cc pc = .ok (.newarray .int, 2)) (kk : fh_V X R nL (z.1 + 1, z.2.1 + 1, z.2.2 + N) (fh_uk K z.1 (13, N)) (fh_clr M z.1) (pc + 2) lv (va_rf (some z.1) :: st)) : fh_V X R nL z K M pc lv (.int n :: st) := by
  obtain ⟨p, l, e, s, m, args, below, meth, c, D, A, Q⟩ := X
  intro H locs ls hP hz hS hA hl
  have hts := C.2.2.2.2.1
  refine va_newaK (atype := .int) C.1 C.2.1 (hts _ hw) rfl hd (rest := st) rfl hn hN (by show N * _ ≤ 536870912; simp only [newarray.typeOf, componentBytes]; omega) hcells hslots hz fun H1 cA e1 z1 o1 hAr hNm => ?_
  obtain ⟨zs, zc, zl⟩ := z
  have hz : H.size = zs := hz
  subst hz
  have hcA : cA = D.2.2 13 := Option.some.inj (hNm.symm.trans (C.2.2.2.2.2.1.1.2 0 _ rfl).2)
  subst hcA
  have hAn := C.2.2.2.2.2.2.2 H.size hS.1
  refine kk H1 locs ls (fh_P_push hP ?_ o1) z1 (fh_S_push hS z1 o1) (fh_A_push hA hAn) hl
  rw [fh_cell_i (t := 13) (by simp [fh_uk]) (by decide) (by decide)]
  show H1[H.size]? = some (vp_cell _ _)
  rw [e1]
  simp [fh_uk, fh_clr, fh_r, vp_cell_i, newarray.typeOf, defaultValue]
theorem fv_newB {X : fh_X} {R : Room} {nL : Nat} {z : Nat × Nat × Nat} {K : fh_K} {M : fh_M} {pc : Nat} {lv : List (Nat × Value)} {st : List Value} {cc : ByteArray} {own : String} (C : fh_C X nL cc own) {n : Int32} {N : Nat} (hw : Cond.arrayClass .byte ∈ fh_W) (hn : ¬ n < 0) (hN : n.toNatClampNeg = N) (hb : N ≤ 10000) (hcells : z.2.1 + 1 ≤ R.cells) (hslots : z.2.2 + N ≤ R.slots) (hd : decode cc pc = .ok (.newarray .byte, 2)) (kk : fh_V X R nL (z.1 + 1, z.2.1 + 1, z.2.2 + N) (fh_uk K z.1 (14, N)) (fh_clr M z.1) (pc + 2) lv (va_rf (some z.1) :: st)) : fh_V X R nL z K M pc lv (.int n :: st) := by
  obtain ⟨p, l, e, s, m, args, below, meth, c, D, A, Q⟩ := X
  intro H locs ls hP hz hS hA hl
  have hts := C.2.2.2.2.1
  refine va_newaK (atype := .byte) C.1 C.2.1 (hts _ hw) rfl hd (rest := st) rfl hn hN (by show N * _ ≤ 536870912; simp only [newarray.typeOf, componentBytes]; omega) hcells hslots hz fun H1 cA e1 z1 o1 hAr hNm => ?_
  obtain ⟨zs, zc, zl⟩ := z
  have hz : H.size = zs := hz
  subst hz
  have hcA : cA = D.2.2 14 := Option.some.inj (hNm.symm.trans (C.2.2.2.2.2.1.1.2 1 _ rfl).2)
  subst hcA
  have hAn := C.2.2.2.2.2.2.2 H.size hS.1
  refine kk H1 locs ls (fh_P_push hP ?_ o1) z1 (fh_S_push hS z1 o1) (fh_A_push hA hAn) hl
  rw [fh_cell_i (t := 14) (by simp [fh_uk]) (by decide) (by decide)]
  show H1[H.size]? = some (vp_cell _ _)
  rw [e1]
  simp [fh_uk, fh_clr, fh_r, vp_cell_i, newarray.typeOf, defaultValue]
theorem fv_newZ {X : fh_X} {R : Room} {nL : Nat} {z : Nat × Nat × Nat} {K : fh_K} {M : fh_M} {pc : Nat} {lv : List (Nat × Value)} {st : List Value} {cc : ByteArray} {own : String} (C : fh_C X nL cc own) {n : Int32} {N : Nat} (hw : Cond.arrayClass .boolean ∈ fh_W) (hn : ¬ n < 0) (hN : n.toNatClampNeg = N) (hb : N ≤ 10000) (hcells : z.2.1 + 1 ≤ R.cells) (hslots : z.2.2 + N ≤ R.slots) (hd : decode cc pc = .ok (.newarray .boolean, 2)) (kk : fh_V X R nL (z.1 + 1, z.2.1 + 1, z.2.2 + N) (fh_uk K z.1 (15, N)) (fh_clr M z.1) (pc + 2) lv (va_rf (some z.1) :: st)) : fh_V X R nL z K M pc lv (.int n :: st) := by
  obtain ⟨p, l, e, s, m, args, below, meth, c, D, A, Q⟩ := X
  intro H locs ls hP hz hS hA hl
  have hts := C.2.2.2.2.1
  refine va_newaK (atype := .boolean) C.1 C.2.1 (hts _ hw) rfl hd (rest := st) rfl hn hN (by show N * _ ≤ 536870912; simp only [newarray.typeOf, componentBytes]; omega) hcells hslots hz fun H1 cA e1 z1 o1 hAr hNm => ?_
  obtain ⟨zs, zc, zl⟩ := z
  have hz : H.size = zs := hz
  subst hz
  have hcA : cA = D.2.2 15 := Option.some.inj (hNm.symm.trans (C.2.2.2.2.2.1.1.2 2 _ rfl).2)
  subst hcA
  have hAn := C.2.2.2.2.2.2.2 H.size hS.1
  refine kk H1 locs ls (fh_P_push hP ?_ o1) z1 (fh_S_push hS z1 o1) (fh_A_push hA hAn) hl
  rw [fh_cell_i (t := 15) (by simp [fh_uk]) (by decide) (by decide)]
  show H1[H.size]? = some (vp_cell _ _)
  rw [e1]
  simp [fh_uk, fh_clr, fh_r, vp_cell_i, newarray.typeOf, defaultValue]
theorem fv_newJ {X : fh_X} {R : Room} {nL : Nat} {z : Nat × Nat × Nat} {K : fh_K} {M : fh_M} {pc : Nat} {lv : List (Nat × Value)} {st : List Value} {cc : ByteArray} {own : String} (C : fh_C X nL cc own) {n : Int32} {N : Nat} (hw : Cond.arrayClass .long ∈ fh_W) (hn : ¬ n < 0) (hN : n.toNatClampNeg = N) (hb : N ≤ 10000) (hcells : z.2.1 + 1 ≤ R.cells) (hslots : z.2.2 + N ≤ R.slots) (hd : decode cc pc = .ok (.newarray .long, 2)) (kk : fh_V X R nL (z.1 + 1, z.2.1 + 1, z.2.2 + N) (fh_uk K z.1 (16, N)) (fh_clr M z.1) (pc + 2) lv (va_rf (some z.1) :: st)) : fh_V X R nL z K M pc lv (.int n :: st) := by
  obtain ⟨p, l, e, s, m, args, below, meth, c, D, A, Q⟩ := X
  intro H locs ls hP hz hS hA hl
  have hts := C.2.2.2.2.1
  refine va_newaK (atype := .long) C.1 C.2.1 (hts _ hw) rfl hd (rest := st) rfl hn hN (by show N * _ ≤ 536870912; simp only [newarray.typeOf, componentBytes]; omega) hcells hslots hz fun H1 cA e1 z1 o1 hAr hNm => ?_
  obtain ⟨zs, zc, zl⟩ := z
  have hz : H.size = zs := hz
  subst hz
  have hcA : cA = D.2.2 16 := Option.some.inj (hNm.symm.trans (C.2.2.2.2.2.1.1.2 3 _ rfl).2)
  subst hcA
  have hAn := C.2.2.2.2.2.2.2 H.size hS.1
  refine kk H1 locs ls (fh_P_push hP ?_ o1) z1 (fh_S_push hS z1 o1) (fh_A_push hA hAn) hl
  rw [fh_cell_l (by simp [fh_uk])]
  show H1[H.size]? = some (vp_cell _ _)
  rw [e1]
  simp [fh_uk, fh_clr, fh_r, vp_cell_l, newarray.typeOf, defaultValue]
theorem fv_newQ {X : fh_X} {R : Room} {nL : Nat} {z : Nat × Nat × Nat} {K : fh_K} {M : fh_M} {pc : Nat} {lv : List (Nat × Value)} {st : List Value} {cc : ByteArray} {own : String} (C : fh_C X nL cc own) {n : Int32} {N index t : Nat} {Cn : String} (t0 : Nat) (ht1 : 16 < t) (hty : ∀ D : fh_D, (fh_tys D)[t0]? = some (D.2.2 t, .object Cn)) (hAO : ∀ D U, fh_Ks D U → va_AO Cn U) (hw : Cond.classLink own index Cn ∈ fh_W) (hn : ¬ n < 0) (hN : n.toNatClampNeg = N) (hb : N ≤ 10000) (hcells : z.2.1 + 1 ≤ R.cells) (hslots : z.2.2 + N ≤ R.slots) (hd : decode cc pc = .ok (.anewarray index, 3)) (kk : fh_V X R nL (z.1 + 1, z.2.1 + 1, z.2.2 + N) (fh_uk K z.1 (t, N)) (fh_clr M z.1) (pc + 3) lv (va_rf (some z.1) :: st)) : fh_V X R nL z K M pc lv (.int n :: st) := by
  obtain ⟨p, l, e, s, m, args, below, meth, c, D, A, Q⟩ := X
  intro H locs ls hP hz hS hA hl
  have hts := C.2.2.2.2.1
  subst hN
  refine W.anew C.1 C.2.1 C.2.2.2.1 (hts _ hw) (va_AO.use (hAO D s C.2.2.2.2.2.1)) rfl hd (rest := st) rfl hn (by omega) hcells hslots fun cA kA comp f1 f2 f3 f4 => ?_
  obtain ⟨zs, zc, zl⟩ := z
  have hz : H.size = zs := hz
  subst hz
  have hcA : cA = D.2.2 t := by
    obtain ⟨_, _, _, _, _, q⟩ := (C.2.2.2.2.2.1.1.2 t0 _ (hty D)).2
    exact Option.some.inj (f1.symm.trans q)
  subst hcA
  generalize hH1 : H.push ({ cls := D.2.2 t, slots := Array.replicate n.toNatClampNeg .null, vm := .none } : Cell) = H1
  have z1 : H1.size = H.size + 1 := by rw [← hH1, Array.size_push]
  have e1 : H1[H.size]? = some (arrV (D.2.2 t) n.toNatClampNeg (fun _ => .null)) := by rw [← hH1, Array.getElem?_push_size, ← arrV_new]
  have o1 : ∀ q : Nat, q < H.size → H1[q]? = H[q]? := fun q hq => by rw [← hH1, Array.getElem?_push, if_neg (Nat.ne_of_lt hq)]
  have hAn := C.2.2.2.2.2.2.2 H.size hS.1
  refine kk H1 locs ls (fh_P_push hP ?_ o1) z1 (fh_S_push hS z1 o1) (fh_A_push hA hAn) hl
  rw [fh_cell_r (t := t) (by simp [fh_uk]) ht1]
  show H1[H.size]? = some (vp_cell _ _)
  rw [e1]
  simp [fh_uk, fh_clr, fh_r, vp_cell_q, va_rf]
end
section
theorem fv_max {X : fh_X} {R : Room} {nL : Nat} {z : Nat × Nat × Nat} {K : fh_K} {M : fh_M} {pc : Nat} {lv : List (Nat × Value)} {st : List Value} {cc : ByteArray} {own : String} (C : fh_C X nL cc own) {index : Nat} {x y : Int32} (h1 : Cond.methodLink own index Lib.Math.max.name ∈ fh_W) (h2 : Cond.static Lib.Math.max.name ∈ fh_W) (h3 : Cond.initialized "java/lang/Math" ∈ fh_W) (h4 : Cond.code Lib.Math.max.name Lib.Math.max.code 2 (some .int) ∈ fh_W) (hf : 1 ≤ R.frames) (hlo : (st.map fun v => v.category).sum + 13 ≤ R.locals) (hc : z.2.1 ≤ R.cells) (hs : z.2.2 ≤ R.slots) (hd : decode cc pc = .ok (.invokestatic index, 3)) (k : fh_V X R nL z K M (pc + 3) lv (.int (if x < y then y else x) :: st)) : fh_V X R nL z K M pc lv (.int y :: .int x :: st) := by
  obtain ⟨p, l, e, s, m, args, below, meth, c, D, A, Q⟩ := X
  have hts := C.2.2.2.2.1
  exact fun H locs ls hP hz hS hA hl => va_mmax C.1 C.2.1 (C.2.2.1.trans hl.1.symm) C.2.2.2.1 (hts _ h1) (hts _ h2) (hts _ h3) (hts _ h4) hf hlo hc hs hd (k H locs ls hP hz hS hA hl)
theorem fv_min {X : fh_X} {R : Room} {nL : Nat} {z : Nat × Nat × Nat} {K : fh_K} {M : fh_M} {pc : Nat} {lv : List (Nat × Value)} {st : List Value} {cc : ByteArray} {own : String} (C : fh_C X nL cc own) {index : Nat} {x y : Int32} (h1 : Cond.methodLink own index Lib.Math.min.name ∈ fh_W) (h2 : Cond.static Lib.Math.min.name ∈ fh_W) (h3 : Cond.initialized "java/lang/Math" ∈ fh_W) (h4 : Cond.code Lib.Math.min.name Lib.Math.min.code 2 (some .int) ∈ fh_W) (hf : 1 ≤ R.frames) (hlo : (st.map fun v => v.category).sum + 13 ≤ R.locals) (hc : z.2.1 ≤ R.cells) (hs : z.2.2 ≤ R.slots) (hd : decode cc pc = .ok (.invokestatic index, 3)) (k : fh_V X R nL z K M (pc + 3) lv (.int (if y < x then y else x) :: st)) : fh_V X R nL z K M pc lv (.int y :: .int x :: st) := by
  obtain ⟨p, l, e, s, m, args, below, meth, c, D, A, Q⟩ := X
  have hts := C.2.2.2.2.1
  exact fun H locs ls hP hz hS hA hl => va_mmin C.1 C.2.1 (C.2.2.1.trans hl.1.symm) C.2.2.2.1 (hts _ h1) (hts _ h2) (hts _ h3) (hts _ h4) hf hlo hc hs hd (k H locs ls hP hz hS hA hl)
theorem fv_minL {X : fh_X} {R : Room} {nL : Nat} {z : Nat × Nat × Nat} {K : fh_K} {M : fh_M} {pc : Nat} {lv : List (Nat × Value)} {st : List Value} {cc : ByteArray} {own : String} (C : fh_C X nL cc own) {index : Nat} {x y : Int64} (h1 : Cond.methodLink own index Lib.MathLoose.min_long.x ∈ fh_W) (h2 : Cond.static Lib.MathLoose.min_long.x ∈ fh_W) (h3 : Cond.initialized "java/lang/Math" ∈ fh_W) (h4 : Cond.code Lib.MathLoose.min_long.x Lib.MathLoose.min_long.code 4 (some .long) ∈ fh_W) (hf : 1 ≤ R.frames) (hlo : (st.map fun v => v.category).sum + 15 ≤ R.locals) (hc : z.2.1 ≤ R.cells) (hs : z.2.2 ≤ R.slots) (hd : decode cc pc = .ok (.invokestatic index, 3)) (k : fh_V X R nL z K M (pc + 3) lv (.long (if y < x then y else x) :: st)) : fh_V X R nL z K M pc lv (.long y :: .long x :: st) := by
  obtain ⟨p, l, e, s, m, args, below, meth, c, D, A, Q⟩ := X
  have hts := C.2.2.2.2.1
  exact fun H locs ls hP hz hS hA hl => va_mmin_long C.1 C.2.1 (C.2.2.1.trans hl.1.symm) C.2.2.2.1 (hts _ h1) (hts _ h2) (hts _ h3) (hts _ h4) hf hlo hc hs hd (k H locs ls hP hz hS hA hl)
theorem fv_objInit {X : fh_X} {R : Room} {nL : Nat} {z : Nat × Nat × Nat} {K : fh_K} {M : fh_M} {pc : Nat} {lv : List (Nat × Value)} {st : List Value} {cc : ByteArray} {own : String} (C : fh_C X nL cc own) {index a : Nat} (h1 : Cond.methodLink own index objectInit ∈ fh_W) (h2 : Cond.instanceMethod objectInit ∈ fh_W) (h3 : Cond.code objectInit ⟨#[0xb1]⟩ 1 none ∈ fh_W) (hf : 1 ≤ R.frames) (hlo : (st.map fun v => v.category).sum + 12 ≤ R.locals) (hd : decode cc pc = .ok (.invokespecial index, 3)) (k : fh_V X R nL z K M (pc + 3) lv st) : fh_V X R nL z K M pc lv (va_rf (some a) :: st) := by
  obtain ⟨p, l, e, s, m, args, below, meth, c, D, A, Q⟩ := X
  have hts := C.2.2.2.2.1
  exact fun H locs ls hP hz hS hA hl => W.objInit C.1 C.2.1 C.2.2.2.1 (hts _ h1) (hts _ h2) (hts _ h3) (g := F0 m pc ls (.ref a :: st)) (rest := st) rfl (hl.1.trans C.2.2.1.symm) rfl hd hf (by show 2 * 0 + _ + 12 ≤ _; omega) (k H locs ls hP hz hS hA hl)
theorem fh_nn (x : Int32) (hx : ¬ x < 0) : x.toInt = (x.toNatClampNeg : Int) := by
  have h0 : (0 : Int) ≤ x.toInt := by
    have := Int32.not_lt.mp hx
    simpa using Int32.le_iff_toInt_le.mp this
  show x.toInt = ((x.toInt.toNat : Nat) : Int)
  omega
theorem fh_ne_ri (M : fh_M) (a : Nat) (g : Nat → Int32) (b : Nat) (h : b ≠ a) : M.1 b = (fh_ri M a g).1 b ∧ M.2.1 b = (fh_ri M a g).2.1 b ∧ M.2.2 b = (fh_ri M a g).2.2 b := ⟨fh_r_ne h, rfl, rfl⟩
theorem fh_ri_row (M : fh_M) (a : Nat) (g : Nat → Int32) : (fh_ri M a g).1 a = g := by funext j; simp [fh_ri, fh_r]
theorem fv_copy {X : fh_X} {R : Room} {nL : Nat} {z : Nat × Nat × Nat} {K : fh_K} {M : fh_M} {pc : Nat} {lv : List (Nat × Value)} {st : List Value} {cc : ByteArray} {own : String} (C : fh_C X nL cc own) {index a a0 : Nat} {r r0 : Option Nat} {sp dp n : Int32} (h1 : Cond.methodLink own index arraycopyName ∈ fh_W) (h2 : Cond.native arraycopyName ∈ fh_W) (h3 : Cond.static arraycopyName ∈ fh_W) (h4 : Cond.initialized "java/lang/System" ∈ fh_W) (hr0 : r0 = some a0) (hr : r = some a) (hk0 : (K a0).1 = 13) (hk : (K a).1 = 13) (g1 : ¬ sp < 0) (g2 : ¬ dp < 0) (g3 : ¬ n < 0) (g4 : sp.toNatClampNeg + n.toNatClampNeg ≤ (K a0).2) (g5 : dp.toNatClampNeg + n.toNatClampNeg ≤ (K a).2) (hf : 1 ≤ R.frames) (hlo : (st.map fun v => v.category).sum + (nativeFrameWords "java/lang/System" "arraycopy" 5 + 11) ≤ R.locals) (hd : decode cc pc = .ok (.invokestatic index, 3)) (k : fh_V X R nL z K (fh_ri M a (va_cpy (M.1 a0) (M.1 a) sp.toNatClampNeg dp.toNatClampNeg n.toNatClampNeg)) (pc + 3) lv st) : fh_V X R nL z K M pc lv (.int n :: .int dp :: va_rf r :: .int sp :: va_rf r0 :: st) := by
  obtain ⟨p, l, e, s, m, args, below, meth, c, D, A, Q⟩ := X
  subst hr; subst hr0
  have hts := C.2.2.2.2.1
  have hK := C.2.2.2.2.2.1.1
  intro H locs ls hP hz hS hA hl T hT X
  have hc0 := hP a0 (by omega)
  rw [fh_cell_i hk0 (by decide) (by decide)] at hc0
  have hc1 := hP a (by omega)
  rw [fh_cell_i hk (by decide) (by decide)] at hc1
  have hc0 : H[a0]? = some (vp_cell (D.2.2 13) ((K a0).2, .inl (M.1 a0))) := hc0
  have hc1 : H[a]? = some (vp_cell (D.2.2 13) ((K a).2, .inl (M.1 a))) := hc1
  obtain ⟨-, k0, hk0', cm0, hkk0⟩ := (hK.2 0 _ rfl).1 (K a0).2 (fun j => .int (M.1 a0 j))
  obtain ⟨-, k1, hk1', cm1, hkk1⟩ := (hK.2 0 _ rfl).1 (K a).2 (fun j => .int (M.1 a j))
  obtain ⟨vm', X', step⟩ := X.arraycopy C.1 C.2.2.2.1 (hts _ h1) (hts _ h2) (hts _ h3) (hts _ h4) (src := a0) (dst := a) (cs := vp_cell (D.2.2 13) ((K a0).2, .inl (M.1 a0))) (cd := vp_cell (D.2.2 13) ((K a).2, .inl (M.1 a))) (srcPos := sp) (destPos := dp) (n := n) (by rw [hT]; exact hc0) (by rw [hT]; exact hc1)
    (fun _ h => by cases h) (fun _ h => by cases h) (fun h => by cases h) (fun h => by cases h) hk0' hk1' hkk0 hkk1 (by rfl) g1 g2 g3
    (by rw [fh_nn sp g1, fh_nn n g3]; show ¬ _ > ((arrV (D.2.2 13) (K a0).2 (fun j => .int (M.1 a0 j))).slots.size : Int); rw [arrV_size]; omega)
    (by rw [fh_nn dp g2, fh_nn n g3]; show ¬ _ > ((arrV (D.2.2 13) (K a).2 (fun j => .int (M.1 a j))).slots.size : Int); rw [arrV_size]; omega)
    (fun vm₁ _ i hi => by
      have e : (vp_cell (D.2.2 13) ((K a0).2, .inl (M.1 a0))).slots.getD (sp.toNatClampNeg + i) .null = .int (M.1 a0 (sp.toNatClampNeg + i)) := by
        show (arrV (D.2.2 13) (K a0).2 (fun j => .int (M.1 a0 j))).slots.getD _ _ = _
        rw [Array.getD_eq_getD_getElem?, arrV_read _ _ (by omega)]
        rfl
      refine ⟨?_, ?_⟩
      · rw [e]; rfl
      · rw [e]
        exact trivial)
    (g := F0 m pc ls (.int n :: .int dp :: .ref a :: .int sp :: .ref a0 :: st)) rfl (by rw [C.2.2.1]; exact hl.1) (rest := st) rfl (by rw [C.2.1]; exact hd) hf (by show 2 * 0 + _ + _ ≤ _; omega)
  have e1 : copied (vp_cell (D.2.2 13) ((K a0).2, .inl (M.1 a0))) (vp_cell (D.2.2 13) ((K a).2, .inl (M.1 a))) sp dp n = vp_cell (D.2.2 13) ((K a).2, .inl (va_cpy (M.1 a0) (M.1 a) sp.toNatClampNeg dp.toNatClampNeg n.toNatClampNeg)) := va_copied (fun z => .int z) (D.2.2 13) (D.2.2 13) (M.1 a0) (M.1 a) g4
  rw [e1] at X' step
  have hlt : a < H.size := (Array.getElem?_eq_some_iff.mp hc1).1
  have hheap : ((T.setVm vm').setCell a (vp_cell (D.2.2 13) ((K a).2, .inl (va_cpy (M.1 a0) (M.1 a) sp.toNatClampNeg dp.toNatClampNeg n.toNatClampNeg)))).heap = H.setIfInBounds a (vp_cell (D.2.2 13) ((K a).2, .inl (va_cpy (M.1 a0) (M.1 a) sp.toNatClampNeg dp.toNatClampNeg n.toNatClampNeg))) := by rw [← hT]; rfl
  have oq : ∀ q : Nat, q ≠ a → (H.setIfInBounds a (vp_cell (D.2.2 13) ((K a).2, .inl (va_cpy (M.1 a0) (M.1 a) sp.toNatClampNeg dp.toNatClampNeg n.toNatClampNeg))))[q]? = H[q]? := fun q hq => by simp [Array.getElem?_setIfInBounds, Ne.symm hq]
  have hP' : fh_P D K (fh_ri M a (va_cpy (M.1 a0) (M.1 a) sp.toNatClampNeg dp.toNatClampNeg n.toNatClampNeg)) (H.setIfInBounds a (vp_cell (D.2.2 13) ((K a).2, .inl (va_cpy (M.1 a0) (M.1 a) sp.toNatClampNeg dp.toNatClampNeg n.toNatClampNeg)))) := by
    refine fh_P_write hP ?_ oq (fh_ne_ri M a _)
    rw [fh_cell_i hk (by decide) (by decide), fh_ri_row]
    show (H.setIfInBounds a _)[a]? = some (vp_cell _ _)
    simp [Array.getElem?_setIfInBounds, hlt]
  obtain ⟨t, a1, b1⟩ := k _ _ ls hP' (by simpa using hz) ⟨by simp; exact hS.1, fun q g1 g2 => by
      rw [oq q (fun e => g2 (by rw [e]; exact hA a (by omega)))]
      exact hS.2.1 q g1 g2, fun q hq => by
      rcases List.mem_append.mp hq with h | h
      · exact hS.2.2 q h
      · obtain ⟨z, -, hz⟩ := List.mem_map.mp h
        rw [← hz]
        exact hA a (by omega)⟩ hA hl _ hheap X'
  exact ⟨t, step t a1, b1⟩
theorem fv_clone {X : fh_X} {R : Room} {nL : Nat} {z : Nat × Nat × Nat} {K : fh_K} {M : fh_M} {pc : Nat} {lv : List (Nat × Value)} {st : List Value} {cc : ByteArray} {own : String} (C : fh_C X nL cc own) {index a : Nat} {r : Option Nat} (h1 : Cond.methodLink own index ⟨"[I", "clone", "()Ljava/lang/Object;"⟩ ∈ fh_W) (h2 : Cond.sameMethod "[I" "java/lang/Object" "clone" "()Ljava/lang/Object;" ∈ fh_W) (h3 : Cond.native ⟨"java/lang/Object", "clone", "()Ljava/lang/Object;"⟩ ∈ fh_W) (h4 : Cond.instanceMethod ⟨"java/lang/Object", "clone", "()Ljava/lang/Object;"⟩ ∈ fh_W) (h5 : Cond.selects "[I" ⟨"[I", "clone", "()Ljava/lang/Object;"⟩ ⟨"java/lang/Object", "clone", "()Ljava/lang/Object;"⟩ ∈ fh_W) (hr : r = some a) (hk : (K a).1 = 13) (hf : 1 ≤ R.frames) (hlo : (st.map fun v => v.category).sum + 14 ≤ R.locals) (hcells : z.2.1 + 1 ≤ R.cells) (hslots : z.2.2 + (K a).2 ≤ R.slots) (hd : decode cc pc = .ok (.invokevirtual index, 3)) (kk : fh_V X R nL (z.1 + 1, z.2.1 + 1, z.2.2 + (K a).2) (fh_uk K z.1 (13, (K a).2)) (fh_ri (fh_clr M z.1) z.1 (M.1 a)) (pc + 3) lv (va_rf (some z.1) :: st)) : fh_V X R nL z K M pc lv (va_rf r :: st) := by
  obtain ⟨p, l, e, s, m, args, below, meth, c, D, A, Q⟩ := X
  subst hr
  have hts := C.2.2.2.2.1
  have hK := C.2.2.2.2.2.1.1
  intro H locs ls hP hz hS hA hl T hT X
  obtain ⟨zs, zc, zl⟩ := z
  have hz : H.size = zs := hz
  subst hz
  have hnm := (hK.2 0 _ rfl).2
  obtain ⟨c0, t0', f1, f2, f3⟩ := Cond.castable_spec (va_Nw.use (A := args) rfl C.2.2.2.2.2.1.2.2.1)
  cases hnm.symm.trans f1
  have hc1 := hP a (by omega)
  rw [fh_cell_i hk (by decide) (by decide)] at hc1
  have hc1 : H[a]? = some (vp_cell (D.2.2 13) ((K a).2, .inl (M.1 a))) := hc1
  have hsz : (vp_cell (D.2.2 13) ((K a).2, .inl (M.1 a))).slots.size = (K a).2 := arrV_size _ _ _
  obtain ⟨-, kA, hkA, comp, hkind⟩ := State.isArrayOf_alike X.warmed.alike ((hK.2 0 _ rfl).1 0 (fun _ => .null))
  obtain ⟨-, kS, hkS, compS, hkindS⟩ := (hK.2 0 _ rfl).1 0 (fun _ => .null)
  obtain ⟨vm', X', stp⟩ := X.cloneArray C.1 C.2.2.2.1 (hts _ h1) (hts _ h2) (hts _ h3) (hts _ h4) (hts _ h5) (a := a) (cell := vp_cell (D.2.2 13) ((K a).2, .inl (M.1 a))) (by rw [hT]; exact hc1) (fun k h => by cases h) (fun h => by cases h) hnm f2 f3
    (fun i v hv => by
      have hk' : T.vm.classes[D.2.2 13]? = some kA := hkA
      have hv2 : fits .int v = true := by
        have hlt : i < (K a).2 := by rw [← hsz]; exact (Array.getElem?_eq_some_iff.mp hv).1
        have e : (arrV (D.2.2 13) (K a).2 (fun j => .int (M.1 a j))).slots[i]? = some v := hv
        rw [arrV_read _ _ hlt] at e
        cases e; rfl
      show State.fitsSlot T (D.2.2 13) .none i v = true
      simpa [State.fitsSlot, State.slotType?, hk', hkind] using hv2)
    (g := F0 m pc ls (.ref a :: st)) rfl (by rw [C.2.2.1]; exact hl.1) rfl (by rw [C.2.1]; exact hd) hf (by show 2 * 0 + _ + 14 ≤ _; omega) hcells (by rw [hsz]; exact hslots) (hloader := Vm.clonesLoader_of_array hkS hkindS)
  rw [hsz] at X'
  generalize hH1 : H.push (vp_cell (D.2.2 13) ((K a).2, .inl (M.1 a))) = H1
  have z1 : H1.size = H.size + 1 := by rw [← hH1, Array.size_push]
  have e1 : H1[H.size]? = some (vp_cell (D.2.2 13) ((K a).2, .inl (M.1 a))) := by rw [← hH1, Array.getElem?_push_size]
  have o1 : ∀ q : Nat, q < H.size → H1[q]? = H[q]? := fun q hq => by rw [← hH1, Array.getElem?_push, if_neg (Nat.ne_of_lt hq)]
  have hAn := C.2.2.2.2.2.2.2 H.size hS.1
  have hP1 : fh_P D (fh_uk K H.size (13, (K a).2)) (fh_ri (fh_clr M H.size) H.size (M.1 a)) H1 := by
    intro b hb
    by_cases e : b = H.size
    · subst e
      rw [fh_cell_i (t := 13) (by simp [fh_uk]) (by decide) (by decide), fh_ri_row]
      show H1[H.size]? = some (vp_cell _ _)
      rw [e1]
      simp [fh_uk]
    · have hKb : fh_uk K H.size (13, (K a).2) b = K b := by simp [fh_uk, e]
      rw [hKb] at hb
      have hce : fh_cell D (fh_uk K H.size (13, (K a).2)) (fh_ri (fh_clr M H.size) H.size (M.1 a)) b = fh_cell D K M b := by
        have h2 : fh_cell D (fh_uk K H.size (13, (K a).2)) (fh_ri (fh_clr M H.size) H.size (M.1 a)) b = fh_cell D K (fh_ri (fh_clr M H.size) H.size (M.1 a)) b := by unfold fh_cell; rw [hKb]
        rw [h2]
        exact (fh_cell_congr ⟨(fh_r_ne e).trans (fh_r_ne e), fh_r_ne e, fh_r_ne e⟩).symm
      rw [hce]
      exact (hP b hb).kept (o1 b (hP b hb).lt)
  obtain ⟨t, b1, b2⟩ := kk H1 locs ls hP1 z1 (fh_S_push hS z1 o1) (fh_A_push hA hAn) hl ((T.setVm vm').pushCell (vp_cell (D.2.2 13) ((K a).2, .inl (M.1 a)))) (by rw [← hH1, ← hT]; rfl) X'
  refine ⟨t, stp t ?_, b2⟩
  rw [hT]
  exact b1
theorem fv_castI {X : fh_X} {R : Room} {nL : Nat} {z : Nat × Nat × Nat} {K : fh_K} {M : fh_M} {pc : Nat} {lv : List (Nat × Value)} {st : List Value} {cc : ByteArray} {own : String} (C : fh_C X nL cc own) {index a : Nat} {r : Option Nat} (h1 : Cond.classLink own index "[I" ∈ fh_W) (hr : r = some a) (hk : (K a).1 = 13) (hd : decode cc pc = .ok (.checkcast index, 3)) (k : fh_V X R nL z K M (pc + 3) lv (va_rf r :: st)) : fh_V X R nL z K M pc lv (va_rf r :: st) := by
  obtain ⟨p, l, e, s, m, args, below, meth, c, D, A, Q⟩ := X
  subst hr
  exact fun H locs ls hP hz hS hA hl => va_castA C.1 C.2.1 C.2.2.2.1 (C.2.2.2.2.1 _ h1) (fh_one hP (by omega) (fh_cell_i hk (by decide) (by decide))) 0 rfl (C.2.2.2.2.2.1.1.2 0 _ rfl).2 hd (k H locs ls hP hz hS hA hl)
end
section
def fh_Pc (D : fh_D) (K : fh_K) (M : fh_M) (sz : Nat) (A : Nat → Prop) (av : List Value) : Array Value → State → Prop := fun v U => v = av.toArray ∧ U.heap.size = sz ∧ fh_P D K M U.heap ∧ fh_Ks D U ∧ (∀ a, (K a).1 ≠ 0 → A a) ∧ (∀ q, sz ≤ q → A q)
def fh_Qc (D : fh_D) (ov : Option Value) (K : fh_K) (M : fh_M) (sz : Nat) (A : Nat → Prop) : Array Value → State → Outcome → State → Prop := fun _ st o t => (o = .returned ov ∧ fh_P D K M t.heap ∧ t.heap.size = sz ∧ (∀ a, (K a).1 ≠ 0 → A a)) ∧ va_F A st t
def fh_Met (l : Launch) (y : MethodName) (cc : ByteArray) (maxL : Nat) (ret : Option FieldType) (rm : Room) (D : fh_D) (K : fh_K) (M : fh_M) (sz : Nat) (A : Nat → Prop) (av : List Value) (ov : Option Value) (K' : fh_K) (M' : fh_M) (sz' : Nat) : Prop := Met l y (Cond.code y cc maxL ret :: fh_W) rm (fh_Pc D K M sz A av) (fh_Qc D ov K' M' sz' A) rm.cells rm.slots A
def fh_E (X : fh_X) (R : Room) (ret : Option FieldType) (ov : Option Value) (K : fh_K) (M : fh_M) (sz : Nat) : Prop := match X with
  | (p, l, e, s, m, args, below, meth, c, D, A, Q) => meth.sig.returnType = ret ∧ Q = MQ below (fh_Qc D ov K M sz A) args s R.cells R.slots A
theorem fh_blind {D : fh_D} {K : fh_K} {M : fh_M} {sz : Nat} {A : Nat → Prop} {av : List Value} : FrameBlind (fh_Pc D K M sz A av) := fun a U g mk q => ⟨q.1, q.2.1, q.2.2.1, fh_Ks_same rfl q.2.2.2.1, q.2.2.2.2⟩
theorem fh_good : ∀ w ∈ fh_W, w ∈ fh_W ∧ ((w.onTables && w.keeps) = true ∨ ∃ ty, w = .arrayClass ty) := fun w h => ⟨h, good_of_word (List.mem_filter.mp h).2⟩
theorem fh_goodC {w : Cond} (hw : w ∈ fh_W) : GoodIn fh_W (w :: fh_W) := fun x h => (List.mem_cons.mp h).elim (fun e => by rw [e]; exact fh_good w hw) (fun h => fh_good x h)
theorem fv_widen {X : fh_X} {R : Room} {nL : Nat} {z : Nat × Nat × Nat} {K : fh_K} {M : fh_M} {pc : Nat} {lv : List (Nat × Value)} {st : List Value} {cc : ByteArray} {own : String} {mc ms : Nat} (h1 : z.2.1 ≤ mc) (h2 : z.2.2 ≤ ms) (k : fh_V X R nL (z.1, mc, ms) K M pc lv st) : fh_V X R nL z K M pc lv st := by
  obtain ⟨p, l, e, s, m, args, below, meth, c, D, A, Q⟩ := X
  exact fun H locs ls hP hz hS hA hl => W.widen (k := mc) (n := ms) h1 h2 (k H locs ls hP hz hS hA hl)
theorem fv_iret {X : fh_X} {R : Room} {nL : Nat} {z : Nat × Nat × Nat} {K : fh_K} {M : fh_M} {pc : Nat} {lv : List (Nat × Value)} {st : List Value} {cc : ByteArray} {own : String} {v : Int32} {sz : Nat} (C : fh_C X nL cc own) (E : fh_E X R (some .int) (some (.int v)) K M sz) (hd : decode cc pc = .ok (.ireturn, 1)) : fh_V X R nL (sz, R.cells, R.slots) K M pc lv [.int v] := by
  obtain ⟨p, l, e, s, m, args, below, meth, c, D, A, Q⟩ := X
  obtain ⟨E1, E2⟩ := E
  subst E2
  exact fun H locs ls hP hz hS hA hl => W.iret C.1 C.2.1 E1 (fun t ht hW => ⟨⟨rfl, by rw [ht]; exact hP, by rw [ht]; exact hz, hA⟩, hS.F ht⟩) hS.2.2 hd C.2.2.2.2.2.2.1
theorem fv_zret {X : fh_X} {R : Room} {nL : Nat} {z : Nat × Nat × Nat} {K : fh_K} {M : fh_M} {pc : Nat} {lv : List (Nat × Value)} {st : List Value} {cc : ByteArray} {own : String} {v : Int32} {sz : Nat} (C : fh_C X nL cc own) (E : fh_E X R (some .boolean) (some (.int v)) K M sz) (hv : v = 0 ∨ v = 1) (hd : decode cc pc = .ok (.ireturn, 1)) : fh_V X R nL (sz, R.cells, R.slots) K M pc lv [.int v] := by
  obtain ⟨p, l, e, s, m, args, below, meth, c, D, A, Q⟩ := X
  obtain ⟨E1, E2⟩ := E
  subst E2
  exact fun H locs ls hP hz hS hA hl => W.zret C.1 C.2.1 E1 (narrow_z hv).1 (fun t ht hW => ⟨⟨rfl, by rw [ht]; exact hP, by rw [ht]; exact hz, hA⟩, hS.F ht⟩) hS.2.2 hd C.2.2.2.2.2.2.1
theorem fv_lret {X : fh_X} {R : Room} {nL : Nat} {z : Nat × Nat × Nat} {K : fh_K} {M : fh_M} {pc : Nat} {lv : List (Nat × Value)} {st : List Value} {cc : ByteArray} {own : String} {v : Int64} {sz : Nat} (C : fh_C X nL cc own) (E : fh_E X R (some .long) (some (.long v)) K M sz) (hd : decode cc pc = .ok (.lreturn, 1)) : fh_V X R nL (sz, R.cells, R.slots) K M pc lv [.long v] := by
  obtain ⟨p, l, e, s, m, args, below, meth, c, D, A, Q⟩ := X
  obtain ⟨E1, E2⟩ := E
  subst E2
  exact fun H locs ls hP hz hS hA hl => W.lret C.1 C.2.1 E1 (fun t ht hW => ⟨⟨rfl, by rw [ht]; exact hP, by rw [ht]; exact hz, hA⟩, hS.F ht⟩) hS.2.2 hd C.2.2.2.2.2.2.1
theorem fv_vret {X : fh_X} {R : Room} {nL : Nat} {z : Nat × Nat × Nat} {K : fh_K} {M : fh_M} {pc : Nat} {lv : List (Nat × Value)} {st : List Value} {cc : ByteArray} {own : String} {sz : Nat} (C : fh_C X nL cc own) (E : fh_E X R none none K M sz) (hd : decode cc pc = .ok (.return_, 1)) : fh_V X R nL (sz, R.cells, R.slots) K M pc lv [] := by
  obtain ⟨p, l, e, s, m, args, below, meth, c, D, A, Q⟩ := X
  obtain ⟨E1, E2⟩ := E
  subst E2
  exact fun H locs ls hP hz hS hA hl => W.vret C.1 C.2.1 E1 (fun t ht hW => ⟨⟨rfl, by rw [ht]; exact hP, by rw [ht]; exact hz, hA⟩, hS.F ht⟩) hS.2.2 hd C.2.2.2.2.2.2.1
theorem fv_aret {X : fh_X} {R : Room} {nL : Nat} {z : Nat × Nat × Nat} {K : fh_K} {M : fh_M} {pc : Nat} {lv : List (Nat × Value)} {st : List Value} {cc : ByteArray} {own : String} {v : Option Nat} {rt : FieldType} {sz : Nat} (C : fh_C X nL cc own) (E : fh_E X R (some rt) (some (va_rf v)) K M sz) (hrt : (∃ n, rt = .object n) ∨ ∃ t, rt = .array t) (hd : decode cc pc = .ok (.areturn, 1)) : fh_V X R nL (sz, R.cells, R.slots) K M pc lv [va_rf v] := by
  obtain ⟨p, l, e, s, m, args, below, meth, c, D, A, Q⟩ := X
  obtain ⟨E1, E2⟩ := E
  subst E2
  exact fun H locs ls hP hz hS hA hl => W.aret C.1 C.2.1 E1 hrt (by cases v with | none => exact Or.inl rfl | some v => exact Or.inr ⟨v, rfl⟩) (fun t ht hW => ⟨⟨rfl, by rw [ht]; exact hP, by rw [ht]; exact hz, hA⟩, hS.F ht⟩) hS.2.2 hd C.2.2.2.2.2.2.1
/-- behind a call -/
theorem fh_after {p : Program} {l : Launch} {e : Env} {s : State} {m : MethodId} {args : Array Value} {below : List Frame} {meth : Method} {c : Code} {D : fh_D} {A : Nat → Prop} {Q : State → Prop} {R : Room} {nL mc ms sz' cells slots : Nat} {H : Heap} {locs : List Loc} {K' : fh_K} {M' : fh_M} {pc : Nat} {ls : Array Slot} {lv : List (Nat × Value)} {st stk : List Value} {a : Array Value} {ov : Option Value} (hS : va_S A s.heap H locs) (hl : lv_has ls nL lv)
    (hr : va_Run p l e R s m args below meth c H locs cells slots mc ms (F0 m pc ls stk) st (fh_Qc D ov K' M' sz' A a) A)
    (kk : fh_V (p, l, e, s, m, args, below, meth, c, D, A, Q) R nL (sz', cells + mc, slots + ms) K' M' (pc + 3) lv (ov.toList ++ st)) : W p l e R s m args below meth c H locs cells slots Q (F0 m pc ls stk) := by
  intro T hT X
  obtain ⟨v, st₀, t, T', L, h0, X', hL, e1, e2, ⟨⟨hv, hp, hsz, hA'⟩, hz, hk⟩, stp⟩ := hr T hT X
  cases hv
  rw [h0] at hz hk
  rw [← e1] at hp hsz hz hk
  obtain ⟨t2, a1, b1⟩ := kk T'.heap (locs ++ L) ls hp hsz ⟨Nat.le_trans hS.1 hz, fun q h1 h2 => (hk q (Nat.lt_of_lt_of_le h1 hS.1) h2).trans (hS.2.1 q h1 h2), fun q hq => (List.mem_append.mp hq).elim (hS.2.2 q) (hL q)⟩ hA' hl T' rfl X'
  exact ⟨t2, stp t2 a1, b1⟩
def fh_ms (y : MethodName) (bytes : ByteArray) (maxL : Nat) (ret : Option FieldType) (n : Nat) : Prop := Cond.code y bytes maxL ret ∈ fh_W ∧ Cond.static y ∈ fh_W ∧ Cond.initialized y.cls ∈ fh_W ∧ y.cls ≠ "java/lang/invoke/MethodHandle" ∧ y.cls ≠ "java/lang/invoke/VarHandle" ∧ (parseMethodDescriptor y.desc).map (fun d => d.parameters.length) = some n
def fh_mv (y : MethodName) (bytes : ByteArray) (maxL : Nat) (ret : Option FieldType) (n ci : Nat) : Prop := Cond.code y bytes maxL ret ∈ fh_W ∧ Cond.instanceMethod y ∈ fh_W ∧ Cond.initialized y.cls ∈ fh_W ∧ y.cls ≠ "java/lang/invoke/MethodHandle" ∧ y.cls ≠ "java/lang/invoke/VarHandle" ∧ (parseMethodDescriptor y.desc).map (fun d => d.parameters.length) = some n ∧ ci < 12 ∧ ∃ q : vw_C, vwCl[ci]? = some q ∧ q.1 = y.cls
theorem fh_preS {p : Program} {s : State} {D : fh_D} {A : Nat → Prop} {K : fh_K} {M : fh_M} {H : Heap} {locs : List Loc} {sz : Nat} {As : List Value} (hP : fh_P D K M H) (hz : H.size = sz) (hS : va_S A s.heap H locs) (hA : ∀ a, (K a).1 ≠ 0 → A a) (hK : fh_Ks D s) (hq : ∀ q, s.heap.size ≤ q → A q) : PreS s H (fh_Pc D K M sz A As) As := ⟨fh_blind, fun U hU hW => ⟨rfl, by rw [hU]; exact hz, by rw [hU]; exact hP, fh_Ks_warm hW hK, hA, fun q h => hq q (Nat.le_trans hS.1 (by omega))⟩⟩
theorem fv_callS {X : fh_X} {R : Room} {nL : Nat} {z : Nat × Nat × Nat} {K : fh_K} {M : fh_M} {pc : Nat} {lv : List (Nat × Value)} {st : List Value} {cc : ByteArray} {own : String} {y : MethodName} {bytes : ByteArray} {maxL n index sz' : Nat} {ret : Option FieldType} {rm : Room} {stk : List Value} {ov : Option Value} {K' : fh_K} {M' : fh_M} (As : List Value) (C : fh_C X nL cc own) (mi : fh_ms y bytes maxL ret n) (hlk : Cond.methodLink own index y ∈ fh_W) (hM : fh_Met X.2.1 y bytes maxL ret rm X.2.2.2.2.2.2.2.2.2.1 K M z.1 X.2.2.2.2.2.2.2.2.2.2.1 As ov K' M' sz') (hR : rm.frames + 1 ≤ R.frames ∧ 8 + (maxL + 11) + rm.locals ≤ R.locals) (hcs : z.2.1 + rm.cells ≤ R.cells ∧ z.2.2 + rm.slots ≤ R.slots) (hn : As.length = n) (hst : stk = As.reverse ++ st) (hro : (st.map fun v => v.category).sum ≤ 8) (hd : decode cc pc = .ok (.invokestatic index, 3)) (kk : fh_V X R nL (sz', z.2.1 + rm.cells, z.2.2 + rm.slots) K' M' (pc + 3) lv (ov.toList ++ st)) : fh_V X R nL z K M pc lv stk := by
  obtain ⟨p, l, e, s, m, args, below, meth, c, D, A, Q⟩ := X
  subst hst
  intro H locs ls hP hz hS hA hl
  have hts := C.2.2.2.2.1
  exact fh_after hS hl (va_runS (As := As) (rest := st) ⟨C.1, C.2.1, C.2.2.1, C.2.2.2.1, hts⟩ hM ⟨callB_of n hts (fh_goodC mi.1) rfl rfl rfl (hts _ mi.2.2.1) (hts _ hlk) mi.2.2.2 hR, hts _ mi.2.1⟩ (fh_preS (p := p) hP hz hS hA C.2.2.2.2.2.1 C.2.2.2.2.2.2.2) rfl hn hl.1 rfl (lv_room hro) hd hcs) kk
theorem fv_callSN {X : fh_X} {R : Room} {nL : Nat} {z : Nat × Nat × Nat} {K : fh_K} {M : fh_M} {pc : Nat} {lv : List (Nat × Value)} {st : List Value} {cc : ByteArray} {own : String} {y : MethodName} {bytes : ByteArray} {maxL n index sz' : Nat} {host : String} {ret : Option FieldType} {rm : Room} {stk : List Value} {ov : Option Value} {K' : fh_K} {M' : fh_M} (As : List Value) (C : fh_C X nL cc own) (mi : fh_ms y bytes maxL ret n) (hlk : (own, index, y, host) ∈ fh_nest) (hM : fh_Met X.2.1 y bytes maxL ret rm X.2.2.2.2.2.2.2.2.2.1 K M z.1 X.2.2.2.2.2.2.2.2.2.2.1 As ov K' M' sz') (hR : rm.frames + 1 ≤ R.frames ∧ 8 + (maxL + 11) + rm.locals ≤ R.locals) (hcs : z.2.1 + rm.cells ≤ R.cells ∧ z.2.2 + rm.slots ≤ R.slots) (hn : As.length = n) (hst : stk = As.reverse ++ st) (hro : (st.map fun v => v.category).sum ≤ 8) (hd : decode cc pc = .ok (.invokestatic index, 3)) (kk : fh_V X R nL (sz', z.2.1 + rm.cells, z.2.2 + rm.slots) K' M' (pc + 3) lv (ov.toList ++ st)) : fh_V X R nL z K M pc lv stk := by
  obtain ⟨p, l, e, s, m, args, below, meth, c, D, A, Q⟩ := X
  subst hst
  intro H locs ls hP hz hS hA hl
  have hts := C.2.2.2.2.1
  exact fh_after hS hl (va_runSN (As := As) (rest := st) ⟨C.1, C.2.1, C.2.2.1, C.2.2.2.1, hts⟩ hM ⟨va_cnB n hts (fh_goodC mi.1) rfl rfl rfl (C.2.2.2.2.2.1.2.1 _ hlk) (hts _ mi.2.2.1) mi.2.2.2 hR, hts _ mi.2.1, trivial⟩ (fh_preS (p := p) hP hz hS hA C.2.2.2.2.2.1 C.2.2.2.2.2.2.2) rfl hn hl.1 rfl (lv_room hro) hd hcs) kk
theorem fv_callV {X : fh_X} {R : Room} {nL : Nat} {z : Nat × Nat × Nat} {K : fh_K} {M : fh_M} {pc : Nat} {lv : List (Nat × Value)} {st : List Value} {cc : ByteArray} {own : String} {y : MethodName} {bytes : ByteArray} {maxL n index sz' ci b : Nat} {ret : Option FieldType} {rm : Room} {stk : List Value} {ov : Option Value} {K' : fh_K} {M' : fh_M} {r : Option Nat} (As : List Value) (C : fh_C X nL cc own) (mi : fh_mv y bytes maxL ret n ci) (hsel : Cond.selects y.cls y y ∈ fh_W) (hlk : Cond.methodLink own index y ∈ fh_W) (hr : r = some b) (hk : (K b).1 = ci + 1) (hM : fh_Met X.2.1 y bytes maxL ret rm X.2.2.2.2.2.2.2.2.2.1 K M z.1 X.2.2.2.2.2.2.2.2.2.2.1 (va_rf (some b) :: As) ov K' M' sz') (hR : rm.frames + 1 ≤ R.frames ∧ 8 + (maxL + 11) + rm.locals ≤ R.locals) (hcs : z.2.1 + rm.cells ≤ R.cells ∧ z.2.2 + rm.slots ≤ R.slots) (hn : As.length = n) (hst : stk = As.reverse ++ va_rf r :: st) (hro : (st.map fun v => v.category).sum ≤ 8) (hd : decode cc pc = .ok (.invokevirtual index, 3)) (kk : fh_V X R nL (sz', z.2.1 + rm.cells, z.2.2 + rm.slots) K' M' (pc + 3) lv (ov.toList ++ st)) : fh_V X R nL z K M pc lv stk := by
  obtain ⟨p, l, e, s, m, args, below, meth, c, D, A, Q⟩ := X
  subst hst; subst hr
  intro H locs ls hP hz hS hA hl
  have hts := C.2.2.2.2.1
  obtain ⟨m1, m2, m3, m4, m5, m6, m7, q, m8, m9⟩ := mi
  have hS' := fh_preS (p := p) (As := va_rf (some b) :: As) hP hz hS hA C.2.2.2.2.2.1 C.2.2.2.2.2.2.2
  have hrc := va_recv (D := (D.1, D.2.1)) C.2.2.2.2.2.1.1 (fh_one hP (by omega) (fh_cell_o hk m7)) m8 (q0 := 0) rfl
  rw [m9] at hrc
  exact fh_after hS hl (va_runV (C := y.cls) (b := b) (As := As) (rest := st) ⟨C.1, C.2.1, C.2.2.1, C.2.2.2.1, hts⟩ hM ⟨callB_of n hts (fh_goodC m1) rfl rfl rfl (hts _ m3) (hts _ hlk) ⟨m4, m5, m6⟩ hR, hts _ m2, hts _ hsel⟩ ⟨hS'.1, hrc, hS'.2⟩ rfl hn hl.1 rfl (lv_room hro) hd hcs) kk
theorem fv_callI {X : fh_X} {R : Room} {nL : Nat} {z : Nat × Nat × Nat} {K : fh_K} {M : fh_M} {pc : Nat} {lv : List (Nat × Value)} {st : List Value} {cc : ByteArray} {own : String} {y : MethodName} {bytes : ByteArray} {maxL n index sz' ci b : Nat} {rm : Room} {stk : List Value} {ov : Option Value} {K' : fh_K} {M' : fh_M} (As : List Value) (C : fh_C X nL cc own) (mi : fh_mv y bytes maxL none n ci) (hy : y.name = "<init>") (hlk : Cond.methodLink own index y ∈ fh_W) (hM : fh_Met X.2.1 y bytes maxL none rm X.2.2.2.2.2.2.2.2.2.1 K M z.1 X.2.2.2.2.2.2.2.2.2.2.1 (va_rf (some b) :: As) ov K' M' sz') (hR : rm.frames + 1 ≤ R.frames ∧ 8 + (maxL + 11) + rm.locals ≤ R.locals) (hcs : z.2.1 + rm.cells ≤ R.cells ∧ z.2.2 + rm.slots ≤ R.slots) (hn : As.length = n) (hst : stk = As.reverse ++ va_rf (some b) :: st) (hro : (st.map fun v => v.category).sum ≤ 8) (hd : decode cc pc = .ok (.invokespecial index, 3)) (kk : fh_V X R nL (sz', z.2.1 + rm.cells, z.2.2 + rm.slots) K' M' (pc + 3) lv (ov.toList ++ st)) : fh_V X R nL z K M pc lv stk := by
  obtain ⟨p, l, e, s, m, args, below, meth, c, D, A, Q⟩ := X
  subst hst
  intro H locs ls hP hz hS hA hl
  have hts := C.2.2.2.2.1
  obtain ⟨m1, m2, m3, m4, m5, m6, m7, q, m8, m9⟩ := mi
  have hS' := fh_preS (p := p) (As := va_rf (some b) :: As) hP hz hS hA C.2.2.2.2.2.1 C.2.2.2.2.2.2.2
  exact fh_after hS hl (va_runI (b := b) (As := As) (rest := st) ⟨C.1, C.2.1, C.2.2.1, C.2.2.2.1, hts⟩ hM ⟨callB_of n hts (fh_goodC m1) rfl rfl rfl (hts _ m3) (hts _ hlk) ⟨m4, m5, m6⟩ hR, hy, hts _ m2⟩ hS' rfl hn hl.1 rfl (lv_room hro) hd hcs) kk
theorem fv_callIN {X : fh_X} {R : Room} {nL : Nat} {z : Nat × Nat × Nat} {K : fh_K} {M : fh_M} {pc : Nat} {lv : List (Nat × Value)} {st : List Value} {cc : ByteArray} {own : String} {y : MethodName} {bytes : ByteArray} {maxL n index sz' ci b : Nat} {host : String} {rm : Room} {stk : List Value} {ov : Option Value} {K' : fh_K} {M' : fh_M} (As : List Value) (C : fh_C X nL cc own) (mi : fh_mv y bytes maxL none n ci) (hy : y.name = "<init>") (hlk : (own, index, y, host) ∈ fh_nest) (hM : fh_Met X.2.1 y bytes maxL none rm X.2.2.2.2.2.2.2.2.2.1 K M z.1 X.2.2.2.2.2.2.2.2.2.2.1 (va_rf (some b) :: As) ov K' M' sz') (hR : rm.frames + 1 ≤ R.frames ∧ 8 + (maxL + 11) + rm.locals ≤ R.locals) (hcs : z.2.1 + rm.cells ≤ R.cells ∧ z.2.2 + rm.slots ≤ R.slots) (hn : As.length = n) (hst : stk = As.reverse ++ va_rf (some b) :: st) (hro : (st.map fun v => v.category).sum ≤ 8) (hd : decode cc pc = .ok (.invokespecial index, 3)) (kk : fh_V X R nL (sz', z.2.1 + rm.cells, z.2.2 + rm.slots) K' M' (pc + 3) lv (ov.toList ++ st)) : fh_V X R nL z K M pc lv stk := by
  obtain ⟨p, l, e, s, m, args, below, meth, c, D, A, Q⟩ := X
  subst hst
  intro H locs ls hP hz hS hA hl
  have hts := C.2.2.2.2.1
  obtain ⟨m1, m2, m3, m4, m5, m6, m7, q, m8, m9⟩ := mi
  have hS' := fh_preS (p := p) (As := va_rf (some b) :: As) hP hz hS hA C.2.2.2.2.2.1 C.2.2.2.2.2.2.2
  exact fh_after hS hl (va_runIN (b := b) (As := As) (rest := st) ⟨C.1, C.2.1, C.2.2.1, C.2.2.2.1, hts⟩ hM ⟨va_cnB n hts (fh_goodC m1) rfl rfl rfl (C.2.2.2.2.2.1.2.1 _ hlk) (hts _ m3) ⟨m4, m5, m6⟩ hR, hy, hts _ m2⟩ hS' rfl hn hl.1 rfl (lv_room hro) hd hcs) kk
/-- a contract out of its walk -/
theorem fh_enter {l : Launch} {y : MethodName} {cc : ByteArray} {maxL : Nat} {ret : Option FieldType} {rm : Room} {D : fh_D} {K : fh_K} {M : fh_M} {sz : Nat} {A : Nat → Prop} {av : List Value} {ov : Option Value} {K' : fh_K} {M' : fh_M} {sz' : Nat} {lv : List (Nat × Value)} (hy : plainName y.cls = true) (hlen : (lg_sl av).length ≤ maxL) (hlv : lv_args 0 av = lv)
    (body : ∀ X : fh_X, fh_C X maxL cc y.cls → fh_E X rm ret ov K' M' sz' → X.2.2.2.2.2.2.2.1.name = y.name → X.2.1 = l → X.2.2.2.2.2.2.2.2.2.1 = D → X.2.2.2.2.2.2.2.2.2.2.1 = A → fh_V X rm maxL (sz, 0, 0) K M 0 lv []) : fh_Met l y cc maxL ret rm D K M sz A av ov K' M' sz' := by
  refine Met.ofW (cc := cc) (maxL := maxL) (ret := ret) hy rfl ?_
  intro p e s m args below meth c s₁ B hml hv
  obtain ⟨rfl, hsz, hP, hK, hA, hq⟩ := hv
  have hts := atoms_spec (ws := Cond.code y cc maxL ret :: fh_W) B.pre
  have hown : s.vm.findClass y.cls = some m.cls := findClass_of_methodNamed B.named
  have hl := lv_entry av (n := maxL) hlen
  rw [hlv] at hl
  rw [lg_entry_eq]
  subst hsz
  exact body (p, l, e, s, m, av.toArray, below, meth, c, D, A, MQ below (fh_Qc D ov K' M' sz' A) av.toArray s rm.cells rm.slots A) ⟨B.exec, B.bytes, hml, hown, fun w hw => hts w (List.mem_cons_of_mem _ hw), hK, B.notSynchronized, hq⟩ ⟨B.returns, rfl⟩ (name_of_methodNamed B.named B.method).1 rfl rfl rfl s.heap [] _ hP rfl va_S.rf hA hl
end
section
theorem fh_mem {w : Cond} (i : Nat) (h : lw_tbl[i]? = some w) (g : goodWord w = true) : w ∈ fh_W := List.mem_filter.mpr ⟨List.mem_of_getElem? h, g⟩
theorem iw_0 : ∀ w ∈ u_ws RX0 TX0 2, w ∈ fh_W := by decide +kernel
theorem iw_1 : ∀ w ∈ u_ws RX1 TX1 2, w ∈ fh_W := by decide +kernel
theorem iw_2 : ∀ w ∈ u_ws RX2 TX2 4, w ∈ fh_W := by decide +kernel
theorem iw_3 : ∀ w ∈ u_ws RX3 TX3 3, w ∈ fh_W := by decide +kernel
theorem iw_4 : ∀ w ∈ u_ws RX4 TX4 7, w ∈ fh_W := by decide +kernel
theorem iw_5 : ∀ w ∈ u_ws RX5 TX5 3, w ∈ fh_W := by decide +kernel
theorem iw_6 : ∀ w ∈ u_ws RX6 TX6 2, w ∈ fh_W := by decide +kernel
theorem iw_7 : ∀ w ∈ u_ws RX7 TX7 9, w ∈ fh_W := by decide +kernel
theorem iw_8 : ∀ w ∈ u_ws RX8 TX8 5, w ∈ fh_W := by decide +kernel
theorem iw_9 : ∀ w ∈ u_ws RX9 TX9 2, w ∈ fh_W := by decide +kernel
theorem iw_10 : ∀ w ∈ u_ws RX10 TX10 15, w ∈ fh_W := by decide +kernel
theorem iw_11 : ∀ w ∈ u_ws RX11 TX11 43, w ∈ fh_W := by decide +kernel
theorem fl_RX0_21 : fh_fl RX0 21 0 0 2 true (.array .int) := ⟨RX0, TX0, tyX0, 2, rfl, iw_0, tyX0_ok, nmX0, by decide, by decide, by decide, by decide, rfl, rfl, rfl, fh_mem 69 (by decide +kernel) (by decide +kernel)⟩
theorem fl_RX10_301 : fh_fl RX10 301 0 0 2 true (.array .int) := ⟨RX0, TX0, tyX0, 2, rfl, iw_0, tyX0_ok, nmX0, by decide, by decide, by decide, by decide, rfl, rfl, rfl, fh_mem 70 (by decide +kernel) (by decide +kernel)⟩
theorem fl_RX0_9 : fh_fl RX0 9 0 1 0 false .int := ⟨RX0, TX0, tyX0, 2, rfl, iw_0, tyX0_ok, nmX0, by decide, by decide, by decide, by decide, rfl, rfl, rfl, fh_mem 71 (by decide +kernel) (by decide +kernel)⟩
theorem fl_RX10_99 : fh_fl RX10 99 0 1 0 false .int := ⟨RX0, TX0, tyX0, 2, rfl, iw_0, tyX0_ok, nmX0, by decide, by decide, by decide, by decide, rfl, rfl, rfl, fh_mem 72 (by decide +kernel) (by decide +kernel)⟩
theorem fl_RX1_9 : fh_fl RX1 9 1 0 2 true (.array .int) := ⟨RX1, TX1, tyX1, 2, rfl, iw_1, tyX1_ok, nmX1, by decide, by decide, by decide, by decide, rfl, rfl, rfl, fh_mem 92 (by decide +kernel) (by decide +kernel)⟩
theorem fl_RX1_15 : fh_fl RX1 15 1 1 2 true (.array .int) := ⟨RX1, TX1, tyX1, 2, rfl, iw_1, tyX1_ok, nmX1, by decide, by decide, by decide, by decide, rfl, rfl, rfl, fh_mem 93 (by decide +kernel) (by decide +kernel)⟩
theorem fl_RX3_9 : fh_fl RX3 9 3 0 2 true (.array .int) := ⟨RX3, TX3, tyX3, 3, rfl, iw_3, tyX3_ok, nmX3, by decide, by decide, by decide, by decide, rfl, rfl, rfl, fh_mem 105 (by decide +kernel) (by decide +kernel)⟩
theorem fl_RX6_30 : fh_fl RX6 30 3 0 2 true (.array .int) := ⟨RX3, TX3, tyX3, 3, rfl, iw_3, tyX3_ok, nmX3, by decide, by decide, by decide, by decide, rfl, rfl, rfl, fh_mem 106 (by decide +kernel) (by decide +kernel)⟩
theorem fl_RX3_15 : fh_fl RX3 15 3 1 2 true (.array .int) := ⟨RX3, TX3, tyX3, 3, rfl, iw_3, tyX3_ok, nmX3, by decide, by decide, by decide, by decide, rfl, rfl, rfl, fh_mem 107 (by decide +kernel) (by decide +kernel)⟩
theorem fl_RX6_33 : fh_fl RX6 33 3 1 2 true (.array .int) := ⟨RX3, TX3, tyX3, 3, rfl, iw_3, tyX3_ok, nmX3, by decide, by decide, by decide, by decide, rfl, rfl, rfl, fh_mem 108 (by decide +kernel) (by decide +kernel)⟩
theorem fl_RX3_18 : fh_fl RX3 18 3 2 0 false .int := ⟨RX3, TX3, tyX3, 3, rfl, iw_3, tyX3_ok, nmX3, by decide, by decide, by decide, by decide, rfl, rfl, rfl, fh_mem 109 (by decide +kernel) (by decide +kernel)⟩
theorem fl_RX6_24 : fh_fl RX6 24 3 2 0 false .int := ⟨RX3, TX3, tyX3, 3, rfl, iw_3, tyX3_ok, nmX3, by decide, by decide, by decide, by decide, rfl, rfl, rfl, fh_mem 110 (by decide +kernel) (by decide +kernel)⟩
theorem fl_RX10_269 : fh_fl RX10 269 3 2 0 false .int := ⟨RX3, TX3, tyX3, 3, rfl, iw_3, tyX3_ok, nmX3, by decide, by decide, by decide, by decide, rfl, rfl, rfl, fh_mem 111 (by decide +kernel) (by decide +kernel)⟩
theorem fl_RX9_11 : fh_fl RX9 11 9 0 2 true (.array (.object "FileHouse$Turner")) := ⟨RX9, TX9, tyX9, 2, rfl, iw_9, tyX9_ok, nmX9, by decide, by decide, by decide, by decide, rfl, rfl, rfl, fh_mem 127 (by decide +kernel) (by decide +kernel)⟩
theorem fl_RX9_17 : fh_fl RX9 17 9 1 0 false .int := ⟨RX9, TX9, tyX9, 2, rfl, iw_9, tyX9_ok, nmX9, by decide, by decide, by decide, by decide, rfl, rfl, rfl, fh_mem 128 (by decide +kernel) (by decide +kernel)⟩
theorem fl_RX6_58 : fh_fl RX6 58 9 1 0 false .int := ⟨RX9, TX9, tyX9, 2, rfl, iw_9, tyX9_ok, nmX9, by decide, by decide, by decide, by decide, rfl, rfl, rfl, fh_mem 129 (by decide +kernel) (by decide +kernel)⟩
theorem fl_RX5_55 : fh_fl RX5 55 9 1 0 false .int := ⟨RX9, TX9, tyX9, 2, rfl, iw_9, tyX9_ok, nmX9, by decide, by decide, by decide, by decide, rfl, rfl, rfl, fh_mem 130 (by decide +kernel) (by decide +kernel)⟩
theorem fl_RX10_270 : fh_fl RX10 270 9 1 0 false .int := ⟨RX9, TX9, tyX9, 2, rfl, iw_9, tyX9_ok, nmX9, by decide, by decide, by decide, by decide, rfl, rfl, rfl, fh_mem 131 (by decide +kernel) (by decide +kernel)⟩
theorem fl_RX5_9 : fh_fl RX5 9 5 0 2 true (.array .long) := ⟨RX5, TX5, tyX5, 3, rfl, iw_5, tyX5_ok, nmX5, by decide, by decide, by decide, by decide, rfl, rfl, rfl, fh_mem 143 (by decide +kernel) (by decide +kernel)⟩
theorem fl_RX5_15 : fh_fl RX5 15 5 1 2 true (.array .long) := ⟨RX5, TX5, tyX5, 3, rfl, iw_5, tyX5_ok, nmX5, by decide, by decide, by decide, by decide, rfl, rfl, rfl, fh_mem 144 (by decide +kernel) (by decide +kernel)⟩
theorem fl_RX5_18 : fh_fl RX5 18 5 2 2 true (.array .long) := ⟨RX5, TX5, tyX5, 3, rfl, iw_5, tyX5_ok, nmX5, by decide, by decide, by decide, by decide, rfl, rfl, rfl, fh_mem 145 (by decide +kernel) (by decide +kernel)⟩
theorem fl_RX6_9 : fh_fl RX6 9 6 0 2 true (.array .int) := ⟨RX6, TX6, tyX6, 2, rfl, iw_6, tyX6_ok, nmX6, by decide, by decide, by decide, by decide, rfl, rfl, rfl, fh_mem 160 (by decide +kernel) (by decide +kernel)⟩
theorem fl_RX6_15 : fh_fl RX6 15 6 1 2 true (.array .int) := ⟨RX6, TX6, tyX6, 2, rfl, iw_6, tyX6_ok, nmX6, by decide, by decide, by decide, by decide, rfl, rfl, rfl, fh_mem 161 (by decide +kernel) (by decide +kernel)⟩
theorem fl_RX4_9 : fh_fl RX4 9 4 0 2 true (.array .int) := ⟨RX4, TX4, tyX4, 7, rfl, iw_4, tyX4_ok, nmX4, by decide, by decide, by decide, by decide, rfl, rfl, rfl, fh_mem 173 (by decide +kernel) (by decide +kernel)⟩
theorem fl_RX10_177 : fh_fl RX10 177 4 0 2 true (.array .int) := ⟨RX4, TX4, tyX4, 7, rfl, iw_4, tyX4_ok, nmX4, by decide, by decide, by decide, by decide, rfl, rfl, rfl, fh_mem 174 (by decide +kernel) (by decide +kernel)⟩
theorem fl_RX4_15 : fh_fl RX4 15 4 1 2 true (.array .int) := ⟨RX4, TX4, tyX4, 7, rfl, iw_4, tyX4_ok, nmX4, by decide, by decide, by decide, by decide, rfl, rfl, rfl, fh_mem 175 (by decide +kernel) (by decide +kernel)⟩
theorem fl_RX10_180 : fh_fl RX10 180 4 1 2 true (.array .int) := ⟨RX4, TX4, tyX4, 7, rfl, iw_4, tyX4_ok, nmX4, by decide, by decide, by decide, by decide, rfl, rfl, rfl, fh_mem 176 (by decide +kernel) (by decide +kernel)⟩
theorem fl_RX4_18 : fh_fl RX4 18 4 2 2 true (.array .int) := ⟨RX4, TX4, tyX4, 7, rfl, iw_4, tyX4_ok, nmX4, by decide, by decide, by decide, by decide, rfl, rfl, rfl, fh_mem 177 (by decide +kernel) (by decide +kernel)⟩
theorem fl_RX10_183 : fh_fl RX10 183 4 2 2 true (.array .int) := ⟨RX4, TX4, tyX4, 7, rfl, iw_4, tyX4_ok, nmX4, by decide, by decide, by decide, by decide, rfl, rfl, rfl, fh_mem 178 (by decide +kernel) (by decide +kernel)⟩
theorem fl_RX4_21 : fh_fl RX4 21 4 3 2 false (.array .int) := ⟨RX4, TX4, tyX4, 7, rfl, iw_4, tyX4_ok, nmX4, by decide, by decide, by decide, by decide, rfl, rfl, rfl, fh_mem 179 (by decide +kernel) (by decide +kernel)⟩
theorem fl_RX4_24 : fh_fl RX4 24 4 4 0 false .int := ⟨RX4, TX4, tyX4, 7, rfl, iw_4, tyX4_ok, nmX4, by decide, by decide, by decide, by decide, rfl, rfl, rfl, fh_mem 180 (by decide +kernel) (by decide +kernel)⟩
theorem fl_RX10_176 : fh_fl RX10 176 4 4 0 false .int := ⟨RX4, TX4, tyX4, 7, rfl, iw_4, tyX4_ok, nmX4, by decide, by decide, by decide, by decide, rfl, rfl, rfl, fh_mem 181 (by decide +kernel) (by decide +kernel)⟩
theorem fl_RX4_28 : fh_fl RX4 28 4 5 0 false .int := ⟨RX4, TX4, tyX4, 7, rfl, iw_4, tyX4_ok, nmX4, by decide, by decide, by decide, by decide, rfl, rfl, rfl, fh_mem 182 (by decide +kernel) (by decide +kernel)⟩
theorem fl_RX10_212 : fh_fl RX10 212 4 5 0 false .int := ⟨RX4, TX4, tyX4, 7, rfl, iw_4, tyX4_ok, nmX4, by decide, by decide, by decide, by decide, rfl, rfl, rfl, fh_mem 183 (by decide +kernel) (by decide +kernel)⟩
theorem fl_RX4_31 : fh_fl RX4 31 4 6 0 false .int := ⟨RX4, TX4, tyX4, 7, rfl, iw_4, tyX4_ok, nmX4, by decide, by decide, by decide, by decide, rfl, rfl, rfl, fh_mem 184 (by decide +kernel) (by decide +kernel)⟩
theorem fl_RX10_166 : fh_fl RX10 166 4 6 0 false .int := ⟨RX4, TX4, tyX4, 7, rfl, iw_4, tyX4_ok, nmX4, by decide, by decide, by decide, by decide, rfl, rfl, rfl, fh_mem 185 (by decide +kernel) (by decide +kernel)⟩
theorem fl_RX10_14 : fh_fl RX10 14 10 0 2 true (.object "FileHouse$ByteRow") := ⟨RX10, TX10, tyX10, 15, rfl, iw_10, tyX10_ok, nmX10, by decide, by decide, by decide, by decide, rfl, rfl, rfl, fh_mem 201 (by decide +kernel) (by decide +kernel)⟩
theorem fl_RX10_18 : fh_fl RX10 18 10 1 2 true (.object "FileHouse$ByteRow") := ⟨RX10, TX10, tyX10, 15, rfl, iw_10, tyX10_ok, nmX10, by decide, by decide, by decide, by decide, rfl, rfl, rfl, fh_mem 202 (by decide +kernel) (by decide +kernel)⟩
theorem fl_RX10_23 : fh_fl RX10 23 10 2 2 true (.array (.object "FileHouse$Make")) := ⟨RX10, TX10, tyX10, 15, rfl, iw_10, tyX10_ok, nmX10, by decide, by decide, by decide, by decide, rfl, rfl, rfl, fh_mem 203 (by decide +kernel) (by decide +kernel)⟩
theorem fl_RX10_29 : fh_fl RX10 29 10 3 2 true (.array (.object "FileHouse$StoredFile")) := ⟨RX10, TX10, tyX10, 15, rfl, iw_10, tyX10_ok, nmX10, by decide, by decide, by decide, by decide, rfl, rfl, rfl, fh_mem 204 (by decide +kernel) (by decide +kernel)⟩
theorem fl_RX10_36 : fh_fl RX10 36 10 4 2 true (.object "FileHouse$Machines") := ⟨RX10, TX10, tyX10, 15, rfl, iw_10, tyX10_ok, nmX10, by decide, by decide, by decide, by decide, rfl, rfl, rfl, fh_mem 205 (by decide +kernel) (by decide +kernel)⟩
theorem fl_RX10_43 : fh_fl RX10 43 10 5 2 true (.object "FileHouse$Readers") := ⟨RX10, TX10, tyX10, 15, rfl, iw_10, tyX10_ok, nmX10, by decide, by decide, by decide, by decide, rfl, rfl, rfl, fh_mem 206 (by decide +kernel) (by decide +kernel)⟩
theorem fl_RX10_50 : fh_fl RX10 50 10 6 2 true (.object "FileHouse$Turners") := ⟨RX10, TX10, tyX10, 15, rfl, iw_10, tyX10_ok, nmX10, by decide, by decide, by decide, by decide, rfl, rfl, rfl, fh_mem 207 (by decide +kernel) (by decide +kernel)⟩
theorem fl_RX10_57 : fh_fl RX10 57 10 7 2 true (.object "FileHouse$Roads") := ⟨RX10, TX10, tyX10, 15, rfl, iw_10, tyX10_ok, nmX10, by decide, by decide, by decide, by decide, rfl, rfl, rfl, fh_mem 208 (by decide +kernel) (by decide +kernel)⟩
theorem fl_RX10_64 : fh_fl RX10 64 10 8 2 true (.object "FileHouse$Spans") := ⟨RX10, TX10, tyX10, 15, rfl, iw_10, tyX10_ok, nmX10, by decide, by decide, by decide, by decide, rfl, rfl, rfl, fh_mem 209 (by decide +kernel) (by decide +kernel)⟩
theorem fl_RX10_71 : fh_fl RX10 71 10 9 2 true (.object "FileHouse$Reading") := ⟨RX10, TX10, tyX10, 15, rfl, iw_10, tyX10_ok, nmX10, by decide, by decide, by decide, by decide, rfl, rfl, rfl, fh_mem 210 (by decide +kernel) (by decide +kernel)⟩
theorem fl_RX10_75 : fh_fl RX10 75 10 10 2 true (.object "FileHouse$Reading") := ⟨RX10, TX10, tyX10, 15, rfl, iw_10, tyX10_ok, nmX10, by decide, by decide, by decide, by decide, rfl, rfl, rfl, fh_mem 211 (by decide +kernel) (by decide +kernel)⟩
theorem fl_RX10_78 : fh_fl RX10 78 10 11 0 false .int := ⟨RX10, TX10, tyX10, 15, rfl, iw_10, tyX10_ok, nmX10, by decide, by decide, by decide, by decide, rfl, rfl, rfl, fh_mem 212 (by decide +kernel) (by decide +kernel)⟩
theorem fl_RX10_82 : fh_fl RX10 82 10 12 0 false .int := ⟨RX10, TX10, tyX10, 15, rfl, iw_10, tyX10_ok, nmX10, by decide, by decide, by decide, by decide, rfl, rfl, rfl, fh_mem 213 (by decide +kernel) (by decide +kernel)⟩
theorem fl_RX10_85 : fh_fl RX10 85 10 13 0 false .int := ⟨RX10, TX10, tyX10, 15, rfl, iw_10, tyX10_ok, nmX10, by decide, by decide, by decide, by decide, rfl, rfl, rfl, fh_mem 214 (by decide +kernel) (by decide +kernel)⟩
theorem fl_RX10_88 : fh_fl RX10 88 10 14 1 false .long := ⟨RX10, TX10, tyX10, 15, rfl, iw_10, tyX10_ok, nmX10, by decide, by decide, by decide, by decide, rfl, rfl, rfl, fh_mem 215 (by decide +kernel) (by decide +kernel)⟩
theorem fl_RX2_7 : fh_fl RX2 7 2 0 2 true (.array .int) := ⟨RX2, TX2, tyX2, 4, rfl, iw_2, tyX2_ok, nmX2, by decide, by decide, by decide, by decide, rfl, rfl, rfl, fh_mem 296 (by decide +kernel) (by decide +kernel)⟩
theorem fl_RX4_43 : fh_fl RX4 43 2 0 2 true (.array .int) := ⟨RX2, TX2, tyX2, 4, rfl, iw_2, tyX2_ok, nmX2, by decide, by decide, by decide, by decide, rfl, rfl, rfl, fh_mem 297 (by decide +kernel) (by decide +kernel)⟩
theorem fl_RX10_288 : fh_fl RX10 288 2 0 2 true (.array .int) := ⟨RX2, TX2, tyX2, 4, rfl, iw_2, tyX2_ok, nmX2, by decide, by decide, by decide, by decide, rfl, rfl, rfl, fh_mem 298 (by decide +kernel) (by decide +kernel)⟩
theorem fl_RX2_13 : fh_fl RX2 13 2 1 0 true .int := ⟨RX2, TX2, tyX2, 4, rfl, iw_2, tyX2_ok, nmX2, by decide, by decide, by decide, by decide, rfl, rfl, rfl, fh_mem 299 (by decide +kernel) (by decide +kernel)⟩
theorem fl_RX4_54 : fh_fl RX4 54 2 1 0 true .int := ⟨RX2, TX2, tyX2, 4, rfl, iw_2, tyX2_ok, nmX2, by decide, by decide, by decide, by decide, rfl, rfl, rfl, fh_mem 300 (by decide +kernel) (by decide +kernel)⟩
theorem fl_RX10_149 : fh_fl RX10 149 2 1 0 true .int := ⟨RX2, TX2, tyX2, 4, rfl, iw_2, tyX2_ok, nmX2, by decide, by decide, by decide, by decide, rfl, rfl, rfl, fh_mem 301 (by decide +kernel) (by decide +kernel)⟩
theorem fl_RX2_17 : fh_fl RX2 17 2 2 0 true .boolean := ⟨RX2, TX2, tyX2, 4, rfl, iw_2, tyX2_ok, nmX2, by decide, by decide, by decide, by decide, rfl, rfl, rfl, fh_mem 302 (by decide +kernel) (by decide +kernel)⟩
theorem fl_RX4_46 : fh_fl RX4 46 2 2 0 true .boolean := ⟨RX2, TX2, tyX2, 4, rfl, iw_2, tyX2_ok, nmX2, by decide, by decide, by decide, by decide, rfl, rfl, rfl, fh_mem 303 (by decide +kernel) (by decide +kernel)⟩
theorem fl_RX10_298 : fh_fl RX10 298 2 2 0 true .boolean := ⟨RX2, TX2, tyX2, 4, rfl, iw_2, tyX2_ok, nmX2, by decide, by decide, by decide, by decide, rfl, rfl, rfl, fh_mem 304 (by decide +kernel) (by decide +kernel)⟩
theorem fl_RX2_21 : fh_fl RX2 21 2 3 0 true .int := ⟨RX2, TX2, tyX2, 4, rfl, iw_2, tyX2_ok, nmX2, by decide, by decide, by decide, by decide, rfl, rfl, rfl, fh_mem 305 (by decide +kernel) (by decide +kernel)⟩
theorem fl_RX10_280 : fh_fl RX10 280 2 3 0 true .int := ⟨RX2, TX2, tyX2, 4, rfl, iw_2, tyX2_ok, nmX2, by decide, by decide, by decide, by decide, rfl, rfl, rfl, fh_mem 306 (by decide +kernel) (by decide +kernel)⟩
theorem fl_RX7_31 : fh_fl RX7 31 7 0 2 true (.array .int) := ⟨RX7, TX7, tyX7, 9, rfl, iw_7, tyX7_ok, nmX7, by decide, by decide, by decide, by decide, rfl, rfl, rfl, fh_mem 367 (by decide +kernel) (by decide +kernel)⟩
theorem fl_RX10_158 : fh_fl RX10 158 7 0 2 true (.array .int) := ⟨RX7, TX7, tyX7, 9, rfl, iw_7, tyX7_ok, nmX7, by decide, by decide, by decide, by decide, rfl, rfl, rfl, fh_mem 368 (by decide +kernel) (by decide +kernel)⟩
theorem fl_RX7_35 : fh_fl RX7 35 7 1 0 true .int := ⟨RX7, TX7, tyX7, 9, rfl, iw_7, tyX7_ok, nmX7, by decide, by decide, by decide, by decide, rfl, rfl, rfl, fh_mem 369 (by decide +kernel) (by decide +kernel)⟩
theorem fl_RX10_264 : fh_fl RX10 264 7 1 0 true .int := ⟨RX7, TX7, tyX7, 9, rfl, iw_7, tyX7_ok, nmX7, by decide, by decide, by decide, by decide, rfl, rfl, rfl, fh_mem 370 (by decide +kernel) (by decide +kernel)⟩
theorem fl_RX7_38 : fh_fl RX7 38 7 2 0 true .int := ⟨RX7, TX7, tyX7, 9, rfl, iw_7, tyX7_ok, nmX7, by decide, by decide, by decide, by decide, rfl, rfl, rfl, fh_mem 371 (by decide +kernel) (by decide +kernel)⟩
theorem fl_RX10_209 : fh_fl RX10 209 7 2 0 true .int := ⟨RX7, TX7, tyX7, 9, rfl, iw_7, tyX7_ok, nmX7, by decide, by decide, by decide, by decide, rfl, rfl, rfl, fh_mem 372 (by decide +kernel) (by decide +kernel)⟩
theorem fl_RX7_9 : fh_fl RX7 9 7 3 0 false .boolean := ⟨RX7, TX7, tyX7, 9, rfl, iw_7, tyX7_ok, nmX7, by decide, by decide, by decide, by decide, rfl, rfl, rfl, fh_mem 373 (by decide +kernel) (by decide +kernel)⟩
theorem fl_RX10_205 : fh_fl RX10 205 7 3 0 false .boolean := ⟨RX7, TX7, tyX7, 9, rfl, iw_7, tyX7_ok, nmX7, by decide, by decide, by decide, by decide, rfl, rfl, rfl, fh_mem 374 (by decide +kernel) (by decide +kernel)⟩
theorem fl_RX7_15 : fh_fl RX7 15 7 4 0 false .int := ⟨RX7, TX7, tyX7, 9, rfl, iw_7, tyX7_ok, nmX7, by decide, by decide, by decide, by decide, rfl, rfl, rfl, fh_mem 375 (by decide +kernel) (by decide +kernel)⟩
theorem fl_RX10_128 : fh_fl RX10 128 7 4 0 false .int := ⟨RX7, TX7, tyX7, 9, rfl, iw_7, tyX7_ok, nmX7, by decide, by decide, by decide, by decide, rfl, rfl, rfl, fh_mem 376 (by decide +kernel) (by decide +kernel)⟩
theorem fl_RX5_45 : fh_fl RX5 45 7 4 0 false .int := ⟨RX7, TX7, tyX7, 9, rfl, iw_7, tyX7_ok, nmX7, by decide, by decide, by decide, by decide, rfl, rfl, rfl, fh_mem 377 (by decide +kernel) (by decide +kernel)⟩
theorem fl_RX7_19 : fh_fl RX7 19 7 5 0 false .int := ⟨RX7, TX7, tyX7, 9, rfl, iw_7, tyX7_ok, nmX7, by decide, by decide, by decide, by decide, rfl, rfl, rfl, fh_mem 378 (by decide +kernel) (by decide +kernel)⟩
theorem fl_RX5_39 : fh_fl RX5 39 7 5 0 false .int := ⟨RX7, TX7, tyX7, 9, rfl, iw_7, tyX7_ok, nmX7, by decide, by decide, by decide, by decide, rfl, rfl, rfl, fh_mem 379 (by decide +kernel) (by decide +kernel)⟩
theorem fl_RX10_169 : fh_fl RX10 169 7 5 0 false .int := ⟨RX7, TX7, tyX7, 9, rfl, iw_7, tyX7_ok, nmX7, by decide, by decide, by decide, by decide, rfl, rfl, rfl, fh_mem 380 (by decide +kernel) (by decide +kernel)⟩
theorem fl_RX7_22 : fh_fl RX7 22 7 6 0 false .int := ⟨RX7, TX7, tyX7, 9, rfl, iw_7, tyX7_ok, nmX7, by decide, by decide, by decide, by decide, rfl, rfl, rfl, fh_mem 381 (by decide +kernel) (by decide +kernel)⟩
theorem fl_RX10_283 : fh_fl RX10 283 7 6 0 false .int := ⟨RX7, TX7, tyX7, 9, rfl, iw_7, tyX7_ok, nmX7, by decide, by decide, by decide, by decide, rfl, rfl, rfl, fh_mem 382 (by decide +kernel) (by decide +kernel)⟩
theorem fl_RX7_25 : fh_fl RX7 25 7 7 0 false .int := ⟨RX7, TX7, tyX7, 9, rfl, iw_7, tyX7_ok, nmX7, by decide, by decide, by decide, by decide, rfl, rfl, rfl, fh_mem 383 (by decide +kernel) (by decide +kernel)⟩
theorem fl_RX5_48 : fh_fl RX5 48 7 7 0 false .int := ⟨RX7, TX7, tyX7, 9, rfl, iw_7, tyX7_ok, nmX7, by decide, by decide, by decide, by decide, rfl, rfl, rfl, fh_mem 384 (by decide +kernel) (by decide +kernel)⟩
theorem fl_RX10_263 : fh_fl RX10 263 7 7 0 false .int := ⟨RX7, TX7, tyX7, 9, rfl, iw_7, tyX7_ok, nmX7, by decide, by decide, by decide, by decide, rfl, rfl, rfl, fh_mem 385 (by decide +kernel) (by decide +kernel)⟩
theorem fl_RX7_28 : fh_fl RX7 28 7 8 0 false .int := ⟨RX7, TX7, tyX7, 9, rfl, iw_7, tyX7_ok, nmX7, by decide, by decide, by decide, by decide, rfl, rfl, rfl, fh_mem 386 (by decide +kernel) (by decide +kernel)⟩
theorem fl_RX10_260 : fh_fl RX10 260 7 8 0 false .int := ⟨RX7, TX7, tyX7, 9, rfl, iw_7, tyX7_ok, nmX7, by decide, by decide, by decide, by decide, rfl, rfl, rfl, fh_mem 387 (by decide +kernel) (by decide +kernel)⟩
theorem fl_RX8_7 : fh_fl RX8 7 8 0 0 true .int := ⟨RX8, TX8, tyX8, 5, rfl, iw_8, tyX8_ok, nmX8, by decide, by decide, by decide, by decide, rfl, rfl, rfl, fh_mem 456 (by decide +kernel) (by decide +kernel)⟩
theorem fl_RX6_76 : fh_fl RX6 76 8 0 0 true .int := ⟨RX8, TX8, tyX8, 5, rfl, iw_8, tyX8_ok, nmX8, by decide, by decide, by decide, by decide, rfl, rfl, rfl, fh_mem 457 (by decide +kernel) (by decide +kernel)⟩
theorem fl_RX5_64 : fh_fl RX5 64 8 0 0 true .int := ⟨RX8, TX8, tyX8, 5, rfl, iw_8, tyX8_ok, nmX8, by decide, by decide, by decide, by decide, rfl, rfl, rfl, fh_mem 458 (by decide +kernel) (by decide +kernel)⟩
theorem fl_RX10_190 : fh_fl RX10 190 8 0 0 true .int := ⟨RX8, TX8, tyX8, 5, rfl, iw_8, tyX8_ok, nmX8, by decide, by decide, by decide, by decide, rfl, rfl, rfl, fh_mem 459 (by decide +kernel) (by decide +kernel)⟩
theorem fl_RX8_13 : fh_fl RX8 13 8 1 0 true .int := ⟨RX8, TX8, tyX8, 5, rfl, iw_8, tyX8_ok, nmX8, by decide, by decide, by decide, by decide, rfl, rfl, rfl, fh_mem 460 (by decide +kernel) (by decide +kernel)⟩
theorem fl_RX6_70 : fh_fl RX6 70 8 1 0 true .int := ⟨RX8, TX8, tyX8, 5, rfl, iw_8, tyX8_ok, nmX8, by decide, by decide, by decide, by decide, rfl, rfl, rfl, fh_mem 461 (by decide +kernel) (by decide +kernel)⟩
theorem fl_RX5_89 : fh_fl RX5 89 8 1 0 true .int := ⟨RX8, TX8, tyX8, 5, rfl, iw_8, tyX8_ok, nmX8, by decide, by decide, by decide, by decide, rfl, rfl, rfl, fh_mem 462 (by decide +kernel) (by decide +kernel)⟩
theorem fl_RX10_285 : fh_fl RX10 285 8 1 0 true .int := ⟨RX8, TX8, tyX8, 5, rfl, iw_8, tyX8_ok, nmX8, by decide, by decide, by decide, by decide, rfl, rfl, rfl, fh_mem 463 (by decide +kernel) (by decide +kernel)⟩
theorem fl_RX8_16 : fh_fl RX8 16 8 2 0 true .int := ⟨RX8, TX8, tyX8, 5, rfl, iw_8, tyX8_ok, nmX8, by decide, by decide, by decide, by decide, rfl, rfl, rfl, fh_mem 464 (by decide +kernel) (by decide +kernel)⟩
theorem fl_RX10_295 : fh_fl RX10 295 8 2 0 true .int := ⟨RX8, TX8, tyX8, 5, rfl, iw_8, tyX8_ok, nmX8, by decide, by decide, by decide, by decide, rfl, rfl, rfl, fh_mem 465 (by decide +kernel) (by decide +kernel)⟩
theorem fl_RX8_19 : fh_fl RX8 19 8 3 0 true .int := ⟨RX8, TX8, tyX8, 5, rfl, iw_8, tyX8_ok, nmX8, by decide, by decide, by decide, by decide, rfl, rfl, rfl, fh_mem 466 (by decide +kernel) (by decide +kernel)⟩
theorem fl_RX5_82 : fh_fl RX5 82 8 3 0 true .int := ⟨RX8, TX8, tyX8, 5, rfl, iw_8, tyX8_ok, nmX8, by decide, by decide, by decide, by decide, rfl, rfl, rfl, fh_mem 467 (by decide +kernel) (by decide +kernel)⟩
theorem fl_RX8_22 : fh_fl RX8 22 8 4 0 true .int := ⟨RX8, TX8, tyX8, 5, rfl, iw_8, tyX8_ok, nmX8, by decide, by decide, by decide, by decide, rfl, rfl, rfl, fh_mem 468 (by decide +kernel) (by decide +kernel)⟩
theorem fl_RX6_65 : fh_fl RX6 65 8 4 0 true .int := ⟨RX8, TX8, tyX8, 5, rfl, iw_8, tyX8_ok, nmX8, by decide, by decide, by decide, by decide, rfl, rfl, rfl, fh_mem 469 (by decide +kernel) (by decide +kernel)⟩
theorem fl_RX5_73 : fh_fl RX5 73 8 4 0 true .int := ⟨RX8, TX8, tyX8, 5, rfl, iw_8, tyX8_ok, nmX8, by decide, by decide, by decide, by decide, rfl, rfl, rfl, fh_mem 470 (by decide +kernel) (by decide +kernel)⟩
theorem fl_RX10_195 : fh_fl RX10 195 8 4 0 true .int := ⟨RX8, TX8, tyX8, 5, rfl, iw_8, tyX8_ok, nmX8, by decide, by decide, by decide, by decide, rfl, rfl, rfl, fh_mem 471 (by decide +kernel) (by decide +kernel)⟩
theorem fl_RX11_7 : fh_fl RX11 7 11 0 2 true (.array .byte) := ⟨RX11, TX11, tyX11, 43, rfl, iw_11, tyX11_ok, nmX11, by decide, by decide, by decide, by decide, rfl, rfl, rfl, fh_mem 670 (by decide +kernel) (by decide +kernel)⟩
theorem fl_RX11_102 : fh_fl RX11 102 11 1 0 false .int := ⟨RX11, TX11, tyX11, 43, rfl, iw_11, tyX11_ok, nmX11, by decide, by decide, by decide, by decide, rfl, rfl, rfl, fh_mem 671 (by decide +kernel) (by decide +kernel)⟩
theorem fl_RX11_136 : fh_fl RX11 136 11 2 0 false .int := ⟨RX11, TX11, tyX11, 43, rfl, iw_11, tyX11_ok, nmX11, by decide, by decide, by decide, by decide, rfl, rfl, rfl, fh_mem 672 (by decide +kernel) (by decide +kernel)⟩
theorem fl_RX11_114 : fh_fl RX11 114 11 3 0 false .int := ⟨RX11, TX11, tyX11, 43, rfl, iw_11, tyX11_ok, nmX11, by decide, by decide, by decide, by decide, rfl, rfl, rfl, fh_mem 673 (by decide +kernel) (by decide +kernel)⟩
theorem fl_RX11_13 : fh_fl RX11 13 11 4 2 true (.array .int) := ⟨RX11, TX11, tyX11, 43, rfl, iw_11, tyX11_ok, nmX11, by decide, by decide, by decide, by decide, rfl, rfl, rfl, fh_mem 674 (by decide +kernel) (by decide +kernel)⟩
theorem fl_RX11_17 : fh_fl RX11 17 11 5 2 true (.array .int) := ⟨RX11, TX11, tyX11, 43, rfl, iw_11, tyX11_ok, nmX11, by decide, by decide, by decide, by decide, rfl, rfl, rfl, fh_mem 675 (by decide +kernel) (by decide +kernel)⟩
theorem fl_RX11_20 : fh_fl RX11 20 11 6 2 true (.array .int) := ⟨RX11, TX11, tyX11, 43, rfl, iw_11, tyX11_ok, nmX11, by decide, by decide, by decide, by decide, rfl, rfl, rfl, fh_mem 676 (by decide +kernel) (by decide +kernel)⟩
theorem fl_RX11_23 : fh_fl RX11 23 11 7 2 true (.array .boolean) := ⟨RX11, TX11, tyX11, 43, rfl, iw_11, tyX11_ok, nmX11, by decide, by decide, by decide, by decide, rfl, rfl, rfl, fh_mem 677 (by decide +kernel) (by decide +kernel)⟩
theorem fl_RX11_27 : fh_fl RX11 27 11 8 2 true (.array .int) := ⟨RX11, TX11, tyX11, 43, rfl, iw_11, tyX11_ok, nmX11, by decide, by decide, by decide, by decide, rfl, rfl, rfl, fh_mem 678 (by decide +kernel) (by decide +kernel)⟩
theorem fl_RX11_117 : fh_fl RX11 117 11 9 0 false .int := ⟨RX11, TX11, tyX11, 43, rfl, iw_11, tyX11_ok, nmX11, by decide, by decide, by decide, by decide, rfl, rfl, rfl, fh_mem 679 (by decide +kernel) (by decide +kernel)⟩
theorem fl_RX11_30 : fh_fl RX11 30 11 10 2 true (.array .int) := ⟨RX11, TX11, tyX11, 43, rfl, iw_11, tyX11_ok, nmX11, by decide, by decide, by decide, by decide, rfl, rfl, rfl, fh_mem 680 (by decide +kernel) (by decide +kernel)⟩
theorem fl_RX11_33 : fh_fl RX11 33 11 11 2 true (.array .int) := ⟨RX11, TX11, tyX11, 43, rfl, iw_11, tyX11_ok, nmX11, by decide, by decide, by decide, by decide, rfl, rfl, rfl, fh_mem 681 (by decide +kernel) (by decide +kernel)⟩
theorem fl_RX11_36 : fh_fl RX11 36 11 12 2 true (.array .int) := ⟨RX11, TX11, tyX11, 43, rfl, iw_11, tyX11_ok, nmX11, by decide, by decide, by decide, by decide, rfl, rfl, rfl, fh_mem 682 (by decide +kernel) (by decide +kernel)⟩
theorem fl_RX11_39 : fh_fl RX11 39 11 13 2 true (.array .int) := ⟨RX11, TX11, tyX11, 43, rfl, iw_11, tyX11_ok, nmX11, by decide, by decide, by decide, by decide, rfl, rfl, rfl, fh_mem 683 (by decide +kernel) (by decide +kernel)⟩
theorem fl_RX11_42 : fh_fl RX11 42 11 14 2 true (.array .int) := ⟨RX11, TX11, tyX11, 43, rfl, iw_11, tyX11_ok, nmX11, by decide, by decide, by decide, by decide, rfl, rfl, rfl, fh_mem 684 (by decide +kernel) (by decide +kernel)⟩
theorem fl_RX11_45 : fh_fl RX11 45 11 15 2 true (.array .int) := ⟨RX11, TX11, tyX11, 43, rfl, iw_11, tyX11_ok, nmX11, by decide, by decide, by decide, by decide, rfl, rfl, rfl, fh_mem 685 (by decide +kernel) (by decide +kernel)⟩
theorem fl_RX11_130 : fh_fl RX11 130 11 16 0 false .int := ⟨RX11, TX11, tyX11, 43, rfl, iw_11, tyX11_ok, nmX11, by decide, by decide, by decide, by decide, rfl, rfl, rfl, fh_mem 686 (by decide +kernel) (by decide +kernel)⟩
theorem fl_RX11_48 : fh_fl RX11 48 11 17 2 true (.array .int) := ⟨RX11, TX11, tyX11, 43, rfl, iw_11, tyX11_ok, nmX11, by decide, by decide, by decide, by decide, rfl, rfl, rfl, fh_mem 687 (by decide +kernel) (by decide +kernel)⟩
theorem fl_RX11_51 : fh_fl RX11 51 11 18 2 true (.array .int) := ⟨RX11, TX11, tyX11, 43, rfl, iw_11, tyX11_ok, nmX11, by decide, by decide, by decide, by decide, rfl, rfl, rfl, fh_mem 688 (by decide +kernel) (by decide +kernel)⟩
theorem fl_RX11_133 : fh_fl RX11 133 11 19 0 false .int := ⟨RX11, TX11, tyX11, 43, rfl, iw_11, tyX11_ok, nmX11, by decide, by decide, by decide, by decide, rfl, rfl, rfl, fh_mem 689 (by decide +kernel) (by decide +kernel)⟩
theorem fl_RX11_54 : fh_fl RX11 54 11 20 2 true (.array .int) := ⟨RX11, TX11, tyX11, 43, rfl, iw_11, tyX11_ok, nmX11, by decide, by decide, by decide, by decide, rfl, rfl, rfl, fh_mem 690 (by decide +kernel) (by decide +kernel)⟩
theorem fl_RX11_57 : fh_fl RX11 57 11 21 2 true (.array .int) := ⟨RX11, TX11, tyX11, 43, rfl, iw_11, tyX11_ok, nmX11, by decide, by decide, by decide, by decide, rfl, rfl, rfl, fh_mem 691 (by decide +kernel) (by decide +kernel)⟩
theorem fl_RX11_60 : fh_fl RX11 60 11 22 2 true (.array .int) := ⟨RX11, TX11, tyX11, 43, rfl, iw_11, tyX11_ok, nmX11, by decide, by decide, by decide, by decide, rfl, rfl, rfl, fh_mem 692 (by decide +kernel) (by decide +kernel)⟩
theorem fl_RX11_63 : fh_fl RX11 63 11 23 2 true (.array .int) := ⟨RX11, TX11, tyX11, 43, rfl, iw_11, tyX11_ok, nmX11, by decide, by decide, by decide, by decide, rfl, rfl, rfl, fh_mem 693 (by decide +kernel) (by decide +kernel)⟩
theorem fl_RX11_66 : fh_fl RX11 66 11 24 2 true (.array .int) := ⟨RX11, TX11, tyX11, 43, rfl, iw_11, tyX11_ok, nmX11, by decide, by decide, by decide, by decide, rfl, rfl, rfl, fh_mem 694 (by decide +kernel) (by decide +kernel)⟩
theorem fl_RX11_139 : fh_fl RX11 139 11 25 0 false .int := ⟨RX11, TX11, tyX11, 43, rfl, iw_11, tyX11_ok, nmX11, by decide, by decide, by decide, by decide, rfl, rfl, rfl, fh_mem 695 (by decide +kernel) (by decide +kernel)⟩
theorem fl_RX11_142 : fh_fl RX11 142 11 26 0 false .int := ⟨RX11, TX11, tyX11, 43, rfl, iw_11, tyX11_ok, nmX11, by decide, by decide, by decide, by decide, rfl, rfl, rfl, fh_mem 696 (by decide +kernel) (by decide +kernel)⟩
theorem fl_RX11_69 : fh_fl RX11 69 11 27 2 true (.array .int) := ⟨RX11, TX11, tyX11, 43, rfl, iw_11, tyX11_ok, nmX11, by decide, by decide, by decide, by decide, rfl, rfl, rfl, fh_mem 697 (by decide +kernel) (by decide +kernel)⟩
theorem fl_RX11_72 : fh_fl RX11 72 11 28 2 true (.array .int) := ⟨RX11, TX11, tyX11, 43, rfl, iw_11, tyX11_ok, nmX11, by decide, by decide, by decide, by decide, rfl, rfl, rfl, fh_mem 698 (by decide +kernel) (by decide +kernel)⟩
theorem fl_RX11_75 : fh_fl RX11 75 11 29 2 true (.array .int) := ⟨RX11, TX11, tyX11, 43, rfl, iw_11, tyX11_ok, nmX11, by decide, by decide, by decide, by decide, rfl, rfl, rfl, fh_mem 699 (by decide +kernel) (by decide +kernel)⟩
theorem fl_RX11_163 : fh_fl RX11 163 11 30 0 false .int := ⟨RX11, TX11, tyX11, 43, rfl, iw_11, tyX11_ok, nmX11, by decide, by decide, by decide, by decide, rfl, rfl, rfl, fh_mem 700 (by decide +kernel) (by decide +kernel)⟩
theorem fl_RX11_78 : fh_fl RX11 78 11 31 2 true (.array .int) := ⟨RX11, TX11, tyX11, 43, rfl, iw_11, tyX11_ok, nmX11, by decide, by decide, by decide, by decide, rfl, rfl, rfl, fh_mem 701 (by decide +kernel) (by decide +kernel)⟩
theorem fl_RX11_81 : fh_fl RX11 81 11 32 2 true (.array .int) := ⟨RX11, TX11, tyX11, 43, rfl, iw_11, tyX11_ok, nmX11, by decide, by decide, by decide, by decide, rfl, rfl, rfl, fh_mem 702 (by decide +kernel) (by decide +kernel)⟩
theorem fl_RX11_84 : fh_fl RX11 84 11 33 2 true (.array .int) := ⟨RX11, TX11, tyX11, 43, rfl, iw_11, tyX11_ok, nmX11, by decide, by decide, by decide, by decide, rfl, rfl, rfl, fh_mem 703 (by decide +kernel) (by decide +kernel)⟩
theorem fl_RX11_87 : fh_fl RX11 87 11 34 2 true (.array .int) := ⟨RX11, TX11, tyX11, 43, rfl, iw_11, tyX11_ok, nmX11, by decide, by decide, by decide, by decide, rfl, rfl, rfl, fh_mem 704 (by decide +kernel) (by decide +kernel)⟩
theorem fl_RX11_184 : fh_fl RX11 184 11 35 0 false .int := ⟨RX11, TX11, tyX11, 43, rfl, iw_11, tyX11_ok, nmX11, by decide, by decide, by decide, by decide, rfl, rfl, rfl, fh_mem 705 (by decide +kernel) (by decide +kernel)⟩
theorem fl_RX11_90 : fh_fl RX11 90 11 36 2 true (.array .int) := ⟨RX11, TX11, tyX11, 43, rfl, iw_11, tyX11_ok, nmX11, by decide, by decide, by decide, by decide, rfl, rfl, rfl, fh_mem 706 (by decide +kernel) (by decide +kernel)⟩
theorem fl_RX11_190 : fh_fl RX11 190 11 37 0 false .int := ⟨RX11, TX11, tyX11, 43, rfl, iw_11, tyX11_ok, nmX11, by decide, by decide, by decide, by decide, rfl, rfl, rfl, fh_mem 707 (by decide +kernel) (by decide +kernel)⟩
theorem fl_RX11_93 : fh_fl RX11 93 11 38 2 true (.array .int) := ⟨RX11, TX11, tyX11, 43, rfl, iw_11, tyX11_ok, nmX11, by decide, by decide, by decide, by decide, rfl, rfl, rfl, fh_mem 708 (by decide +kernel) (by decide +kernel)⟩
theorem fl_RX11_96 : fh_fl RX11 96 11 39 2 true (.array .int) := ⟨RX11, TX11, tyX11, 43, rfl, iw_11, tyX11_ok, nmX11, by decide, by decide, by decide, by decide, rfl, rfl, rfl, fh_mem 709 (by decide +kernel) (by decide +kernel)⟩
theorem fl_RX11_200 : fh_fl RX11 200 11 40 0 false .int := ⟨RX11, TX11, tyX11, 43, rfl, iw_11, tyX11_ok, nmX11, by decide, by decide, by decide, by decide, rfl, rfl, rfl, fh_mem 710 (by decide +kernel) (by decide +kernel)⟩
theorem fl_RX11_203 : fh_fl RX11 203 11 41 0 false .int := ⟨RX11, TX11, tyX11, 43, rfl, iw_11, tyX11_ok, nmX11, by decide, by decide, by decide, by decide, rfl, rfl, rfl, fh_mem 711 (by decide +kernel) (by decide +kernel)⟩
theorem fl_RX11_99 : fh_fl RX11 99 11 42 2 true (.array .int) := ⟨RX11, TX11, tyX11, 43, rfl, iw_11, tyX11_ok, nmX11, by decide, by decide, by decide, by decide, rfl, rfl, rfl, fh_mem 712 (by decide +kernel) (by decide +kernel)⟩
theorem cl_RL_7 : fh_cl RL 7 10 15 := ⟨RX10, TX10, tyX10, rfl, iw_10, tyX10_ok, by decide, by decide, by decide, fh_mem 52 (by decide +kernel) (by decide +kernel), fh_mem 53 (by decide +kernel) (by decide +kernel), fh_mem 37 (by decide +kernel) (by decide +kernel)⟩
theorem ck_RL_7 : Cond.classLink RL 7 "FileHouse" ∈ fh_W := fh_mem 52 (by decide +kernel) (by decide +kernel)
theorem cl_RX10_7 : fh_cl RX10 7 0 2 := ⟨RX0, TX0, tyX0, rfl, iw_0, tyX0_ok, by decide, by decide, by decide, fh_mem 60 (by decide +kernel) (by decide +kernel), fh_mem 61 (by decide +kernel) (by decide +kernel), fh_mem 38 (by decide +kernel) (by decide +kernel)⟩
theorem ck_RX10_7 : Cond.classLink RX10 7 "FileHouse$ByteRow" ∈ fh_W := fh_mem 60 (by decide +kernel) (by decide +kernel)
theorem cl_RX10_21 : fh_cl RX10 21 2 4 := ⟨RX2, TX2, tyX2, rfl, iw_2, tyX2_ok, by decide, by decide, by decide, fh_mem 79 (by decide +kernel) (by decide +kernel), fh_mem 270 (by decide +kernel) (by decide +kernel), fh_mem 48 (by decide +kernel) (by decide +kernel)⟩
theorem ck_RX10_21 : Cond.classLink RX10 21 "FileHouse$Make" ∈ fh_W := fh_mem 79 (by decide +kernel) (by decide +kernel)
theorem cl_RX10_27 : fh_cl RX10 27 7 9 := ⟨RX7, TX7, tyX7, rfl, iw_7, tyX7_ok, by decide, by decide, by decide, fh_mem 81 (by decide +kernel) (by decide +kernel), fh_mem 362 (by decide +kernel) (by decide +kernel), fh_mem 50 (by decide +kernel) (by decide +kernel)⟩
theorem ck_RX10_27 : Cond.classLink RX10 27 "FileHouse$StoredFile" ∈ fh_W := fh_mem 81 (by decide +kernel) (by decide +kernel)
theorem cl_RX10_33 : fh_cl RX10 33 1 2 := ⟨RX1, TX1, tyX1, rfl, iw_1, tyX1_ok, by decide, by decide, by decide, fh_mem 83 (by decide +kernel) (by decide +kernel), fh_mem 84 (by decide +kernel) (by decide +kernel), fh_mem 40 (by decide +kernel) (by decide +kernel)⟩
theorem ck_RX10_33 : Cond.classLink RX10 33 "FileHouse$Machines" ∈ fh_W := fh_mem 83 (by decide +kernel) (by decide +kernel)
theorem cl_RX10_40 : fh_cl RX10 40 3 3 := ⟨RX3, TX3, tyX3, rfl, iw_3, tyX3_ok, by decide, by decide, by decide, fh_mem 99 (by decide +kernel) (by decide +kernel), fh_mem 100 (by decide +kernel) (by decide +kernel), fh_mem 42 (by decide +kernel) (by decide +kernel)⟩
theorem ck_RX10_40 : Cond.classLink RX10 40 "FileHouse$Readers" ∈ fh_W := fh_mem 99 (by decide +kernel) (by decide +kernel)
theorem cl_RX10_47 : fh_cl RX10 47 9 2 := ⟨RX9, TX9, tyX9, rfl, iw_9, tyX9_ok, by decide, by decide, by decide, fh_mem 119 (by decide +kernel) (by decide +kernel), fh_mem 120 (by decide +kernel) (by decide +kernel), fh_mem 43 (by decide +kernel) (by decide +kernel)⟩
theorem ck_RX10_47 : Cond.classLink RX10 47 "FileHouse$Turners" ∈ fh_W := fh_mem 119 (by decide +kernel) (by decide +kernel)
theorem cl_RX9_9 : fh_cl RX9 9 8 5 := ⟨RX8, TX8, tyX8, rfl, iw_8, tyX8_ok, by decide, by decide, by decide, fh_mem 125 (by decide +kernel) (by decide +kernel), fh_mem 451 (by decide +kernel) (by decide +kernel), fh_mem 51 (by decide +kernel) (by decide +kernel)⟩
theorem ck_RX9_9 : Cond.classLink RX9 9 "FileHouse$Turner" ∈ fh_W := fh_mem 125 (by decide +kernel) (by decide +kernel)
theorem cl_RX10_54 : fh_cl RX10 54 5 3 := ⟨RX5, TX5, tyX5, rfl, iw_5, tyX5_ok, by decide, by decide, by decide, fh_mem 137 (by decide +kernel) (by decide +kernel), fh_mem 138 (by decide +kernel) (by decide +kernel), fh_mem 44 (by decide +kernel) (by decide +kernel)⟩
theorem ck_RX10_54 : Cond.classLink RX10 54 "FileHouse$Roads" ∈ fh_W := fh_mem 137 (by decide +kernel) (by decide +kernel)
theorem cl_RX10_61 : fh_cl RX10 61 6 2 := ⟨RX6, TX6, tyX6, rfl, iw_6, tyX6_ok, by decide, by decide, by decide, fh_mem 154 (by decide +kernel) (by decide +kernel), fh_mem 155 (by decide +kernel) (by decide +kernel), fh_mem 45 (by decide +kernel) (by decide +kernel)⟩
theorem ck_RX10_61 : Cond.classLink RX10 61 "FileHouse$Spans" ∈ fh_W := fh_mem 154 (by decide +kernel) (by decide +kernel)
theorem cl_RX10_68 : fh_cl RX10 68 4 7 := ⟨RX4, TX4, tyX4, rfl, iw_4, tyX4_ok, by decide, by decide, by decide, fh_mem 167 (by decide +kernel) (by decide +kernel), fh_mem 168 (by decide +kernel) (by decide +kernel), fh_mem 46 (by decide +kernel) (by decide +kernel)⟩
theorem ck_RX10_68 : Cond.classLink RX10 68 "FileHouse$Reading" ∈ fh_W := fh_mem 167 (by decide +kernel) (by decide +kernel)
theorem ck_RJ7_317 : Cond.classLink RJ7 317 "[I" ∈ fh_W := fh_mem 287 (by decide +kernel) (by decide +kernel)
theorem cl_RL_10 : fh_cl RL 10 11 43 := ⟨RX11, TX11, tyX11, rfl, iw_11, tyX11_ok, by decide, by decide, by decide, fh_mem 664 (by decide +kernel) (by decide +kernel), fh_mem 665 (by decide +kernel) (by decide +kernel), fh_mem 47 (by decide +kernel) (by decide +kernel)⟩
theorem ck_RL_10 : Cond.classLink RL 10 "FileHouseModel" ∈ fh_W := fh_mem 664 (by decide +kernel) (by decide +kernel)
theorem lk_RL_9 : Cond.methodLink RL 9 yX10_init ∈ fh_W := fh_mem 54 (by decide +kernel) (by decide +kernel)
theorem lk_RX10_1 : Cond.methodLink RX10 1 objectInit ∈ fh_W := fh_mem 57 (by decide +kernel) (by decide +kernel)
theorem lk_RX10_11 : Cond.methodLink RX10 11 yX0_init ∈ fh_W := fh_mem 62 (by decide +kernel) (by decide +kernel)
theorem lk_RX0_3 : Cond.methodLink RX0 3 objectInit ∈ fh_W := fh_mem 65 (by decide +kernel) (by decide +kernel)
theorem lk_RX0_15 : Cond.methodLink RX0 15 Lib.Math.max.name ∈ fh_W := fh_mem 66 (by decide +kernel) (by decide +kernel)
theorem lk_RX10_35 : Cond.methodLink RX10 35 yX1_init ∈ fh_W := fh_mem 85 (by decide +kernel) (by decide +kernel)
theorem lk_RX1_3 : Cond.methodLink RX1 3 objectInit ∈ fh_W := fh_mem 88 (by decide +kernel) (by decide +kernel)
theorem lk_RX1_18 : Cond.methodLink RX1 18 yJ7_fill_53178 ∈ fh_W := fh_mem 89 (by decide +kernel) (by decide +kernel)
theorem lk_RX3_3 : Cond.methodLink RX3 3 objectInit ∈ fh_W := fh_mem 104 (by decide +kernel) (by decide +kernel)
theorem lk_RX9_3 : Cond.methodLink RX9 3 objectInit ∈ fh_W := fh_mem 124 (by decide +kernel) (by decide +kernel)
theorem lk_RX5_3 : Cond.methodLink RX5 3 objectInit ∈ fh_W := fh_mem 142 (by decide +kernel) (by decide +kernel)
theorem lk_RX6_3 : Cond.methodLink RX6 3 objectInit ∈ fh_W := fh_mem 159 (by decide +kernel) (by decide +kernel)
theorem lk_RX4_3 : Cond.methodLink RX4 3 objectInit ∈ fh_W := fh_mem 172 (by decide +kernel) (by decide +kernel)
theorem lk_RL_13 : Cond.methodLink RL 13 yX10_feed ∈ fh_W := fh_mem 247 (by decide +kernel) (by decide +kernel)
theorem lk_RX10_92 : Cond.methodLink RX10 92 yX0_room ∈ fh_W := fh_mem 251 (by decide +kernel) (by decide +kernel)
theorem lk_RX10_96 : Cond.methodLink RX10 96 yX0_addWord ∈ fh_W := fh_mem 255 (by decide +kernel) (by decide +kernel)
theorem lk_RX0_25 : Cond.methodLink RX0 25 yX0_addByte ∈ fh_W := fh_mem 259 (by decide +kernel) (by decide +kernel)
theorem lk_RL_18 : Cond.methodLink RL 18 yX10_make ∈ fh_W := fh_mem 263 (by decide +kernel) (by decide +kernel)
theorem lk_RX10_102 : Cond.methodLink RX10 102 yX10_areProperties ∈ fh_W := fh_mem 267 (by decide +kernel) (by decide +kernel)
theorem lk_RX10_106 : Cond.methodLink RX10 106 yX0_firstBytes ∈ fh_W := fh_mem 271 (by decide +kernel) (by decide +kernel)
theorem lk_RX0_39 : Cond.methodLink RX0 39 Lib.Math.min.name ∈ fh_W := fh_mem 275 (by decide +kernel) (by decide +kernel)
theorem lk_RX0_42 : Cond.methodLink RX0 42 yJ7_copyOf_59c91 ∈ fh_W := fh_mem 278 (by decide +kernel) (by decide +kernel)
theorem lk_RJ7_316 : Cond.methodLink RJ7 316 ⟨"[I", "clone", "()Ljava/lang/Object;"⟩ ∈ fh_W := fh_mem 281 (by decide +kernel) (by decide +kernel)
theorem lk_RJ7_304 : Cond.methodLink RJ7 304 Lib.Math.min.name ∈ fh_W := fh_mem 288 (by decide +kernel) (by decide +kernel)
theorem lk_RJ7_150 : Cond.methodLink RJ7 150 arraycopyName ∈ fh_W := fh_mem 289 (by decide +kernel) (by decide +kernel)
theorem lk_RX10_110 : Cond.methodLink RX10 110 yX2_init ∈ fh_W := fh_mem 292 (by decide +kernel) (by decide +kernel)
theorem lk_RX2_1 : Cond.methodLink RX2 1 objectInit ∈ fh_W := fh_mem 295 (by decide +kernel) (by decide +kernel)
theorem lk_RX10_113 : Cond.methodLink RX10 113 yX0_clear ∈ fh_W := fh_mem 316 (by decide +kernel) (by decide +kernel)
theorem lk_RX10_116 : Cond.methodLink RX10 116 yX10_judge ∈ fh_W := fh_mem 320 (by decide +kernel) (by decide +kernel)
theorem lk_RX10_141 : Cond.methodLink RX10 141 yX10_makeAt ∈ fh_W := fh_mem 324 (by decide +kernel) (by decide +kernel)
theorem lk_RX10_162 : Cond.methodLink RX10 162 yX4_readBy ∈ fh_W := fh_mem 328 (by decide +kernel) (by decide +kernel)
theorem lk_RX4_34 : Cond.methodLink RX4 34 yX4_clear ∈ fh_W := fh_mem 332 (by decide +kernel) (by decide +kernel)
theorem lk_RX4_37 : Cond.methodLink RX4 37 yX2_marks ∈ fh_W := fh_mem 336 (by decide +kernel) (by decide +kernel)
theorem lk_RX4_57 : Cond.methodLink RX4 57 yX4_readRecords ∈ fh_W := fh_mem 343 (by decide +kernel) (by decide +kernel)
theorem lk_RX4_65 : Cond.methodLink RX4 65 yX4_addRecord ∈ fh_W := fh_mem 350 (by decide +kernel) (by decide +kernel)
theorem lk_RL_23 : Cond.methodLink RL 23 yX10_file ∈ fh_W := fh_mem 354 (by decide +kernel) (by decide +kernel)
theorem lk_RX10_120 : Cond.methodLink RX10 120 yX10_store ∈ fh_W := fh_mem 358 (by decide +kernel) (by decide +kernel)
theorem lk_RX10_277 : Cond.methodLink RX10 277 yX7_init ∈ fh_W := fh_mem 363 (by decide +kernel) (by decide +kernel)
theorem lk_RX7_3 : Cond.methodLink RX7 3 objectInit ∈ fh_W := fh_mem 366 (by decide +kernel) (by decide +kernel)
theorem lk_RL_28 : Cond.methodLink RL 28 yX10_must ∈ fh_W := fh_mem 407 (by decide +kernel) (by decide +kernel)
theorem lk_RX10_124 : Cond.methodLink RX10 124 yX10_fileAt ∈ fh_W := fh_mem 411 (by decide +kernel) (by decide +kernel)
theorem lk_RL_33 : Cond.methodLink RL 33 yX10_machine ∈ fh_W := fh_mem 415 (by decide +kernel) (by decide +kernel)
theorem lk_RX10_131 : Cond.methodLink RX10 131 yX1_knows ∈ fh_W := fh_mem 419 (by decide +kernel) (by decide +kernel)
theorem lk_RX10_134 : Cond.methodLink RX10 134 yX10_isYear ∈ fh_W := fh_mem 423 (by decide +kernel) (by decide +kernel)
theorem lk_RX10_137 : Cond.methodLink RX10 137 yX1_setEnds ∈ fh_W := fh_mem 426 (by decide +kernel) (by decide +kernel)
theorem lk_RX1_24 : Cond.methodLink RX1 24 yX1_knows ∈ fh_W := fh_mem 430 (by decide +kernel) (by decide +kernel)
theorem lk_RL_38 : Cond.methodLink RL 38 yX10_reader ∈ fh_W := fh_mem 431 (by decide +kernel) (by decide +kernel)
theorem lk_RX10_145 : Cond.methodLink RX10 145 yX3_add ∈ fh_W := fh_mem 435 (by decide +kernel) (by decide +kernel)
theorem lk_RX3_22 : Cond.methodLink RX3 22 yX3_isTold ∈ fh_W := fh_mem 439 (by decide +kernel) (by decide +kernel)
theorem lk_RL_42 : Cond.methodLink RL 42 yX10_turner ∈ fh_W := fh_mem 443 (by decide +kernel) (by decide +kernel)
theorem lk_RX10_152 : Cond.methodLink RX10 152 yX9_add ∈ fh_W := fh_mem 447 (by decide +kernel) (by decide +kernel)
theorem lk_RX9_21 : Cond.methodLink RX9 21 yX8_init ∈ fh_W := fh_mem 452 (by decide +kernel) (by decide +kernel)
theorem lk_RX8_1 : Cond.methodLink RX8 1 objectInit ∈ fh_W := fh_mem 455 (by decide +kernel) (by decide +kernel)
theorem lk_RL_46 : Cond.methodLink RL 46 yX10_year ∈ fh_W := fh_mem 483 (by decide +kernel) (by decide +kernel)
theorem lk_RX10_155 : Cond.methodLink RX10 155 yX10_isYearToCome ∈ fh_W := fh_mem 487 (by decide +kernel) (by decide +kernel)
theorem lk_RL_51 : Cond.methodLink RL 51 yX10_bends ∈ fh_W := fh_mem 491 (by decide +kernel) (by decide +kernel)
theorem lk_RL_56 : Cond.methodLink RL 56 yX10_know ∈ fh_W := fh_mem 495 (by decide +kernel) (by decide +kernel)
theorem lk_RL_60 : Cond.methodLink RL 60 yX10_record ∈ fh_W := fh_mem 499 (by decide +kernel) (by decide +kernel)
theorem lk_RX10_172 : Cond.methodLink RX10 172 yX10_readByOwnMake ∈ fh_W := fh_mem 503 (by decide +kernel) (by decide +kernel)
theorem lk_RX10_284 : Cond.methodLink RX10 284 yX4_clear ∈ fh_W := fh_mem 507 (by decide +kernel) (by decide +kernel)
theorem lk_RL_65 : Cond.methodLink RL 65 yX10_turn ∈ fh_W := fh_mem 508 (by decide +kernel) (by decide +kernel)
theorem lk_RX10_186 : Cond.methodLink RX10 186 yX9_at ∈ fh_W := fh_mem 512 (by decide +kernel) (by decide +kernel)
theorem lk_RX10_198 : Cond.methodLink RX10 198 yX1_liveSurely ∈ fh_W := fh_mem 516 (by decide +kernel) (by decide +kernel)
theorem lk_RX1_28 : Cond.methodLink RX1 28 yX1_endOf ∈ fh_W := fh_mem 520 (by decide +kernel) (by decide +kernel)
theorem lk_RX10_201 : Cond.methodLink RX10 201 yX10_draftTurned ∈ fh_W := fh_mem 524 (by decide +kernel) (by decide +kernel)
theorem lk_RX10_291 : Cond.methodLink RX10 291 yX0_addPart ∈ fh_W := fh_mem 528 (by decide +kernel) (by decide +kernel)
theorem lk_RX0_29 : Cond.methodLink RX0 29 yX0_room ∈ fh_W := fh_mem 532 (by decide +kernel) (by decide +kernel)
theorem lk_RX0_33 : Cond.methodLink RX0 33 arraycopyName ∈ fh_W := fh_mem 533 (by decide +kernel) (by decide +kernel)
theorem lk_RX10_215 : Cond.methodLink RX10 215 yX10_holds ∈ fh_W := fh_mem 534 (by decide +kernel) (by decide +kernel)
theorem lk_RX10_302 : Cond.methodLink RX10 302 yX10_sumOfFirst ∈ fh_W := fh_mem 535 (by decide +kernel) (by decide +kernel)
theorem lk_RX10_305 : Cond.methodLink RX10 305 yX0_addByte ∈ fh_W := fh_mem 536 (by decide +kernel) (by decide +kernel)
theorem lk_RL_69 : Cond.methodLink RL 69 yX10_kept ∈ fh_W := fh_mem 537 (by decide +kernel) (by decide +kernel)
theorem lk_RX10_218 : Cond.methodLink RX10 218 yX4_agrees ∈ fh_W := fh_mem 541 (by decide +kernel) (by decide +kernel)
theorem lk_RX4_68 : Cond.methodLink RX4 68 yX4_nextWith ∈ fh_W := fh_mem 545 (by decide +kernel) (by decide +kernel)
theorem lk_RX4_72 : Cond.methodLink RX4 72 yX4_sameRecord ∈ fh_W := fh_mem 549 (by decide +kernel) (by decide +kernel)
theorem lk_RL_73 : Cond.methodLink RL 73 yX10_road ∈ fh_W := fh_mem 553 (by decide +kernel) (by decide +kernel)
theorem lk_RX10_222 : Cond.methodLink RX10 222 yX5_search ∈ fh_W := fh_mem 557 (by decide +kernel) (by decide +kernel)
theorem lk_RX5_33 : Cond.methodLink RX5 33 yJ7_fill_d0a16 ∈ fh_W := fh_mem 562 (by decide +kernel) (by decide +kernel)
theorem lk_RX5_51 : Cond.methodLink RX5 51 yX5_goOneStep ∈ fh_W := fh_mem 565 (by decide +kernel) (by decide +kernel)
theorem lk_RX5_60 : Cond.methodLink RX5 60 yX9_at ∈ fh_W := fh_mem 569 (by decide +kernel) (by decide +kernel)
theorem lk_RX5_69 : Cond.methodLink RX5 69 yX8_carriesAll ∈ fh_W := fh_mem 570 (by decide +kernel) (by decide +kernel)
theorem lk_RX5_76 : Cond.methodLink RX5 76 yX1_liveSurely ∈ fh_W := fh_mem 574 (by decide +kernel) (by decide +kernel)
theorem lk_RX5_85 : Cond.methodLink RX5 85 yX5_extended ∈ fh_W := fh_mem 575 (by decide +kernel) (by decide +kernel)
theorem lk_RX5_21 : Cond.methodLink RX5 21 yX5_lengthOf ∈ fh_W := fh_mem 579 (by decide +kernel) (by decide +kernel)
theorem lk_RX5_28 : Cond.methodLink RX5 28 yX5_priceOf ∈ fh_W := fh_mem 582 (by decide +kernel) (by decide +kernel)
theorem lk_RX5_92 : Cond.methodLink RX5 92 Lib.MathLoose.min_long.x ∈ fh_W := fh_mem 585 (by decide +kernel) (by decide +kernel)
theorem lk_RX10_226 : Cond.methodLink RX10 226 yX5_bestTo ∈ fh_W := fh_mem 588 (by decide +kernel) (by decide +kernel)
theorem lk_RX10_232 : Cond.methodLink RX10 232 yX5_priceOf ∈ fh_W := fh_mem 593 (by decide +kernel) (by decide +kernel)
theorem lk_RL_77 : Cond.methodLink RL 77 yX10_step ∈ fh_W := fh_mem 594 (by decide +kernel) (by decide +kernel)
theorem lk_RX10_236 : Cond.methodLink RX10 236 yX5_stepOf ∈ fh_W := fh_mem 598 (by decide +kernel) (by decide +kernel)
theorem lk_RL_81 : Cond.methodLink RL 81 yX10_last ∈ fh_W := fh_mem 602 (by decide +kernel) (by decide +kernel)
theorem lk_RX10_240 : Cond.methodLink RX10 240 yX6_measure ∈ fh_W := fh_mem 606 (by decide +kernel) (by decide +kernel)
theorem lk_RX6_18 : Cond.methodLink RX6 18 yJ7_fill_53178 ∈ fh_W := fh_mem 610 (by decide +kernel) (by decide +kernel)
theorem lk_RX6_36 : Cond.methodLink RX6 36 yX1_endOf ∈ fh_W := fh_mem 611 (by decide +kernel) (by decide +kernel)
theorem lk_RX6_42 : Cond.methodLink RX6 42 Lib.Math.max.name ∈ fh_W := fh_mem 612 (by decide +kernel) (by decide +kernel)
theorem lk_RX6_48 : Cond.methodLink RX6 48 yX6_goOneStepBack ∈ fh_W := fh_mem 613 (by decide +kernel) (by decide +kernel)
theorem lk_RX6_52 : Cond.methodLink RX6 52 arraycopyName ∈ fh_W := fh_mem 617 (by decide +kernel) (by decide +kernel)
theorem lk_RX6_61 : Cond.methodLink RX6 61 yX9_at ∈ fh_W := fh_mem 618 (by decide +kernel) (by decide +kernel)
theorem lk_RX6_73 : Cond.methodLink RX6 73 Lib.Math.min.name ∈ fh_W := fh_mem 619 (by decide +kernel) (by decide +kernel)
theorem lk_RX10_244 : Cond.methodLink RX10 244 yX6_lastYearOf ∈ fh_W := fh_mem 620 (by decide +kernel) (by decide +kernel)
theorem lk_RL_86 : Cond.methodLink RL 86 yX10_plan ∈ fh_W := fh_mem 624 (by decide +kernel) (by decide +kernel)
theorem lk_RX10_248 : Cond.methodLink RX10 248 yX3_makesOpenIn ∈ fh_W := fh_mem 628 (by decide +kernel) (by decide +kernel)
theorem lk_RX3_26 : Cond.methodLink RX3 26 yX1_liveSurely ∈ fh_W := fh_mem 632 (by decide +kernel) (by decide +kernel)
theorem lk_RX10_252 : Cond.methodLink RX10 252 yX10_isPlanned ∈ fh_W := fh_mem 633 (by decide +kernel) (by decide +kernel)
theorem lk_RX10_256 : Cond.methodLink RX10 256 yX10_cheapestGoal ∈ fh_W := fh_mem 636 (by decide +kernel) (by decide +kernel)
theorem lk_RL_90 : Cond.methodLink RL 90 yX10_goal ∈ fh_W := fh_mem 640 (by decide +kernel) (by decide +kernel)
theorem lk_RL_94 : Cond.methodLink RL 94 yX10_look ∈ fh_W := fh_mem 644 (by decide +kernel) (by decide +kernel)
theorem lk_RX10_265 : Cond.methodLink RX10 265 yX10_byteAsked ∈ fh_W := fh_mem 648 (by decide +kernel) (by decide +kernel)
theorem lk_RL_98 : Cond.methodLink RL 98 yX10_count ∈ fh_W := fh_mem 651 (by decide +kernel) (by decide +kernel)
theorem lk_RX10_271 : Cond.methodLink RX10 271 yX10_filesWithoutMake ∈ fh_W := fh_mem 655 (by decide +kernel) (by decide +kernel)
theorem lk_RX10_308 : Cond.methodLink RX10 308 yX10_know ∈ fh_W := fh_mem 659 (by decide +kernel) (by decide +kernel)
theorem lk_RX10_274 : Cond.methodLink RX10 274 yX10_filesBeyondReading ∈ fh_W := fh_mem 660 (by decide +kernel) (by decide +kernel)
theorem lk_RL_12 : Cond.methodLink RL 12 yX11_init ∈ fh_W := fh_mem 666 (by decide +kernel) (by decide +kernel)
theorem lk_RX11_1 : Cond.methodLink RX11 1 objectInit ∈ fh_W := fh_mem 669 (by decide +kernel) (by decide +kernel)
theorem lk_RL_17 : Cond.methodLink RL 17 yX11_feed ∈ fh_W := fh_mem 802 (by decide +kernel) (by decide +kernel)
theorem lk_RX11_106 : Cond.methodLink RX11 106 yX11_push ∈ fh_W := fh_mem 806 (by decide +kernel) (by decide +kernel)
theorem lk_RL_22 : Cond.methodLink RL 22 yX11_make ∈ fh_W := fh_mem 810 (by decide +kernel) (by decide +kernel)
end
section
theorem lk_RX11_110 : Cond.methodLink RX11 110 yX11_lies ∈ fh_W := fh_mem 814 (by decide +kernel) (by decide +kernel)
theorem lk_RL_27 : Cond.methodLink RL 27 yX11_file ∈ fh_W := fh_mem 817 (by decide +kernel) (by decide +kernel)
theorem lk_RL_32 : Cond.methodLink RL 32 yX11_must ∈ fh_W := fh_mem 821 (by decide +kernel) (by decide +kernel)
theorem lk_RX11_120 : Cond.methodLink RX11 120 yX11_isFile ∈ fh_W := fh_mem 825 (by decide +kernel) (by decide +kernel)
theorem lk_RL_37 : Cond.methodLink RL 37 yX11_machine ∈ fh_W := fh_mem 829 (by decide +kernel) (by decide +kernel)
theorem lk_RX11_124 : Cond.methodLink RX11 124 yX11_isMachine ∈ fh_W := fh_mem 833 (by decide +kernel) (by decide +kernel)
theorem lk_RL_41 : Cond.methodLink RL 41 yX11_reader ∈ fh_W := fh_mem 836 (by decide +kernel) (by decide +kernel)
theorem lk_RX11_127 : Cond.methodLink RX11 127 yX11_isMake ∈ fh_W := fh_mem 840 (by decide +kernel) (by decide +kernel)
theorem lk_RL_45 : Cond.methodLink RL 45 yX11_turner ∈ fh_W := fh_mem 844 (by decide +kernel) (by decide +kernel)
theorem lk_RL_50 : Cond.methodLink RL 50 yX11_year ∈ fh_W := fh_mem 848 (by decide +kernel) (by decide +kernel)
theorem lk_RL_55 : Cond.methodLink RL 55 yX11_bends ∈ fh_W := fh_mem 852 (by decide +kernel) (by decide +kernel)
theorem lk_RX11_153 : Cond.methodLink RX11 153 yX11_reads ∈ fh_W := fh_mem 856 (by decide +kernel) (by decide +kernel)
theorem lk_RX11_145 : Cond.methodLink RX11 145 yX11_byteAt ∈ fh_W := fh_mem 860 (by decide +kernel) (by decide +kernel)
theorem lk_RX11_149 : Cond.methodLink RX11 149 yX11_has ∈ fh_W := fh_mem 864 (by decide +kernel) (by decide +kernel)
theorem lk_RL_59 : Cond.methodLink RL 59 yX11_know ∈ fh_W := fh_mem 867 (by decide +kernel) (by decide +kernel)
theorem lk_RX11_156 : Cond.methodLink RX11 156 yX11_knows ∈ fh_W := fh_mem 871 (by decide +kernel) (by decide +kernel)
theorem lk_RL_64 : Cond.methodLink RL 64 yX11_record ∈ fh_W := fh_mem 875 (by decide +kernel) (by decide +kernel)
theorem lk_RL_68 : Cond.methodLink RL 68 yX11_turn ∈ fh_W := fh_mem 879 (by decide +kernel) (by decide +kernel)
theorem lk_RX11_160 : Cond.methodLink RX11 160 yX11_goes ∈ fh_W := fh_mem 883 (by decide +kernel) (by decide +kernel)
theorem lk_RL_72 : Cond.methodLink RL 72 yX11_kept ∈ fh_W := fh_mem 887 (by decide +kernel) (by decide +kernel)
theorem lk_RX11_170 : Cond.methodLink RX11 170 yX11_isKept ∈ fh_W := fh_mem 891 (by decide +kernel) (by decide +kernel)
theorem lk_RX11_166 : Cond.methodLink RX11 166 yX11_areAlike ∈ fh_W := fh_mem 895 (by decide +kernel) (by decide +kernel)
theorem lk_RL_76 : Cond.methodLink RL 76 yX11_road ∈ fh_W := fh_mem 899 (by decide +kernel) (by decide +kernel)
theorem lk_RX11_187 : Cond.methodLink RX11 187 yX11_bestRoad ∈ fh_W := fh_mem 903 (by decide +kernel) (by decide +kernel)
theorem lk_RX11_177 : Cond.methodLink RX11 177 yX11_properties ∈ fh_W := fh_mem 907 (by decide +kernel) (by decide +kernel)
theorem lk_RX11_180 : Cond.methodLink RX11 180 yX11_measures ∈ fh_W := fh_mem 911 (by decide +kernel) (by decide +kernel)
theorem lk_RX11_174 : Cond.methodLink RX11 174 yX11_mayTurn ∈ fh_W := fh_mem 916 (by decide +kernel) (by decide +kernel)
theorem lk_RL_80 : Cond.methodLink RL 80 yX11_step ∈ fh_W := fh_mem 920 (by decide +kernel) (by decide +kernel)
theorem lk_RL_85 : Cond.methodLink RL 85 yX11_last ∈ fh_W := fh_mem 924 (by decide +kernel) (by decide +kernel)
theorem lk_RX11_197 : Cond.methodLink RX11 197 yX11_lastOf ∈ fh_W := fh_mem 928 (by decide +kernel) (by decide +kernel)
theorem lk_RX11_193 : Cond.methodLink RX11 193 yX11_lives ∈ fh_W := fh_mem 932 (by decide +kernel) (by decide +kernel)
theorem lk_RL_89 : Cond.methodLink RL 89 yX11_plan ∈ fh_W := fh_mem 936 (by decide +kernel) (by decide +kernel)
theorem lk_RX11_212 : Cond.methodLink RX11 212 yX11_isPlanned ∈ fh_W := fh_mem 940 (by decide +kernel) (by decide +kernel)
theorem lk_RX11_215 : Cond.methodLink RX11 215 yX11_goalOf ∈ fh_W := fh_mem 944 (by decide +kernel) (by decide +kernel)
theorem lk_RX11_206 : Cond.methodLink RX11 206 yX11_isRead ∈ fh_W := fh_mem 948 (by decide +kernel) (by decide +kernel)
theorem lk_RX11_209 : Cond.methodLink RX11 209 yX11_isBetter ∈ fh_W := fh_mem 952 (by decide +kernel) (by decide +kernel)
theorem lk_RL_93 : Cond.methodLink RL 93 yX11_goal ∈ fh_W := fh_mem 956 (by decide +kernel) (by decide +kernel)
theorem lk_RL_97 : Cond.methodLink RL 97 yX11_look ∈ fh_W := fh_mem 960 (by decide +kernel) (by decide +kernel)
theorem lk_RL_101 : Cond.methodLink RL 101 yX11_count ∈ fh_W := fh_mem 964 (by decide +kernel) (by decide +kernel)
theorem ln_RX10_42 : (RX10, 42, yX3_init, "FileHouse") ∈ fh_nest := by decide +kernel
theorem ln_RX10_49 : (RX10, 49, yX9_init, "FileHouse") ∈ fh_nest := by decide +kernel
theorem ln_RX10_56 : (RX10, 56, yX5_init, "FileHouse") ∈ fh_nest := by decide +kernel
theorem ln_RX10_63 : (RX10, 63, yX6_init, "FileHouse") ∈ fh_nest := by decide +kernel
theorem ln_RX10_70 : (RX10, 70, yX4_init, "FileHouse") ∈ fh_nest := by decide +kernel
theorem ln_RX4_50 : (RX4, 50, yX10_sumOfFirst, "FileHouse") ∈ fh_nest := by decide +kernel
theorem ln_RX4_61 : (RX4, 61, yX10_holds, "FileHouse") ∈ fh_nest := by decide +kernel
theorem kc_RX5_25 : Cond.constant RX5 25 1048575 ∈ fh_W := fh_mem 601 (by decide +kernel) (by decide +kernel)
theorem kc_RX11_173 : Cond.constant RX11 173 1000000 ∈ fh_W := fh_mem 915 (by decide +kernel) (by decide +kernel)
theorem kl_RX5_31 : Cond.constantLong RX5 31 9223372036854775807 ∈ fh_W := fh_mem 561 (by decide +kernel) (by decide +kernel)
theorem kl_RX5_26 : Cond.constantLong RX5 26 1048575 ∈ fh_W := fh_mem 578 (by decide +kernel) (by decide +kernel)
theorem kl_RX10_230 : Cond.constantLong RX10 230 9223372036854775807 ∈ fh_W := fh_mem 592 (by decide +kernel) (by decide +kernel)
theorem ac_int : Cond.arrayClass .int ∈ fh_W := fh_mem 78 (by decide +kernel) (by decide +kernel)
theorem ac_byte : Cond.arrayClass .byte ∈ fh_W := fh_mem 800 (by decide +kernel) (by decide +kernel)
theorem ac_boolean : Cond.arrayClass .boolean ∈ fh_W := fh_mem 801 (by decide +kernel) (by decide +kernel)
theorem ac_long : Cond.arrayClass .long ∈ fh_W := fh_mem 153 (by decide +kernel) (by decide +kernel)
theorem jw_max_static : Cond.static Lib.Math.max.name ∈ fh_W := fh_mem 67 (by decide +kernel) (by decide +kernel)
theorem jw_max_code : Cond.code Lib.Math.max.name Lib.Math.max.code 2 (some .int) ∈ fh_W := fh_mem 68 (by decide +kernel) (by decide +kernel)
theorem jw_min_static : Cond.static Lib.Math.min.name ∈ fh_W := fh_mem 276 (by decide +kernel) (by decide +kernel)
theorem jw_min_code : Cond.code Lib.Math.min.name Lib.Math.min.code 2 (some .int) ∈ fh_W := fh_mem 277 (by decide +kernel) (by decide +kernel)
theorem jw_minL_static : Cond.static Lib.MathLoose.min_long.x ∈ fh_W := fh_mem 586 (by decide +kernel) (by decide +kernel)
theorem jw_minL_code : Cond.code Lib.MathLoose.min_long.x Lib.MathLoose.min_long.code 4 (some .long) ∈ fh_W := fh_mem 587 (by decide +kernel) (by decide +kernel)
theorem jw_copy_static : Cond.static arraycopyName ∈ fh_W := fh_mem 290 (by decide +kernel) (by decide +kernel)
theorem jw_copy_native : Cond.native arraycopyName ∈ fh_W := fh_mem 291 (by decide +kernel) (by decide +kernel)
theorem jw_oi_instanceMethod : Cond.instanceMethod objectInit ∈ fh_W := fh_mem 58 (by decide +kernel) (by decide +kernel)
theorem jw_oi_code : Cond.code objectInit ⟨#[0xb1]⟩ 1 none ∈ fh_W := fh_mem 59 (by decide +kernel) (by decide +kernel)
theorem ji_Math : Cond.initialized "java/lang/Math" ∈ fh_W := fh_mem 39 (by decide +kernel) (by decide +kernel)
theorem ji_System : Cond.initialized "java/lang/System" ∈ fh_W := fh_mem 49 (by decide +kernel) (by decide +kernel)
theorem ji_Arrays : Cond.initialized "java/util/Arrays" ∈ fh_W := fh_mem 41 (by decide +kernel) (by decide +kernel)
theorem jc_native : Cond.native ⟨"java/lang/Object", "clone", "()Ljava/lang/Object;"⟩ ∈ fh_W := fh_mem 283 (by decide +kernel) (by decide +kernel)
theorem jc_inst : Cond.instanceMethod ⟨"java/lang/Object", "clone", "()Ljava/lang/Object;"⟩ ∈ fh_W := fh_mem 284 (by decide +kernel) (by decide +kernel)
theorem jc_same : Cond.sameMethod "[I" "java/lang/Object" "clone" "()Ljava/lang/Object;" ∈ fh_W := fh_mem 282 (by decide +kernel) (by decide +kernel)
theorem jc_sel : Cond.selects "[I" ⟨"[I", "clone", "()Ljava/lang/Object;"⟩ ⟨"java/lang/Object", "clone", "()Ljava/lang/Object;"⟩ ∈ fh_W := fh_mem 285 (by decide +kernel) (by decide +kernel)
theorem mi_X0_init : fh_mv yX0_init cX0_init 2 none 1 0 := ⟨fh_mem 64 (by decide +kernel) (by decide +kernel), fh_mem 63 (by decide +kernel) (by decide +kernel), fh_mem 38 (by decide +kernel) (by decide +kernel), by decide, by decide, by decide +kernel, by decide, _, rfl, rfl⟩
theorem mi_X0_clear : fh_mv yX0_clear cX0_clear 1 none 0 0 := ⟨fh_mem 319 (by decide +kernel) (by decide +kernel), fh_mem 317 (by decide +kernel) (by decide +kernel), fh_mem 38 (by decide +kernel) (by decide +kernel), by decide, by decide, by decide +kernel, by decide, _, rfl, rfl⟩
theorem ms_X0_clear : Cond.selects yX0_clear.cls yX0_clear yX0_clear ∈ fh_W := fh_mem 318 (by decide +kernel) (by decide +kernel)
theorem mi_X0_room : fh_mv yX0_room cX0_room 1 (some .int) 0 0 := ⟨fh_mem 254 (by decide +kernel) (by decide +kernel), fh_mem 252 (by decide +kernel) (by decide +kernel), fh_mem 38 (by decide +kernel) (by decide +kernel), by decide, by decide, by decide +kernel, by decide, _, rfl, rfl⟩
theorem ms_X0_room : Cond.selects yX0_room.cls yX0_room yX0_room ∈ fh_W := fh_mem 253 (by decide +kernel) (by decide +kernel)
theorem mi_X0_addByte : fh_mv yX0_addByte cX0_addByte 2 (some .boolean) 1 0 := ⟨fh_mem 262 (by decide +kernel) (by decide +kernel), fh_mem 260 (by decide +kernel) (by decide +kernel), fh_mem 38 (by decide +kernel) (by decide +kernel), by decide, by decide, by decide +kernel, by decide, _, rfl, rfl⟩
theorem ms_X0_addByte : Cond.selects yX0_addByte.cls yX0_addByte yX0_addByte ∈ fh_W := fh_mem 261 (by decide +kernel) (by decide +kernel)
theorem mi_X0_addWord : fh_mv yX0_addWord cX0_addWord 3 none 1 0 := ⟨fh_mem 258 (by decide +kernel) (by decide +kernel), fh_mem 256 (by decide +kernel) (by decide +kernel), fh_mem 38 (by decide +kernel) (by decide +kernel), by decide, by decide, by decide +kernel, by decide, _, rfl, rfl⟩
theorem ms_X0_addWord : Cond.selects yX0_addWord.cls yX0_addWord yX0_addWord ∈ fh_W := fh_mem 257 (by decide +kernel) (by decide +kernel)
theorem mi_X0_addPart : fh_mv yX0_addPart cX0_addPart 4 (some .boolean) 3 0 := ⟨fh_mem 531 (by decide +kernel) (by decide +kernel), fh_mem 529 (by decide +kernel) (by decide +kernel), fh_mem 38 (by decide +kernel) (by decide +kernel), by decide, by decide, by decide +kernel, by decide, _, rfl, rfl⟩
theorem ms_X0_addPart : Cond.selects yX0_addPart.cls yX0_addPart yX0_addPart ∈ fh_W := fh_mem 530 (by decide +kernel) (by decide +kernel)
theorem mi_X0_firstBytes : fh_mv yX0_firstBytes cX0_firstBytes 2 (some (.array .int)) 1 0 := ⟨fh_mem 274 (by decide +kernel) (by decide +kernel), fh_mem 272 (by decide +kernel) (by decide +kernel), fh_mem 38 (by decide +kernel) (by decide +kernel), by decide, by decide, by decide +kernel, by decide, _, rfl, rfl⟩
theorem ms_X0_firstBytes : Cond.selects yX0_firstBytes.cls yX0_firstBytes yX0_firstBytes ∈ fh_W := fh_mem 273 (by decide +kernel) (by decide +kernel)
theorem mi_X1_init : fh_mv yX1_init cX1_init 1 none 0 1 := ⟨fh_mem 87 (by decide +kernel) (by decide +kernel), fh_mem 86 (by decide +kernel) (by decide +kernel), fh_mem 40 (by decide +kernel) (by decide +kernel), by decide, by decide, by decide +kernel, by decide, _, rfl, rfl⟩
theorem mi_X1_knows : fh_mv yX1_knows cX1_knows 2 (some .boolean) 1 1 := ⟨fh_mem 422 (by decide +kernel) (by decide +kernel), fh_mem 420 (by decide +kernel) (by decide +kernel), fh_mem 40 (by decide +kernel) (by decide +kernel), by decide, by decide, by decide +kernel, by decide, _, rfl, rfl⟩
theorem ms_X1_knows : Cond.selects yX1_knows.cls yX1_knows yX1_knows ∈ fh_W := fh_mem 421 (by decide +kernel) (by decide +kernel)
theorem mi_X1_setEnds : fh_mv yX1_setEnds cX1_setEnds 4 none 3 1 := ⟨fh_mem 429 (by decide +kernel) (by decide +kernel), fh_mem 427 (by decide +kernel) (by decide +kernel), fh_mem 40 (by decide +kernel) (by decide +kernel), by decide, by decide, by decide +kernel, by decide, _, rfl, rfl⟩
theorem ms_X1_setEnds : Cond.selects yX1_setEnds.cls yX1_setEnds yX1_setEnds ∈ fh_W := fh_mem 428 (by decide +kernel) (by decide +kernel)
theorem mi_X1_endOf : fh_mv yX1_endOf cX1_endOf 3 (some .int) 2 1 := ⟨fh_mem 523 (by decide +kernel) (by decide +kernel), fh_mem 521 (by decide +kernel) (by decide +kernel), fh_mem 40 (by decide +kernel) (by decide +kernel), by decide, by decide, by decide +kernel, by decide, _, rfl, rfl⟩
theorem ms_X1_endOf : Cond.selects yX1_endOf.cls yX1_endOf yX1_endOf ∈ fh_W := fh_mem 522 (by decide +kernel) (by decide +kernel)
theorem mi_X1_liveSurely : fh_mv yX1_liveSurely cX1_liveSurely 3 (some .boolean) 2 1 := ⟨fh_mem 519 (by decide +kernel) (by decide +kernel), fh_mem 517 (by decide +kernel) (by decide +kernel), fh_mem 40 (by decide +kernel) (by decide +kernel), by decide, by decide, by decide +kernel, by decide, _, rfl, rfl⟩
theorem ms_X1_liveSurely : Cond.selects yX1_liveSurely.cls yX1_liveSurely yX1_liveSurely ∈ fh_W := fh_mem 518 (by decide +kernel) (by decide +kernel)
theorem mi_X2_init : fh_mv yX2_init cX2_init 5 none 4 2 := ⟨fh_mem 294 (by decide +kernel) (by decide +kernel), fh_mem 293 (by decide +kernel) (by decide +kernel), fh_mem 48 (by decide +kernel) (by decide +kernel), by decide, by decide, by decide +kernel, by decide, _, rfl, rfl⟩
theorem mi_X2_marks : fh_mv yX2_marks cX2_marks 3 (some .boolean) 1 2 := ⟨fh_mem 339 (by decide +kernel) (by decide +kernel), fh_mem 337 (by decide +kernel) (by decide +kernel), fh_mem 48 (by decide +kernel) (by decide +kernel), by decide, by decide, by decide +kernel, by decide, _, rfl, rfl⟩
theorem ms_X2_marks : Cond.selects yX2_marks.cls yX2_marks yX2_marks ∈ fh_W := fh_mem 338 (by decide +kernel) (by decide +kernel)
theorem mi_X3_init : fh_mv yX3_init cX3_init 1 none 0 3 := ⟨fh_mem 103 (by decide +kernel) (by decide +kernel), fh_mem 102 (by decide +kernel) (by decide +kernel), fh_mem 42 (by decide +kernel) (by decide +kernel), by decide, by decide, by decide +kernel, by decide, _, rfl, rfl⟩
theorem mi_X3_add : fh_mv yX3_add cX3_add 3 (some .boolean) 2 3 := ⟨fh_mem 438 (by decide +kernel) (by decide +kernel), fh_mem 436 (by decide +kernel) (by decide +kernel), fh_mem 42 (by decide +kernel) (by decide +kernel), by decide, by decide, by decide +kernel, by decide, _, rfl, rfl⟩
theorem ms_X3_add : Cond.selects yX3_add.cls yX3_add yX3_add ∈ fh_W := fh_mem 437 (by decide +kernel) (by decide +kernel)
theorem mi_X3_isTold : fh_mv yX3_isTold cX3_isTold 4 (some .boolean) 2 3 := ⟨fh_mem 442 (by decide +kernel) (by decide +kernel), fh_mem 441 (by decide +kernel) (by decide +kernel), fh_mem 42 (by decide +kernel) (by decide +kernel), by decide, by decide, by decide +kernel, by decide, _, rfl, rfl⟩
theorem ms_X3_isTold : Cond.selects yX3_isTold.cls yX3_isTold yX3_isTold ∈ fh_W := fh_mem 6 (by decide +kernel) (by decide +kernel)
theorem mi_X3_makesOpenIn : fh_mv yX3_makesOpenIn cX3_makesOpenIn 5 (some .int) 2 3 := ⟨fh_mem 631 (by decide +kernel) (by decide +kernel), fh_mem 629 (by decide +kernel) (by decide +kernel), fh_mem 42 (by decide +kernel) (by decide +kernel), by decide, by decide, by decide +kernel, by decide, _, rfl, rfl⟩
theorem ms_X3_makesOpenIn : Cond.selects yX3_makesOpenIn.cls yX3_makesOpenIn yX3_makesOpenIn ∈ fh_W := fh_mem 630 (by decide +kernel) (by decide +kernel)
theorem mi_X4_init : fh_mv yX4_init cX4_init 1 none 0 4 := ⟨fh_mem 171 (by decide +kernel) (by decide +kernel), fh_mem 170 (by decide +kernel) (by decide +kernel), fh_mem 46 (by decide +kernel) (by decide +kernel), by decide, by decide, by decide +kernel, by decide, _, rfl, rfl⟩
theorem mi_X4_clear : fh_mv yX4_clear cX4_clear 1 none 0 4 := ⟨fh_mem 335 (by decide +kernel) (by decide +kernel), fh_mem 333 (by decide +kernel) (by decide +kernel), fh_mem 46 (by decide +kernel) (by decide +kernel), by decide, by decide, by decide +kernel, by decide, _, rfl, rfl⟩
theorem ms_X4_clear : Cond.selects yX4_clear.cls yX4_clear yX4_clear ∈ fh_W := fh_mem 334 (by decide +kernel) (by decide +kernel)
theorem mi_X4_readBy : fh_mv yX4_readBy cX4_readBy 5 none 2 4 := ⟨fh_mem 331 (by decide +kernel) (by decide +kernel), fh_mem 329 (by decide +kernel) (by decide +kernel), fh_mem 46 (by decide +kernel) (by decide +kernel), by decide, by decide, by decide +kernel, by decide, _, rfl, rfl⟩
theorem ms_X4_readBy : Cond.selects yX4_readBy.cls yX4_readBy yX4_readBy ∈ fh_W := fh_mem 330 (by decide +kernel) (by decide +kernel)
theorem mi_X4_readRecords : fh_mv yX4_readRecords cX4_readRecords 10 none 3 4 := ⟨fh_mem 346 (by decide +kernel) (by decide +kernel), fh_mem 345 (by decide +kernel) (by decide +kernel), fh_mem 46 (by decide +kernel) (by decide +kernel), by decide, by decide, by decide +kernel, by decide, _, rfl, rfl⟩
theorem ms_X4_readRecords : Cond.selects yX4_readRecords.cls yX4_readRecords yX4_readRecords ∈ fh_W := fh_mem 2 (by decide +kernel) (by decide +kernel)
theorem mi_X4_addRecord : fh_mv yX4_addRecord cX4_addRecord 4 none 3 4 := ⟨fh_mem 353 (by decide +kernel) (by decide +kernel), fh_mem 352 (by decide +kernel) (by decide +kernel), fh_mem 46 (by decide +kernel) (by decide +kernel), by decide, by decide, by decide +kernel, by decide, _, rfl, rfl⟩
theorem ms_X4_addRecord : Cond.selects yX4_addRecord.cls yX4_addRecord yX4_addRecord ∈ fh_W := fh_mem 3 (by decide +kernel) (by decide +kernel)
theorem mi_X4_agrees : fh_mv yX4_agrees cX4_agrees 5 (some .boolean) 2 4 := ⟨fh_mem 544 (by decide +kernel) (by decide +kernel), fh_mem 542 (by decide +kernel) (by decide +kernel), fh_mem 46 (by decide +kernel) (by decide +kernel), by decide, by decide, by decide +kernel, by decide, _, rfl, rfl⟩
theorem ms_X4_agrees : Cond.selects yX4_agrees.cls yX4_agrees yX4_agrees ∈ fh_W := fh_mem 543 (by decide +kernel) (by decide +kernel)
theorem mi_X4_nextWith : fh_mv yX4_nextWith cX4_nextWith 4 (some .int) 2 4 := ⟨fh_mem 548 (by decide +kernel) (by decide +kernel), fh_mem 547 (by decide +kernel) (by decide +kernel), fh_mem 46 (by decide +kernel) (by decide +kernel), by decide, by decide, by decide +kernel, by decide, _, rfl, rfl⟩
theorem ms_X4_nextWith : Cond.selects yX4_nextWith.cls yX4_nextWith yX4_nextWith ∈ fh_W := fh_mem 10 (by decide +kernel) (by decide +kernel)
theorem mi_X4_sameRecord : fh_mv yX4_sameRecord cX4_sameRecord 5 (some .boolean) 3 4 := ⟨fh_mem 552 (by decide +kernel) (by decide +kernel), fh_mem 551 (by decide +kernel) (by decide +kernel), fh_mem 46 (by decide +kernel) (by decide +kernel), by decide, by decide, by decide +kernel, by decide, _, rfl, rfl⟩
theorem ms_X4_sameRecord : Cond.selects yX4_sameRecord.cls yX4_sameRecord yX4_sameRecord ∈ fh_W := fh_mem 11 (by decide +kernel) (by decide +kernel)
theorem mi_X5_init : fh_mv yX5_init cX5_init 1 none 0 5 := ⟨fh_mem 141 (by decide +kernel) (by decide +kernel), fh_mem 140 (by decide +kernel) (by decide +kernel), fh_mem 44 (by decide +kernel) (by decide +kernel), by decide, by decide, by decide +kernel, by decide, _, rfl, rfl⟩
theorem mi_X5_priceOf : fh_ms yX5_priceOf cX5_priceOf 2 (some .int) 1 := ⟨fh_mem 584 (by decide +kernel) (by decide +kernel), fh_mem 583 (by decide +kernel) (by decide +kernel), fh_mem 44 (by decide +kernel) (by decide +kernel), by decide, by decide, by decide +kernel⟩
theorem mi_X5_lengthOf : fh_ms yX5_lengthOf cX5_lengthOf 2 (some .int) 1 := ⟨fh_mem 581 (by decide +kernel) (by decide +kernel), fh_mem 580 (by decide +kernel) (by decide +kernel), fh_mem 44 (by decide +kernel) (by decide +kernel), by decide, by decide, by decide +kernel⟩
theorem mi_X5_stepOf : fh_ms yX5_stepOf cX5_stepOf 5 (some .int) 2 := ⟨fh_mem 600 (by decide +kernel) (by decide +kernel), fh_mem 599 (by decide +kernel) (by decide +kernel), fh_mem 44 (by decide +kernel) (by decide +kernel), by decide, by decide, by decide +kernel⟩
theorem mi_X5_extended : fh_ms yX5_extended cX5_extended 10 (some .long) 3 := ⟨fh_mem 577 (by decide +kernel) (by decide +kernel), fh_mem 576 (by decide +kernel) (by decide +kernel), fh_mem 44 (by decide +kernel) (by decide +kernel), by decide, by decide, by decide +kernel⟩
theorem mi_X5_bestTo : fh_mv yX5_bestTo cX5_bestTo 2 (some .long) 1 5 := ⟨fh_mem 591 (by decide +kernel) (by decide +kernel), fh_mem 589 (by decide +kernel) (by decide +kernel), fh_mem 44 (by decide +kernel) (by decide +kernel), by decide, by decide, by decide +kernel, by decide, _, rfl, rfl⟩
theorem ms_X5_bestTo : Cond.selects yX5_bestTo.cls yX5_bestTo yX5_bestTo ∈ fh_W := fh_mem 590 (by decide +kernel) (by decide +kernel)
theorem mi_X5_search : fh_mv yX5_search cX5_search 8 none 4 5 := ⟨fh_mem 560 (by decide +kernel) (by decide +kernel), fh_mem 558 (by decide +kernel) (by decide +kernel), fh_mem 44 (by decide +kernel) (by decide +kernel), by decide, by decide, by decide +kernel, by decide, _, rfl, rfl⟩
theorem ms_X5_search : Cond.selects yX5_search.cls yX5_search yX5_search ∈ fh_W := fh_mem 559 (by decide +kernel) (by decide +kernel)
theorem mi_X5_goOneStep : fh_mv yX5_goOneStep cX5_goOneStep 9 none 4 5 := ⟨fh_mem 568 (by decide +kernel) (by decide +kernel), fh_mem 567 (by decide +kernel) (by decide +kernel), fh_mem 44 (by decide +kernel) (by decide +kernel), by decide, by decide, by decide +kernel, by decide, _, rfl, rfl⟩
theorem ms_X5_goOneStep : Cond.selects yX5_goOneStep.cls yX5_goOneStep yX5_goOneStep ∈ fh_W := fh_mem 12 (by decide +kernel) (by decide +kernel)
theorem mi_X6_init : fh_mv yX6_init cX6_init 1 none 0 6 := ⟨fh_mem 158 (by decide +kernel) (by decide +kernel), fh_mem 157 (by decide +kernel) (by decide +kernel), fh_mem 45 (by decide +kernel) (by decide +kernel), by decide, by decide, by decide +kernel, by decide, _, rfl, rfl⟩
theorem mi_X6_measure : fh_mv yX6_measure cX6_measure 8 none 4 6 := ⟨fh_mem 609 (by decide +kernel) (by decide +kernel), fh_mem 607 (by decide +kernel) (by decide +kernel), fh_mem 45 (by decide +kernel) (by decide +kernel), by decide, by decide, by decide +kernel, by decide, _, rfl, rfl⟩
theorem ms_X6_measure : Cond.selects yX6_measure.cls yX6_measure yX6_measure ∈ fh_W := fh_mem 608 (by decide +kernel) (by decide +kernel)
theorem mi_X6_goOneStepBack : fh_mv yX6_goOneStepBack cX6_goOneStepBack 7 none 3 6 := ⟨fh_mem 616 (by decide +kernel) (by decide +kernel), fh_mem 615 (by decide +kernel) (by decide +kernel), fh_mem 45 (by decide +kernel) (by decide +kernel), by decide, by decide, by decide +kernel, by decide, _, rfl, rfl⟩
theorem ms_X6_goOneStepBack : Cond.selects yX6_goOneStepBack.cls yX6_goOneStepBack yX6_goOneStepBack ∈ fh_W := fh_mem 13 (by decide +kernel) (by decide +kernel)
theorem mi_X6_lastYearOf : fh_mv yX6_lastYearOf cX6_lastYearOf 2 (some .int) 1 6 := ⟨fh_mem 623 (by decide +kernel) (by decide +kernel), fh_mem 621 (by decide +kernel) (by decide +kernel), fh_mem 45 (by decide +kernel) (by decide +kernel), by decide, by decide, by decide +kernel, by decide, _, rfl, rfl⟩
theorem ms_X6_lastYearOf : Cond.selects yX6_lastYearOf.cls yX6_lastYearOf yX6_lastYearOf ∈ fh_W := fh_mem 622 (by decide +kernel) (by decide +kernel)
theorem mi_X7_init : fh_mv yX7_init cX7_init 4 none 3 7 := ⟨fh_mem 365 (by decide +kernel) (by decide +kernel), fh_mem 364 (by decide +kernel) (by decide +kernel), fh_mem 50 (by decide +kernel) (by decide +kernel), by decide, by decide, by decide +kernel, by decide, _, rfl, rfl⟩
theorem mi_X8_init : fh_mv yX8_init cX8_init 6 none 5 8 := ⟨fh_mem 454 (by decide +kernel) (by decide +kernel), fh_mem 453 (by decide +kernel) (by decide +kernel), fh_mem 51 (by decide +kernel) (by decide +kernel), by decide, by decide, by decide +kernel, by decide, _, rfl, rfl⟩
theorem mi_X8_carriesAll : fh_mv yX8_carriesAll cX8_carriesAll 2 (some .boolean) 1 8 := ⟨fh_mem 573 (by decide +kernel) (by decide +kernel), fh_mem 571 (by decide +kernel) (by decide +kernel), fh_mem 51 (by decide +kernel) (by decide +kernel), by decide, by decide, by decide +kernel, by decide, _, rfl, rfl⟩
theorem ms_X8_carriesAll : Cond.selects yX8_carriesAll.cls yX8_carriesAll yX8_carriesAll ∈ fh_W := fh_mem 572 (by decide +kernel) (by decide +kernel)
theorem mi_X9_init : fh_mv yX9_init cX9_init 1 none 0 9 := ⟨fh_mem 123 (by decide +kernel) (by decide +kernel), fh_mem 122 (by decide +kernel) (by decide +kernel), fh_mem 43 (by decide +kernel) (by decide +kernel), by decide, by decide, by decide +kernel, by decide, _, rfl, rfl⟩
theorem mi_X9_add : fh_mv yX9_add cX9_add 6 (some .int) 5 9 := ⟨fh_mem 450 (by decide +kernel) (by decide +kernel), fh_mem 448 (by decide +kernel) (by decide +kernel), fh_mem 43 (by decide +kernel) (by decide +kernel), by decide, by decide, by decide +kernel, by decide, _, rfl, rfl⟩
theorem ms_X9_add : Cond.selects yX9_add.cls yX9_add yX9_add ∈ fh_W := fh_mem 449 (by decide +kernel) (by decide +kernel)
theorem mi_X9_at : fh_mv yX9_at cX9_at 2 (some (.object "FileHouse$Turner")) 1 9 := ⟨fh_mem 515 (by decide +kernel) (by decide +kernel), fh_mem 513 (by decide +kernel) (by decide +kernel), fh_mem 43 (by decide +kernel) (by decide +kernel), by decide, by decide, by decide +kernel, by decide, _, rfl, rfl⟩
theorem ms_X9_at : Cond.selects yX9_at.cls yX9_at yX9_at ∈ fh_W := fh_mem 514 (by decide +kernel) (by decide +kernel)
theorem mi_X10_init : fh_mv yX10_init cX10_init 1 none 0 10 := ⟨fh_mem 56 (by decide +kernel) (by decide +kernel), fh_mem 55 (by decide +kernel) (by decide +kernel), fh_mem 37 (by decide +kernel) (by decide +kernel), by decide, by decide, by decide +kernel, by decide, _, rfl, rfl⟩
theorem mi_X10_feed : fh_mv yX10_feed cX10_feed 6 (some .int) 5 10 := ⟨fh_mem 250 (by decide +kernel) (by decide +kernel), fh_mem 248 (by decide +kernel) (by decide +kernel), fh_mem 37 (by decide +kernel) (by decide +kernel), by decide, by decide, by decide +kernel, by decide, _, rfl, rfl⟩
theorem ms_X10_feed : Cond.selects yX10_feed.cls yX10_feed yX10_feed ∈ fh_W := fh_mem 249 (by decide +kernel) (by decide +kernel)
theorem mi_X10_make : fh_mv yX10_make cX10_make 7 (some .int) 4 10 := ⟨fh_mem 266 (by decide +kernel) (by decide +kernel), fh_mem 264 (by decide +kernel) (by decide +kernel), fh_mem 37 (by decide +kernel) (by decide +kernel), by decide, by decide, by decide +kernel, by decide, _, rfl, rfl⟩
theorem ms_X10_make : Cond.selects yX10_make.cls yX10_make yX10_make ∈ fh_W := fh_mem 265 (by decide +kernel) (by decide +kernel)
theorem mi_X10_file : fh_mv yX10_file cX10_file 3 (some .int) 1 10 := ⟨fh_mem 357 (by decide +kernel) (by decide +kernel), fh_mem 355 (by decide +kernel) (by decide +kernel), fh_mem 37 (by decide +kernel) (by decide +kernel), by decide, by decide, by decide +kernel, by decide, _, rfl, rfl⟩
theorem ms_X10_file : Cond.selects yX10_file.cls yX10_file yX10_file ∈ fh_W := fh_mem 356 (by decide +kernel) (by decide +kernel)
theorem mi_X10_must : fh_mv yX10_must cX10_must 4 (some .boolean) 2 10 := ⟨fh_mem 410 (by decide +kernel) (by decide +kernel), fh_mem 408 (by decide +kernel) (by decide +kernel), fh_mem 37 (by decide +kernel) (by decide +kernel), by decide, by decide, by decide +kernel, by decide, _, rfl, rfl⟩
theorem ms_X10_must : Cond.selects yX10_must.cls yX10_must yX10_must ∈ fh_W := fh_mem 409 (by decide +kernel) (by decide +kernel)
theorem mi_X10_machine : fh_mv yX10_machine cX10_machine 4 (some .boolean) 3 10 := ⟨fh_mem 418 (by decide +kernel) (by decide +kernel), fh_mem 416 (by decide +kernel) (by decide +kernel), fh_mem 37 (by decide +kernel) (by decide +kernel), by decide, by decide, by decide +kernel, by decide, _, rfl, rfl⟩
theorem ms_X10_machine : Cond.selects yX10_machine.cls yX10_machine yX10_machine ∈ fh_W := fh_mem 417 (by decide +kernel) (by decide +kernel)
theorem mi_X10_reader : fh_mv yX10_reader cX10_reader 3 (some .boolean) 2 10 := ⟨fh_mem 434 (by decide +kernel) (by decide +kernel), fh_mem 432 (by decide +kernel) (by decide +kernel), fh_mem 37 (by decide +kernel) (by decide +kernel), by decide, by decide, by decide +kernel, by decide, _, rfl, rfl⟩
theorem ms_X10_reader : Cond.selects yX10_reader.cls yX10_reader yX10_reader ∈ fh_W := fh_mem 433 (by decide +kernel) (by decide +kernel)
theorem mi_X10_turner : fh_mv yX10_turner cX10_turner 7 (some .int) 5 10 := ⟨fh_mem 446 (by decide +kernel) (by decide +kernel), fh_mem 444 (by decide +kernel) (by decide +kernel), fh_mem 37 (by decide +kernel) (by decide +kernel), by decide, by decide, by decide +kernel, by decide, _, rfl, rfl⟩
theorem ms_X10_turner : Cond.selects yX10_turner.cls yX10_turner yX10_turner ∈ fh_W := fh_mem 445 (by decide +kernel) (by decide +kernel)
theorem mi_X10_year : fh_mv yX10_year cX10_year 2 (some .boolean) 1 10 := ⟨fh_mem 486 (by decide +kernel) (by decide +kernel), fh_mem 484 (by decide +kernel) (by decide +kernel), fh_mem 37 (by decide +kernel) (by decide +kernel), by decide, by decide, by decide +kernel, by decide, _, rfl, rfl⟩
theorem ms_X10_year : Cond.selects yX10_year.cls yX10_year yX10_year ∈ fh_W := fh_mem 485 (by decide +kernel) (by decide +kernel)
theorem mi_X10_bends : fh_mv yX10_bends cX10_bends 5 (some .int) 2 10 := ⟨fh_mem 494 (by decide +kernel) (by decide +kernel), fh_mem 492 (by decide +kernel) (by decide +kernel), fh_mem 37 (by decide +kernel) (by decide +kernel), by decide, by decide, by decide +kernel, by decide, _, rfl, rfl⟩
theorem ms_X10_bends : Cond.selects yX10_bends.cls yX10_bends yX10_bends ∈ fh_W := fh_mem 493 (by decide +kernel) (by decide +kernel)
theorem mi_X10_know : fh_mv yX10_know cX10_know 3 (some .int) 1 10 := ⟨fh_mem 498 (by decide +kernel) (by decide +kernel), fh_mem 496 (by decide +kernel) (by decide +kernel), fh_mem 37 (by decide +kernel) (by decide +kernel), by decide, by decide, by decide +kernel, by decide, _, rfl, rfl⟩
theorem ms_X10_know : Cond.selects yX10_know.cls yX10_know yX10_know ∈ fh_W := fh_mem 497 (by decide +kernel) (by decide +kernel)
theorem mi_X10_record : fh_mv yX10_record cX10_record 5 (some .int) 3 10 := ⟨fh_mem 502 (by decide +kernel) (by decide +kernel), fh_mem 500 (by decide +kernel) (by decide +kernel), fh_mem 37 (by decide +kernel) (by decide +kernel), by decide, by decide, by decide +kernel, by decide, _, rfl, rfl⟩
theorem ms_X10_record : Cond.selects yX10_record.cls yX10_record yX10_record ∈ fh_W := fh_mem 501 (by decide +kernel) (by decide +kernel)
theorem mi_X10_turn : fh_mv yX10_turn cX10_turn 5 (some .int) 2 10 := ⟨fh_mem 511 (by decide +kernel) (by decide +kernel), fh_mem 509 (by decide +kernel) (by decide +kernel), fh_mem 37 (by decide +kernel) (by decide +kernel), by decide, by decide, by decide +kernel, by decide, _, rfl, rfl⟩
theorem ms_X10_turn : Cond.selects yX10_turn.cls yX10_turn yX10_turn ∈ fh_W := fh_mem 510 (by decide +kernel) (by decide +kernel)
theorem mi_X10_kept : fh_mv yX10_kept cX10_kept 7 (some .int) 2 10 := ⟨fh_mem 540 (by decide +kernel) (by decide +kernel), fh_mem 538 (by decide +kernel) (by decide +kernel), fh_mem 37 (by decide +kernel) (by decide +kernel), by decide, by decide, by decide +kernel, by decide, _, rfl, rfl⟩
theorem ms_X10_kept : Cond.selects yX10_kept.cls yX10_kept yX10_kept ∈ fh_W := fh_mem 539 (by decide +kernel) (by decide +kernel)
theorem mi_X10_road : fh_mv yX10_road cX10_road 6 (some .int) 2 10 := ⟨fh_mem 556 (by decide +kernel) (by decide +kernel), fh_mem 554 (by decide +kernel) (by decide +kernel), fh_mem 37 (by decide +kernel) (by decide +kernel), by decide, by decide, by decide +kernel, by decide, _, rfl, rfl⟩
theorem ms_X10_road : Cond.selects yX10_road.cls yX10_road yX10_road ∈ fh_W := fh_mem 555 (by decide +kernel) (by decide +kernel)
theorem mi_X10_step : fh_mv yX10_step cX10_step 2 (some .int) 1 10 := ⟨fh_mem 597 (by decide +kernel) (by decide +kernel), fh_mem 595 (by decide +kernel) (by decide +kernel), fh_mem 37 (by decide +kernel) (by decide +kernel), by decide, by decide, by decide +kernel, by decide, _, rfl, rfl⟩
theorem ms_X10_step : Cond.selects yX10_step.cls yX10_step yX10_step ∈ fh_W := fh_mem 596 (by decide +kernel) (by decide +kernel)
theorem mi_X10_last : fh_mv yX10_last cX10_last 4 (some .int) 2 10 := ⟨fh_mem 605 (by decide +kernel) (by decide +kernel), fh_mem 603 (by decide +kernel) (by decide +kernel), fh_mem 37 (by decide +kernel) (by decide +kernel), by decide, by decide, by decide +kernel, by decide, _, rfl, rfl⟩
theorem ms_X10_last : Cond.selects yX10_last.cls yX10_last yX10_last ∈ fh_W := fh_mem 604 (by decide +kernel) (by decide +kernel)
theorem mi_X10_plan : fh_mv yX10_plan cX10_plan 7 (some .int) 1 10 := ⟨fh_mem 627 (by decide +kernel) (by decide +kernel), fh_mem 625 (by decide +kernel) (by decide +kernel), fh_mem 37 (by decide +kernel) (by decide +kernel), by decide, by decide, by decide +kernel, by decide, _, rfl, rfl⟩
theorem ms_X10_plan : Cond.selects yX10_plan.cls yX10_plan yX10_plan ∈ fh_W := fh_mem 626 (by decide +kernel) (by decide +kernel)
theorem mi_X10_goal : fh_mv yX10_goal cX10_goal 4 (some .int) 2 10 := ⟨fh_mem 643 (by decide +kernel) (by decide +kernel), fh_mem 641 (by decide +kernel) (by decide +kernel), fh_mem 37 (by decide +kernel) (by decide +kernel), by decide, by decide, by decide +kernel, by decide, _, rfl, rfl⟩
theorem ms_X10_goal : Cond.selects yX10_goal.cls yX10_goal yX10_goal ∈ fh_W := fh_mem 642 (by decide +kernel) (by decide +kernel)
theorem mi_X10_look : fh_mv yX10_look cX10_look 4 (some .int) 2 10 := ⟨fh_mem 647 (by decide +kernel) (by decide +kernel), fh_mem 645 (by decide +kernel) (by decide +kernel), fh_mem 37 (by decide +kernel) (by decide +kernel), by decide, by decide, by decide +kernel, by decide, _, rfl, rfl⟩
theorem ms_X10_look : Cond.selects yX10_look.cls yX10_look yX10_look ∈ fh_W := fh_mem 646 (by decide +kernel) (by decide +kernel)
theorem mi_X10_count : fh_mv yX10_count cX10_count 2 (some .int) 1 10 := ⟨fh_mem 654 (by decide +kernel) (by decide +kernel), fh_mem 652 (by decide +kernel) (by decide +kernel), fh_mem 37 (by decide +kernel) (by decide +kernel), by decide, by decide, by decide +kernel, by decide, _, rfl, rfl⟩
theorem ms_X10_count : Cond.selects yX10_count.cls yX10_count yX10_count ∈ fh_W := fh_mem 653 (by decide +kernel) (by decide +kernel)
theorem mi_X10_areProperties : fh_ms yX10_areProperties cX10_areProperties 1 (some .boolean) 1 := ⟨fh_mem 269 (by decide +kernel) (by decide +kernel), fh_mem 268 (by decide +kernel) (by decide +kernel), fh_mem 37 (by decide +kernel) (by decide +kernel), by decide, by decide, by decide +kernel⟩
theorem mi_X10_holds : fh_ms yX10_holds cX10_holds 2 (some .boolean) 2 := ⟨fh_mem 349 (by decide +kernel) (by decide +kernel), fh_mem 348 (by decide +kernel) (by decide +kernel), fh_mem 37 (by decide +kernel) (by decide +kernel), by decide, by decide, by decide +kernel⟩
theorem mi_X10_isYear : fh_ms yX10_isYear cX10_isYear 1 (some .boolean) 1 := ⟨fh_mem 425 (by decide +kernel) (by decide +kernel), fh_mem 424 (by decide +kernel) (by decide +kernel), fh_mem 37 (by decide +kernel) (by decide +kernel), by decide, by decide, by decide +kernel⟩
theorem mi_X10_isYearToCome : fh_mv yX10_isYearToCome cX10_isYearToCome 2 (some .boolean) 1 10 := ⟨fh_mem 490 (by decide +kernel) (by decide +kernel), fh_mem 489 (by decide +kernel) (by decide +kernel), fh_mem 37 (by decide +kernel) (by decide +kernel), by decide, by decide, by decide +kernel, by decide, _, rfl, rfl⟩
theorem ms_X10_isYearToCome : Cond.selects yX10_isYearToCome.cls yX10_isYearToCome yX10_isYearToCome ∈ fh_W := fh_mem 7 (by decide +kernel) (by decide +kernel)
theorem mi_X10_makeAt : fh_mv yX10_makeAt cX10_makeAt 2 (some (.object "FileHouse$Make")) 1 10 := ⟨fh_mem 327 (by decide +kernel) (by decide +kernel), fh_mem 326 (by decide +kernel) (by decide +kernel), fh_mem 37 (by decide +kernel) (by decide +kernel), by decide, by decide, by decide +kernel, by decide, _, rfl, rfl⟩
theorem ms_X10_makeAt : Cond.selects yX10_makeAt.cls yX10_makeAt yX10_makeAt ∈ fh_W := fh_mem 1 (by decide +kernel) (by decide +kernel)
theorem mi_X10_fileAt : fh_mv yX10_fileAt cX10_fileAt 2 (some (.object "FileHouse$StoredFile")) 1 10 := ⟨fh_mem 414 (by decide +kernel) (by decide +kernel), fh_mem 413 (by decide +kernel) (by decide +kernel), fh_mem 37 (by decide +kernel) (by decide +kernel), by decide, by decide, by decide +kernel, by decide, _, rfl, rfl⟩
theorem ms_X10_fileAt : Cond.selects yX10_fileAt.cls yX10_fileAt yX10_fileAt ∈ fh_W := fh_mem 5 (by decide +kernel) (by decide +kernel)
theorem mi_X10_store : fh_mv yX10_store cX10_store 7 (some .int) 3 10 := ⟨fh_mem 361 (by decide +kernel) (by decide +kernel), fh_mem 360 (by decide +kernel) (by decide +kernel), fh_mem 37 (by decide +kernel) (by decide +kernel), by decide, by decide, by decide +kernel, by decide, _, rfl, rfl⟩
theorem ms_X10_store : Cond.selects yX10_store.cls yX10_store yX10_store ∈ fh_W := fh_mem 4 (by decide +kernel) (by decide +kernel)
theorem mi_X10_judge : fh_mv yX10_judge cX10_judge 4 none 2 10 := ⟨fh_mem 323 (by decide +kernel) (by decide +kernel), fh_mem 322 (by decide +kernel) (by decide +kernel), fh_mem 37 (by decide +kernel) (by decide +kernel), by decide, by decide, by decide +kernel, by decide, _, rfl, rfl⟩
theorem ms_X10_judge : Cond.selects yX10_judge.cls yX10_judge yX10_judge ∈ fh_W := fh_mem 0 (by decide +kernel) (by decide +kernel)
theorem mi_X10_readByOwnMake : fh_mv yX10_readByOwnMake cX10_readByOwnMake 4 none 2 10 := ⟨fh_mem 506 (by decide +kernel) (by decide +kernel), fh_mem 505 (by decide +kernel) (by decide +kernel), fh_mem 37 (by decide +kernel) (by decide +kernel), by decide, by decide, by decide +kernel, by decide, _, rfl, rfl⟩
theorem ms_X10_readByOwnMake : Cond.selects yX10_readByOwnMake.cls yX10_readByOwnMake yX10_readByOwnMake ∈ fh_W := fh_mem 8 (by decide +kernel) (by decide +kernel)
theorem mi_X10_draftTurned : fh_mv yX10_draftTurned cX10_draftTurned 6 (some .boolean) 2 10 := ⟨fh_mem 527 (by decide +kernel) (by decide +kernel), fh_mem 526 (by decide +kernel) (by decide +kernel), fh_mem 37 (by decide +kernel) (by decide +kernel), by decide, by decide, by decide +kernel, by decide, _, rfl, rfl⟩
theorem ms_X10_draftTurned : Cond.selects yX10_draftTurned.cls yX10_draftTurned yX10_draftTurned ∈ fh_W := fh_mem 9 (by decide +kernel) (by decide +kernel)
theorem mi_X10_sumOfFirst : fh_ms yX10_sumOfFirst cX10_sumOfFirst 4 (some .int) 2 := ⟨fh_mem 342 (by decide +kernel) (by decide +kernel), fh_mem 341 (by decide +kernel) (by decide +kernel), fh_mem 37 (by decide +kernel) (by decide +kernel), by decide, by decide, by decide +kernel⟩
theorem mi_X10_isPlanned : fh_ms yX10_isPlanned cX10_isPlanned 1 (some .boolean) 1 := ⟨fh_mem 635 (by decide +kernel) (by decide +kernel), fh_mem 634 (by decide +kernel) (by decide +kernel), fh_mem 37 (by decide +kernel) (by decide +kernel), by decide, by decide, by decide +kernel⟩
theorem mi_X10_cheapestGoal : fh_mv yX10_cheapestGoal cX10_cheapestGoal 7 (some .int) 2 10 := ⟨fh_mem 639 (by decide +kernel) (by decide +kernel), fh_mem 638 (by decide +kernel) (by decide +kernel), fh_mem 37 (by decide +kernel) (by decide +kernel), by decide, by decide, by decide +kernel, by decide, _, rfl, rfl⟩
theorem ms_X10_cheapestGoal : Cond.selects yX10_cheapestGoal.cls yX10_cheapestGoal yX10_cheapestGoal ∈ fh_W := fh_mem 14 (by decide +kernel) (by decide +kernel)
theorem mi_X10_byteAsked : fh_ms yX10_byteAsked cX10_byteAsked 2 (some .int) 2 := ⟨fh_mem 650 (by decide +kernel) (by decide +kernel), fh_mem 649 (by decide +kernel) (by decide +kernel), fh_mem 37 (by decide +kernel) (by decide +kernel), by decide, by decide, by decide +kernel⟩
theorem mi_X10_filesWithoutMake : fh_mv yX10_filesWithoutMake cX10_filesWithoutMake 3 (some .int) 0 10 := ⟨fh_mem 658 (by decide +kernel) (by decide +kernel), fh_mem 657 (by decide +kernel) (by decide +kernel), fh_mem 37 (by decide +kernel) (by decide +kernel), by decide, by decide, by decide +kernel, by decide, _, rfl, rfl⟩
theorem ms_X10_filesWithoutMake : Cond.selects yX10_filesWithoutMake.cls yX10_filesWithoutMake yX10_filesWithoutMake ∈ fh_W := fh_mem 15 (by decide +kernel) (by decide +kernel)
theorem mi_X10_filesBeyondReading : fh_mv yX10_filesBeyondReading cX10_filesBeyondReading 3 (some .int) 0 10 := ⟨fh_mem 663 (by decide +kernel) (by decide +kernel), fh_mem 662 (by decide +kernel) (by decide +kernel), fh_mem 37 (by decide +kernel) (by decide +kernel), by decide, by decide, by decide +kernel, by decide, _, rfl, rfl⟩
theorem ms_X10_filesBeyondReading : Cond.selects yX10_filesBeyondReading.cls yX10_filesBeyondReading yX10_filesBeyondReading ∈ fh_W := fh_mem 16 (by decide +kernel) (by decide +kernel)
theorem mi_X11_init : fh_mv yX11_init cX11_init 2 none 0 11 := ⟨fh_mem 668 (by decide +kernel) (by decide +kernel), fh_mem 667 (by decide +kernel) (by decide +kernel), fh_mem 47 (by decide +kernel) (by decide +kernel), by decide, by decide, by decide +kernel, by decide, _, rfl, rfl⟩
theorem mi_X11_lies : fh_ms yX11_lies cX11_lies 3 (some .boolean) 3 := ⟨fh_mem 816 (by decide +kernel) (by decide +kernel), fh_mem 815 (by decide +kernel) (by decide +kernel), fh_mem 47 (by decide +kernel) (by decide +kernel), by decide, by decide, by decide +kernel⟩
theorem mi_X11_has : fh_ms yX11_has cX11_has 2 (some .boolean) 2 := ⟨fh_mem 866 (by decide +kernel) (by decide +kernel), fh_mem 865 (by decide +kernel) (by decide +kernel), fh_mem 47 (by decide +kernel) (by decide +kernel), by decide, by decide, by decide +kernel⟩
theorem mi_X11_push : fh_mv yX11_push cX11_push 3 none 1 11 := ⟨fh_mem 809 (by decide +kernel) (by decide +kernel), fh_mem 808 (by decide +kernel) (by decide +kernel), fh_mem 47 (by decide +kernel) (by decide +kernel), by decide, by decide, by decide +kernel, by decide, _, rfl, rfl⟩
theorem ms_X11_push : Cond.selects yX11_push.cls yX11_push yX11_push ∈ fh_W := fh_mem 17 (by decide +kernel) (by decide +kernel)
theorem mi_X11_feed : fh_mv yX11_feed cX11_feed 6 (some .int) 5 11 := ⟨fh_mem 805 (by decide +kernel) (by decide +kernel), fh_mem 803 (by decide +kernel) (by decide +kernel), fh_mem 47 (by decide +kernel) (by decide +kernel), by decide, by decide, by decide +kernel, by decide, _, rfl, rfl⟩
theorem ms_X11_feed : Cond.selects yX11_feed.cls yX11_feed yX11_feed ∈ fh_W := fh_mem 804 (by decide +kernel) (by decide +kernel)
theorem mi_X11_make : fh_mv yX11_make cX11_make 6 (some .int) 4 11 := ⟨fh_mem 813 (by decide +kernel) (by decide +kernel), fh_mem 811 (by decide +kernel) (by decide +kernel), fh_mem 47 (by decide +kernel) (by decide +kernel), by decide, by decide, by decide +kernel, by decide, _, rfl, rfl⟩
theorem ms_X11_make : Cond.selects yX11_make.cls yX11_make yX11_make ∈ fh_W := fh_mem 812 (by decide +kernel) (by decide +kernel)
theorem mi_X11_file : fh_mv yX11_file cX11_file 3 (some .int) 1 11 := ⟨fh_mem 820 (by decide +kernel) (by decide +kernel), fh_mem 818 (by decide +kernel) (by decide +kernel), fh_mem 47 (by decide +kernel) (by decide +kernel), by decide, by decide, by decide +kernel, by decide, _, rfl, rfl⟩
theorem ms_X11_file : Cond.selects yX11_file.cls yX11_file yX11_file ∈ fh_W := fh_mem 819 (by decide +kernel) (by decide +kernel)
theorem mi_X11_isFile : fh_mv yX11_isFile cX11_isFile 2 (some .boolean) 1 11 := ⟨fh_mem 828 (by decide +kernel) (by decide +kernel), fh_mem 827 (by decide +kernel) (by decide +kernel), fh_mem 47 (by decide +kernel) (by decide +kernel), by decide, by decide, by decide +kernel, by decide, _, rfl, rfl⟩
theorem ms_X11_isFile : Cond.selects yX11_isFile.cls yX11_isFile yX11_isFile ∈ fh_W := fh_mem 18 (by decide +kernel) (by decide +kernel)
theorem mi_X11_isMake : fh_mv yX11_isMake cX11_isMake 2 (some .boolean) 1 11 := ⟨fh_mem 843 (by decide +kernel) (by decide +kernel), fh_mem 842 (by decide +kernel) (by decide +kernel), fh_mem 47 (by decide +kernel) (by decide +kernel), by decide, by decide, by decide +kernel, by decide, _, rfl, rfl⟩
theorem ms_X11_isMake : Cond.selects yX11_isMake.cls yX11_isMake yX11_isMake ∈ fh_W := fh_mem 19 (by decide +kernel) (by decide +kernel)
theorem mi_X11_isMachine : fh_ms yX11_isMachine cX11_isMachine 1 (some .boolean) 1 := ⟨fh_mem 835 (by decide +kernel) (by decide +kernel), fh_mem 834 (by decide +kernel) (by decide +kernel), fh_mem 47 (by decide +kernel) (by decide +kernel), by decide, by decide, by decide +kernel⟩
theorem mi_X11_must : fh_mv yX11_must cX11_must 3 (some .boolean) 2 11 := ⟨fh_mem 824 (by decide +kernel) (by decide +kernel), fh_mem 822 (by decide +kernel) (by decide +kernel), fh_mem 47 (by decide +kernel) (by decide +kernel), by decide, by decide, by decide +kernel, by decide, _, rfl, rfl⟩
theorem ms_X11_must : Cond.selects yX11_must.cls yX11_must yX11_must ∈ fh_W := fh_mem 823 (by decide +kernel) (by decide +kernel)
theorem mi_X11_machine : fh_mv yX11_machine cX11_machine 4 (some .boolean) 3 11 := ⟨fh_mem 832 (by decide +kernel) (by decide +kernel), fh_mem 830 (by decide +kernel) (by decide +kernel), fh_mem 47 (by decide +kernel) (by decide +kernel), by decide, by decide, by decide +kernel, by decide, _, rfl, rfl⟩
theorem ms_X11_machine : Cond.selects yX11_machine.cls yX11_machine yX11_machine ∈ fh_W := fh_mem 831 (by decide +kernel) (by decide +kernel)
theorem mi_X11_reader : fh_mv yX11_reader cX11_reader 4 (some .boolean) 2 11 := ⟨fh_mem 839 (by decide +kernel) (by decide +kernel), fh_mem 837 (by decide +kernel) (by decide +kernel), fh_mem 47 (by decide +kernel) (by decide +kernel), by decide, by decide, by decide +kernel, by decide, _, rfl, rfl⟩
theorem ms_X11_reader : Cond.selects yX11_reader.cls yX11_reader yX11_reader ∈ fh_W := fh_mem 838 (by decide +kernel) (by decide +kernel)
theorem mi_X11_turner : fh_mv yX11_turner cX11_turner 6 (some .int) 5 11 := ⟨fh_mem 847 (by decide +kernel) (by decide +kernel), fh_mem 845 (by decide +kernel) (by decide +kernel), fh_mem 47 (by decide +kernel) (by decide +kernel), by decide, by decide, by decide +kernel, by decide, _, rfl, rfl⟩
theorem ms_X11_turner : Cond.selects yX11_turner.cls yX11_turner yX11_turner ∈ fh_W := fh_mem 846 (by decide +kernel) (by decide +kernel)
theorem mi_X11_year : fh_mv yX11_year cX11_year 2 (some .boolean) 1 11 := ⟨fh_mem 851 (by decide +kernel) (by decide +kernel), fh_mem 849 (by decide +kernel) (by decide +kernel), fh_mem 47 (by decide +kernel) (by decide +kernel), by decide, by decide, by decide +kernel, by decide, _, rfl, rfl⟩
theorem ms_X11_year : Cond.selects yX11_year.cls yX11_year yX11_year ∈ fh_W := fh_mem 850 (by decide +kernel) (by decide +kernel)
theorem mi_X11_byteAt : fh_mv yX11_byteAt cX11_byteAt 3 (some .int) 2 11 := ⟨fh_mem 863 (by decide +kernel) (by decide +kernel), fh_mem 862 (by decide +kernel) (by decide +kernel), fh_mem 47 (by decide +kernel) (by decide +kernel), by decide, by decide, by decide +kernel, by decide, _, rfl, rfl⟩
theorem ms_X11_byteAt : Cond.selects yX11_byteAt.cls yX11_byteAt yX11_byteAt ∈ fh_W := fh_mem 21 (by decide +kernel) (by decide +kernel)
theorem mi_X11_reads : fh_mv yX11_reads cX11_reads 9 (some .boolean) 2 11 := ⟨fh_mem 859 (by decide +kernel) (by decide +kernel), fh_mem 858 (by decide +kernel) (by decide +kernel), fh_mem 47 (by decide +kernel) (by decide +kernel), by decide, by decide, by decide +kernel, by decide, _, rfl, rfl⟩
theorem ms_X11_reads : Cond.selects yX11_reads.cls yX11_reads yX11_reads ∈ fh_W := fh_mem 20 (by decide +kernel) (by decide +kernel)
theorem mi_X11_bends : fh_mv yX11_bends cX11_bends 3 (some .int) 2 11 := ⟨fh_mem 855 (by decide +kernel) (by decide +kernel), fh_mem 853 (by decide +kernel) (by decide +kernel), fh_mem 47 (by decide +kernel) (by decide +kernel), by decide, by decide, by decide +kernel, by decide, _, rfl, rfl⟩
theorem ms_X11_bends : Cond.selects yX11_bends.cls yX11_bends yX11_bends ∈ fh_W := fh_mem 854 (by decide +kernel) (by decide +kernel)
theorem mi_X11_knows : fh_mv yX11_knows cX11_knows 5 (some .int) 1 11 := ⟨fh_mem 874 (by decide +kernel) (by decide +kernel), fh_mem 873 (by decide +kernel) (by decide +kernel), fh_mem 47 (by decide +kernel) (by decide +kernel), by decide, by decide, by decide +kernel, by decide, _, rfl, rfl⟩
theorem ms_X11_knows : Cond.selects yX11_knows.cls yX11_knows yX11_knows ∈ fh_W := fh_mem 22 (by decide +kernel) (by decide +kernel)
theorem mi_X11_know : fh_mv yX11_know cX11_know 2 (some .int) 1 11 := ⟨fh_mem 870 (by decide +kernel) (by decide +kernel), fh_mem 868 (by decide +kernel) (by decide +kernel), fh_mem 47 (by decide +kernel) (by decide +kernel), by decide, by decide, by decide +kernel, by decide, _, rfl, rfl⟩
theorem ms_X11_know : Cond.selects yX11_know.cls yX11_know yX11_know ∈ fh_W := fh_mem 869 (by decide +kernel) (by decide +kernel)
theorem mi_X11_record : fh_mv yX11_record cX11_record 4 (some .int) 3 11 := ⟨fh_mem 878 (by decide +kernel) (by decide +kernel), fh_mem 876 (by decide +kernel) (by decide +kernel), fh_mem 47 (by decide +kernel) (by decide +kernel), by decide, by decide, by decide +kernel, by decide, _, rfl, rfl⟩
theorem ms_X11_record : Cond.selects yX11_record.cls yX11_record yX11_record ∈ fh_W := fh_mem 877 (by decide +kernel) (by decide +kernel)
theorem mi_X11_properties : fh_mv yX11_properties cX11_properties 5 (some .int) 1 11 := ⟨fh_mem 910 (by decide +kernel) (by decide +kernel), fh_mem 909 (by decide +kernel) (by decide +kernel), fh_mem 47 (by decide +kernel) (by decide +kernel), by decide, by decide, by decide +kernel, by decide, _, rfl, rfl⟩
theorem ms_X11_properties : Cond.selects yX11_properties.cls yX11_properties yX11_properties ∈ fh_W := fh_mem 27 (by decide +kernel) (by decide +kernel)
theorem mi_X11_turn : fh_mv yX11_turn cX11_turn 8 (some .int) 2 11 := ⟨fh_mem 882 (by decide +kernel) (by decide +kernel), fh_mem 880 (by decide +kernel) (by decide +kernel), fh_mem 47 (by decide +kernel) (by decide +kernel), by decide, by decide, by decide +kernel, by decide, _, rfl, rfl⟩
theorem ms_X11_turn : Cond.selects yX11_turn.cls yX11_turn yX11_turn ∈ fh_W := fh_mem 881 (by decide +kernel) (by decide +kernel)
theorem mi_X11_goes : fh_mv yX11_goes cX11_goes 3 (some .boolean) 2 11 := ⟨fh_mem 886 (by decide +kernel) (by decide +kernel), fh_mem 885 (by decide +kernel) (by decide +kernel), fh_mem 47 (by decide +kernel) (by decide +kernel), by decide, by decide, by decide +kernel, by decide, _, rfl, rfl⟩
theorem ms_X11_goes : Cond.selects yX11_goes.cls yX11_goes yX11_goes ∈ fh_W := fh_mem 23 (by decide +kernel) (by decide +kernel)
theorem mi_X11_areAlike : fh_mv yX11_areAlike cX11_areAlike 6 (some .boolean) 4 11 := ⟨fh_mem 898 (by decide +kernel) (by decide +kernel), fh_mem 897 (by decide +kernel) (by decide +kernel), fh_mem 47 (by decide +kernel) (by decide +kernel), by decide, by decide, by decide +kernel, by decide, _, rfl, rfl⟩
theorem ms_X11_areAlike : Cond.selects yX11_areAlike.cls yX11_areAlike yX11_areAlike ∈ fh_W := fh_mem 25 (by decide +kernel) (by decide +kernel)
theorem mi_X11_isKept : fh_mv yX11_isKept cX11_isKept 7 (some .boolean) 3 11 := ⟨fh_mem 894 (by decide +kernel) (by decide +kernel), fh_mem 893 (by decide +kernel) (by decide +kernel), fh_mem 47 (by decide +kernel) (by decide +kernel), by decide, by decide, by decide +kernel, by decide, _, rfl, rfl⟩
theorem ms_X11_isKept : Cond.selects yX11_isKept.cls yX11_isKept yX11_isKept ∈ fh_W := fh_mem 24 (by decide +kernel) (by decide +kernel)
theorem mi_X11_kept : fh_mv yX11_kept cX11_kept 7 (some .int) 2 11 := ⟨fh_mem 890 (by decide +kernel) (by decide +kernel), fh_mem 888 (by decide +kernel) (by decide +kernel), fh_mem 47 (by decide +kernel) (by decide +kernel), by decide, by decide, by decide +kernel, by decide, _, rfl, rfl⟩
theorem ms_X11_kept : Cond.selects yX11_kept.cls yX11_kept yX11_kept ∈ fh_W := fh_mem 889 (by decide +kernel) (by decide +kernel)
theorem mi_X11_mayTurn : fh_mv yX11_mayTurn cX11_mayTurn 3 (some .boolean) 2 11 := ⟨fh_mem 919 (by decide +kernel) (by decide +kernel), fh_mem 918 (by decide +kernel) (by decide +kernel), fh_mem 47 (by decide +kernel) (by decide +kernel), by decide, by decide, by decide +kernel, by decide, _, rfl, rfl⟩
theorem ms_X11_mayTurn : Cond.selects yX11_mayTurn.cls yX11_mayTurn yX11_mayTurn ∈ fh_W := fh_mem 29 (by decide +kernel) (by decide +kernel)
theorem mi_X11_measures : fh_mv yX11_measures cX11_measures 6 none 2 11 := ⟨fh_mem 914 (by decide +kernel) (by decide +kernel), fh_mem 913 (by decide +kernel) (by decide +kernel), fh_mem 47 (by decide +kernel) (by decide +kernel), by decide, by decide, by decide +kernel, by decide, _, rfl, rfl⟩
theorem ms_X11_measures : Cond.selects yX11_measures.cls yX11_measures yX11_measures ∈ fh_W := fh_mem 28 (by decide +kernel) (by decide +kernel)
theorem mi_X11_bestRoad : fh_mv yX11_bestRoad cX11_bestRoad 9 (some .int) 2 11 := ⟨fh_mem 906 (by decide +kernel) (by decide +kernel), fh_mem 905 (by decide +kernel) (by decide +kernel), fh_mem 47 (by decide +kernel) (by decide +kernel), by decide, by decide, by decide +kernel, by decide, _, rfl, rfl⟩
theorem ms_X11_bestRoad : Cond.selects yX11_bestRoad.cls yX11_bestRoad yX11_bestRoad ∈ fh_W := fh_mem 26 (by decide +kernel) (by decide +kernel)
theorem mi_X11_road : fh_mv yX11_road cX11_road 5 (some .int) 2 11 := ⟨fh_mem 902 (by decide +kernel) (by decide +kernel), fh_mem 900 (by decide +kernel) (by decide +kernel), fh_mem 47 (by decide +kernel) (by decide +kernel), by decide, by decide, by decide +kernel, by decide, _, rfl, rfl⟩
theorem ms_X11_road : Cond.selects yX11_road.cls yX11_road yX11_road ∈ fh_W := fh_mem 901 (by decide +kernel) (by decide +kernel)
theorem mi_X11_step : fh_mv yX11_step cX11_step 2 (some .int) 1 11 := ⟨fh_mem 923 (by decide +kernel) (by decide +kernel), fh_mem 921 (by decide +kernel) (by decide +kernel), fh_mem 47 (by decide +kernel) (by decide +kernel), by decide, by decide, by decide +kernel, by decide, _, rfl, rfl⟩
theorem ms_X11_step : Cond.selects yX11_step.cls yX11_step yX11_step ∈ fh_W := fh_mem 922 (by decide +kernel) (by decide +kernel)
theorem mi_X11_lives : fh_mv yX11_lives cX11_lives 3 (some .int) 2 11 := ⟨fh_mem 935 (by decide +kernel) (by decide +kernel), fh_mem 934 (by decide +kernel) (by decide +kernel), fh_mem 47 (by decide +kernel) (by decide +kernel), by decide, by decide, by decide +kernel, by decide, _, rfl, rfl⟩
theorem ms_X11_lives : Cond.selects yX11_lives.cls yX11_lives yX11_lives ∈ fh_W := fh_mem 31 (by decide +kernel) (by decide +kernel)
theorem mi_X11_lastOf : fh_mv yX11_lastOf cX11_lastOf 8 (some .int) 2 11 := ⟨fh_mem 931 (by decide +kernel) (by decide +kernel), fh_mem 930 (by decide +kernel) (by decide +kernel), fh_mem 47 (by decide +kernel) (by decide +kernel), by decide, by decide, by decide +kernel, by decide, _, rfl, rfl⟩
theorem ms_X11_lastOf : Cond.selects yX11_lastOf.cls yX11_lastOf yX11_lastOf ∈ fh_W := fh_mem 30 (by decide +kernel) (by decide +kernel)
theorem mi_X11_last : fh_mv yX11_last cX11_last 3 (some .int) 2 11 := ⟨fh_mem 927 (by decide +kernel) (by decide +kernel), fh_mem 925 (by decide +kernel) (by decide +kernel), fh_mem 47 (by decide +kernel) (by decide +kernel), by decide, by decide, by decide +kernel, by decide, _, rfl, rfl⟩
theorem ms_X11_last : Cond.selects yX11_last.cls yX11_last yX11_last ∈ fh_W := fh_mem 926 (by decide +kernel) (by decide +kernel)
theorem mi_X11_isRead : fh_mv yX11_isRead cX11_isRead 4 (some .boolean) 2 11 := ⟨fh_mem 951 (by decide +kernel) (by decide +kernel), fh_mem 950 (by decide +kernel) (by decide +kernel), fh_mem 47 (by decide +kernel) (by decide +kernel), by decide, by decide, by decide +kernel, by decide, _, rfl, rfl⟩
theorem ms_X11_isRead : Cond.selects yX11_isRead.cls yX11_isRead yX11_isRead ∈ fh_W := fh_mem 34 (by decide +kernel) (by decide +kernel)
theorem mi_X11_isPlanned : fh_mv yX11_isPlanned cX11_isPlanned 3 (some .boolean) 1 11 := ⟨fh_mem 943 (by decide +kernel) (by decide +kernel), fh_mem 942 (by decide +kernel) (by decide +kernel), fh_mem 47 (by decide +kernel) (by decide +kernel), by decide, by decide, by decide +kernel, by decide, _, rfl, rfl⟩
theorem ms_X11_isPlanned : Cond.selects yX11_isPlanned.cls yX11_isPlanned yX11_isPlanned ∈ fh_W := fh_mem 32 (by decide +kernel) (by decide +kernel)
theorem mi_X11_isBetter : fh_mv yX11_isBetter cX11_isBetter 3 (some .boolean) 1 11 := ⟨fh_mem 955 (by decide +kernel) (by decide +kernel), fh_mem 954 (by decide +kernel) (by decide +kernel), fh_mem 47 (by decide +kernel) (by decide +kernel), by decide, by decide, by decide +kernel, by decide, _, rfl, rfl⟩
theorem ms_X11_isBetter : Cond.selects yX11_isBetter.cls yX11_isBetter yX11_isBetter ∈ fh_W := fh_mem 35 (by decide +kernel) (by decide +kernel)
theorem mi_X11_goalOf : fh_mv yX11_goalOf cX11_goalOf 7 (some .int) 2 11 := ⟨fh_mem 947 (by decide +kernel) (by decide +kernel), fh_mem 946 (by decide +kernel) (by decide +kernel), fh_mem 47 (by decide +kernel) (by decide +kernel), by decide, by decide, by decide +kernel, by decide, _, rfl, rfl⟩
theorem ms_X11_goalOf : Cond.selects yX11_goalOf.cls yX11_goalOf yX11_goalOf ∈ fh_W := fh_mem 33 (by decide +kernel) (by decide +kernel)
theorem mi_X11_plan : fh_mv yX11_plan cX11_plan 5 (some .int) 1 11 := ⟨fh_mem 939 (by decide +kernel) (by decide +kernel), fh_mem 937 (by decide +kernel) (by decide +kernel), fh_mem 47 (by decide +kernel) (by decide +kernel), by decide, by decide, by decide +kernel, by decide, _, rfl, rfl⟩
theorem ms_X11_plan : Cond.selects yX11_plan.cls yX11_plan yX11_plan ∈ fh_W := fh_mem 938 (by decide +kernel) (by decide +kernel)
theorem mi_X11_goal : fh_mv yX11_goal cX11_goal 3 (some .int) 2 11 := ⟨fh_mem 959 (by decide +kernel) (by decide +kernel), fh_mem 957 (by decide +kernel) (by decide +kernel), fh_mem 47 (by decide +kernel) (by decide +kernel), by decide, by decide, by decide +kernel, by decide, _, rfl, rfl⟩
theorem ms_X11_goal : Cond.selects yX11_goal.cls yX11_goal yX11_goal ∈ fh_W := fh_mem 958 (by decide +kernel) (by decide +kernel)
theorem mi_X11_look : fh_mv yX11_look cX11_look 4 (some .int) 2 11 := ⟨fh_mem 963 (by decide +kernel) (by decide +kernel), fh_mem 961 (by decide +kernel) (by decide +kernel), fh_mem 47 (by decide +kernel) (by decide +kernel), by decide, by decide, by decide +kernel, by decide, _, rfl, rfl⟩
theorem ms_X11_look : Cond.selects yX11_look.cls yX11_look yX11_look ∈ fh_W := fh_mem 962 (by decide +kernel) (by decide +kernel)
theorem mi_X11_count : fh_mv yX11_count cX11_count 4 (some .int) 1 11 := ⟨fh_mem 967 (by decide +kernel) (by decide +kernel), fh_mem 965 (by decide +kernel) (by decide +kernel), fh_mem 47 (by decide +kernel) (by decide +kernel), by decide, by decide, by decide +kernel, by decide, _, rfl, rfl⟩
theorem ms_X11_count : Cond.selects yX11_count.cls yX11_count yX11_count ∈ fh_W := fh_mem 966 (by decide +kernel) (by decide +kernel)
theorem mi_J7_fill_d0a16 : fh_ms yJ7_fill_d0a16 cJ7_fill_d0a16 5 none 2 := ⟨fh_mem 564 (by decide +kernel) (by decide +kernel), fh_mem 563 (by decide +kernel) (by decide +kernel), fh_mem 41 (by decide +kernel) (by decide +kernel), by decide, by decide, by decide +kernel⟩
theorem mi_J7_fill_53178 : fh_ms yJ7_fill_53178 cJ7_fill_53178 4 none 2 := ⟨fh_mem 91 (by decide +kernel) (by decide +kernel), fh_mem 90 (by decide +kernel) (by decide +kernel), fh_mem 41 (by decide +kernel) (by decide +kernel), by decide, by decide, by decide +kernel⟩
theorem mi_J7_copyOf_59c91 : fh_ms yJ7_copyOf_59c91 cJ7_copyOf_59c91 3 (some (.array .int)) 2 := ⟨fh_mem 280 (by decide +kernel) (by decide +kernel), fh_mem 279 (by decide +kernel) (by decide +kernel), fh_mem 41 (by decide +kernel) (by decide +kernel), by decide, by decide, by decide +kernel⟩
end
section
def fb {α β : Type} (x : α) (f : α → Option β) : Option β := f x
theorem fb_s {α β : Type} {x : α} {f : α → Option β} {y : β} (h : fb x f = some y) : ∃ m, x = m ∧ f m = some y := ⟨x, rfl, h⟩
theorem fv_eqM {X : fh_X} {R : Room} {nL : Nat} {z : Nat × Nat × Nat} {K : fh_K} {M : fh_M} {pc : Nat} {lv : List (Nat × Value)} {st : List Value} {M' : fh_M} (e : M = M') (k : fh_V X R nL z K M' pc lv st) : fh_V X R nL z K M pc lv st := by rw [e]; exact k
theorem fv_eqK {X : fh_X} {R : Room} {nL : Nat} {z : Nat × Nat × Nat} {K : fh_K} {M : fh_M} {pc : Nat} {lv : List (Nat × Value)} {st : List Value} {K' : fh_K} (e : K = K') (k : fh_V X R nL z K' M pc lv st) : fh_V X R nL z K M pc lv st := by rw [e]; exact k
def fz {α : Type} (v : Int32) (x : Option α) : Option α := if v = 0 ∨ v = 1 then x else none
theorem fz_s {α : Type} {v : Int32} {x : Option α} {y : α} (h : fz v x = some y) : (v = 0 ∨ v = 1) ∧ x = some y := by
  by_cases hv : v = 0 ∨ v = 1
  · exact ⟨hv, by simpa [fz, hv] using h⟩
  · unfold fz at h; rw [if_neg hv] at h; cases h
def fn {α : Type} (n : Int32) (b : Nat) (f : Nat → Option α) : Option α := if ¬ n < 0 ∧ n.toNatClampNeg ≤ b then f n.toNatClampNeg else none
theorem fn_s {α : Type} {n : Int32} {b : Nat} {f : Nat → Option α} {x : α} (h : fn n b f = some x) : ∃ N, ¬ n < 0 ∧ n.toNatClampNeg = N ∧ N ≤ b ∧ f N = some x := by
  by_cases hv : ¬ n < 0 ∧ n.toNatClampNeg ≤ b
  · exact ⟨_, hv.1, rfl, hv.2, by unfold fn at h; rw [if_pos hv] at h; exact h⟩
  · unfold fn at h; rw [if_neg hv] at h; cases h
def fq {α : Type} (K : fh_K) (r0 : Option Nat) (sp : Int32) (r : Option Nat) (dp n : Int32) (f : Nat → Nat → Option α) : Option α := match r0, r with
  | some a0, some a => if (K a0).1 = 13 ∧ (K a).1 = 13 ∧ ¬ sp < 0 ∧ ¬ dp < 0 ∧ ¬ n < 0 ∧ sp.toNatClampNeg + n.toNatClampNeg ≤ (K a0).2 ∧ dp.toNatClampNeg + n.toNatClampNeg ≤ (K a).2 then f a0 a else none
  | _, _ => none
theorem fq_s {α : Type} {K : fh_K} {r0 : Option Nat} {sp : Int32} {r : Option Nat} {dp n : Int32} {f : Nat → Nat → Option α} {x : α} (h : fq K r0 sp r dp n f = some x) : ∃ a0 a, r0 = some a0 ∧ r = some a ∧ ((K a0).1 = 13 ∧ (K a).1 = 13 ∧ ¬ sp < 0 ∧ ¬ dp < 0 ∧ ¬ n < 0 ∧ sp.toNatClampNeg + n.toNatClampNeg ≤ (K a0).2 ∧ dp.toNatClampNeg + n.toNatClampNeg ≤ (K a).2) ∧ f a0 a = some x := by
  cases r0 with
  | none => cases h
  | some a0 =>
    cases r with
    | none => cases h
    | some a =>
      simp only [fq] at h
      split at h
      · rename_i hc; exact ⟨a0, a, rfl, rfl, hc, h⟩
      · cases h
def fc2 {α β γ : Type} (x : Option (α × β)) (f : α → β → Option γ) : Option γ := match x with
  | none => none
  | some q => f q.1 q.2
theorem fc2_s {α β γ : Type} {x : Option (α × β)} {f : α → β → Option γ} {y : γ} (h : fc2 x f = some y) : ∃ a b, x = some (a, b) ∧ f a b = some y := by
  cases x with
  | none => cases h
  | some q => exact ⟨q.1, q.2, rfl, h⟩
def fc3 {β γ : Type} (x : Option (Nat × fh_K × β)) (f : Nat → fh_K → β → Option γ) : Option γ := match x with
  | none => none
  | some q => f q.1 q.2.1 q.2.2
theorem fc3_s {β γ : Type} {x : Option (Nat × fh_K × β)} {f : Nat → fh_K → β → Option γ} {y : γ} (h : fc3 x f = some y) : ∃ a b c, x = some (a, b, c) ∧ f a b c = some y := by
  cases x with
  | none => cases h
  | some q => exact ⟨q.1, q.2.1, q.2.2, rfl, h⟩
def fc4 {α β γ : Type} (x : Option (α × Nat × fh_K × β)) (f : α → Nat → fh_K → β → Option γ) : Option γ := match x with
  | none => none
  | some q => f q.1 q.2.1 q.2.2.1 q.2.2.2
theorem fc4_s {α β γ : Type} {x : Option (α × Nat × fh_K × β)} {f : α → Nat → fh_K → β → Option γ} {y : γ} (h : fc4 x f = some y) : ∃ d a b c, x = some (d, a, b, c) ∧ f d a b c = some y := by
  cases x with
  | none => cases h
  | some q => exact ⟨q.1, q.2.1, q.2.2.1, q.2.2.2, rfl, h⟩
theorem fv_aast2 {X : fh_X} {R : Room} {nL : Nat} {z : Nat × Nat × Nat} {K : fh_K} {M : fh_M} {pc : Nat} {lv : List (Nat × Value)} {st : List Value} {cc : ByteArray} {own : String} (C : fh_C X nL cc own) {r rv : Option Nat} {a v ci t : Nat} {i : Int32} {q : vw_C} (t0 : Nat) (ht1 : 16 < t) (hc : vwCl[ci]? = some q) (hci : ci < 12) (hty : ∀ D : fh_D, (fh_tys D)[t0]? = some (D.2.2 t, .object q.1)) (hr : r = some a) (hk : (K a).1 = t) (hi : vp_in i (K a).2) (hrv : rv = some v) (hv : (K v).1 = ci + 1) (hd : decode cc pc = .ok (.aastore, 1)) (kk : fh_V X R nL z K (fh_sr M a i.toNatClampNeg (some v)) (pc + 1) lv st) : fh_V X R nL z K M pc lv (va_rf rv :: .int i :: va_rf r :: st) := by
  subst hrv
  exact fv_aast C t0 ht1 hc hci hty hr hk hi hv hd kk
theorem cat_i (x : Int32) : (Value.int x).category = 1 := rfl
theorem cat_l (x : Int64) : (Value.long x).category = 2 := rfl
theorem fs_1 {α : Type} {a b : α} (h : some a = some b) : a = b := Option.some.inj h
end
section
def f_X0_clear (K : fh_K) (M : fh_M) (t : Nat) : Option (fh_M) :=
  fo K 0 (some t) fun a1 =>
    fb (fh_si M a1 1 (0)) fun M2 =>
    some M2
def f_X0_room (K : fh_K) (M : fh_M) (t : Nat) : Option (Int32) :=
  fo K 0 (some t) fun a1 =>
    fa K 13 (M.2.2 a1 0) fun a2 =>
    some ((nI (K a2).2) - (M.1 a1 1))
def f_X0_addByte (K : fh_K) (M : fh_M) (t : Nat) (p1 : Int32) : Option (Int32 × fh_M) :=
  fo K 0 (some t) fun a1 =>
    fa K 13 (M.2.2 a1 0) fun a2 =>
    if (M.1 a1 1) < (nI (K a2).2) then
    fi K 13 (M.2.2 a1 0) (M.1 a1 1) fun a3 =>
      fb (fh_si M a3 (M.1 a1 1).toNatClampNeg (p1 &&& 255)) fun M4 =>
      fb (fh_si M4 a1 1 ((M4.1 a1 1) + 1)) fun M5 =>
      some (1, M5)
  else
    some (0, M)
def f_X0_addWord_L3 (K : fh_K) : Nat → Nat → Int32 → Int32 → fh_M → Option (fh_M)
  | 0 => fun _ _ _ _ => none
  | n + 1 => fun t v1 v2 M =>
    if v2 < 0 then
      some M
    else
      fo K 0 (some t) fun a1 =>
        fc2 (f_X0_addByte K M a1 (v1 >>> (v2 &&& 31))) fun r2 M3 =>
        f_X0_addWord_L3 K n t (v1) (v2 + (-8)) M3
def f_X0_addWord (K : fh_K) (M : fh_M) (t : Nat) (p1 : Int32) : Option (fh_M) :=
  f_X0_addWord_L3 K 4096 t (p1) (24) M
def f_X0_addPart (K : fh_K) (M : fh_M) (t : Nat) (p1 : Option Nat) (p2 : Int32) (p3 : Int32) : Option (Int32 × fh_M) :=
  if p2 < 0 then
    some (0, M)
  else
    if p3 < 0 then
      some (0, M)
    else
      fa K 13 (p1) fun a1 =>
        if ((nI (K a1).2) - p2) < p3 then
        some (0, M)
      else
        fo K 0 (some t) fun a2 =>
          (f_X0_room K M a2).bind fun r3 =>
          if p3 ≤ r3 then
          fq K (p1) (p2) (M.2.2 a2 0) (M.1 a2 1) (p3) fun a4 a5 =>
            fb (fh_ri M a5 (va_cpy (M.1 a4) (M.1 a5) p2.toNatClampNeg (M.1 a2 1).toNatClampNeg p3.toNatClampNeg)) fun M7 =>
            fb (fh_si M7 a2 1 ((M7.1 a2 1) + p3)) fun M8 =>
            some (1, M8)
        else
          some (0, M)
def f_X1_knows (K : fh_K) (M : fh_M) (t : Nat) (p1 : Int32) : Option (Int32) :=
  if p1 < 0 then
    some 0
  else
    if 8 ≤ p1 then
      some 0
    else
      some 1
def f_X1_setEnds (K : fh_K) (M : fh_M) (t : Nat) (p1 : Int32) (p2 : Int32) (p3 : Int32) : Option (fh_M) :=
  fo K 1 (some t) fun a1 =>
    (f_X1_knows K M a1 (p1)).bind fun r2 =>
    if r2 = 0 then
    some M
  else
    fi K 13 (M.2.2 a1 0) (p1) fun a3 =>
      fb (fh_si M a3 p1.toNatClampNeg (p2)) fun M4 =>
      fi K 13 (M4.2.2 a1 1) (p1) fun a5 =>
      fb (fh_si M4 a5 p1.toNatClampNeg (p3)) fun M6 =>
      some M6
def f_X1_endOf (K : fh_K) (M : fh_M) (t : Nat) (p1 : Int32) (p2 : Int32) : Option (Int32) :=
  fo K 1 (some t) fun a1 =>
    (f_X1_knows K M a1 (p1)).bind fun r2 =>
    if r2 = 0 then
    some (-1)
  else
    if p2 = 0 then
      fi K 13 (M.2.2 a1 1) (p1) fun a3 =>
        some (M.1 a3 p1.toNatClampNeg)
    else
      fi K 13 (M.2.2 a1 0) (p1) fun a4 =>
        some (M.1 a4 p1.toNatClampNeg)
def f_X1_liveSurely (K : fh_K) (M : fh_M) (t : Nat) (p1 : Int32) (p2 : Int32) : Option (Int32) :=
  fo K 1 (some t) fun a1 =>
    (f_X1_endOf K M a1 (p1) (1)).bind fun r2 =>
    if r2 < p2 then
    some 0
  else
    some 1
abbrev rm_X0_clear : Room := { frames := 0, cells := 0, slots := 0, locals := 0 }
set_option maxRecDepth 10000 in
theorem r_X0_clear (l : Launch) (D : fh_D) (A : Nat → Prop) {K : fh_K} {sz : Nat} {M : fh_M} {M' : fh_M} {t : Nat} (h : f_X0_clear K M t = some M') : fh_Met l yX0_clear cX0_clear 1 none rm_X0_clear D K M sz A [va_rf (some t)] none K M' sz := by
  refine fh_enter (by decide) (by simp [lg_sl, va_rf_cat, cat_i, cat_l]) (lv := [(0, va_rf (some t))]) (by simp [lv_args, va_rf_cat, cat_i, cat_l]) ?_
  intro X C E hnm _ _ _
  replace C : fh_C X 1 cX0_clear RX0 := C
  unfold f_X0_clear at h
  refine fv_aload_n C 0 rfl rfl dX0_clear_0 ?_
  refine fv_iconst (v := 0) C (by decide) dX0_clear_1 ?_
  replace h := fo_s h
  obtain ⟨a1, ea1, ka1, h⟩ := h
  replace h := fb_s h
  obtain ⟨M2, eM2, h⟩ := h
  refine fv_putI (fin := false) C fl_RX0_9 ea1 ka1 (narrow_i _) dX0_clear_2 (fv_eqM eM2 ?_)
  cases h
  exact fv_vret (z := (0, 0, 0)) (st := []) C E dX0_clear_5
abbrev rm_X0_room : Room := { frames := 0, cells := 0, slots := 0, locals := 0 }
set_option maxRecDepth 10000 in
theorem r_X0_room (l : Launch) (D : fh_D) (A : Nat → Prop) {K : fh_K} {sz : Nat} {M : fh_M} {r : Int32} {t : Nat} (h : f_X0_room K M t = some r) : fh_Met l yX0_room cX0_room 1 (some .int) rm_X0_room D K M sz A [va_rf (some t)] (some (.int r)) K M sz := by
  refine fh_enter (by decide) (by simp [lg_sl, va_rf_cat, cat_i, cat_l]) (lv := [(0, va_rf (some t))]) (by simp [lv_args, va_rf_cat, cat_i, cat_l]) ?_
  intro X C E hnm _ _ _
  replace C : fh_C X 1 cX0_room RX0 := C
  unfold f_X0_room at h
  refine fv_aload_n C 0 rfl rfl dX0_room_0 ?_
  replace h := fo_s h
  obtain ⟨a1, ea1, ka1, h⟩ := h
  refine fv_getR C fl_RX0_21 ea1 ka1 dX0_room_1 ?_
  replace h := fa_s h
  obtain ⟨a2, ea2, ka2, h⟩ := h
  refine fv_alen C 0 (by decide) (fun _ => rfl) ea2 ka2 dX0_room_4 ?_
  refine fv_aload_n C 0 rfl rfl dX0_room_5 ?_
  refine fv_getI C fl_RX0_9 ea1 ka1 dX0_room_6 ?_
  refine fv_isub C dX0_room_9 ?_
  cases h
  exact fv_iret (z := (0, 0, 0)) (st := []) C E dX0_room_10
abbrev rm_X0_addByte : Room := { frames := 0, cells := 0, slots := 0, locals := 0 }
set_option maxRecDepth 10000 in
theorem r_X0_addByte (l : Launch) (D : fh_D) (A : Nat → Prop) {K : fh_K} {sz : Nat} {M : fh_M} {M' : fh_M} {r : Int32} {t : Nat} {p1 : Int32} (h : f_X0_addByte K M t p1 = some (r, M')) : fh_Met l yX0_addByte cX0_addByte 2 (some .boolean) rm_X0_addByte D K M sz A [va_rf (some t), .int p1] (some (.int r)) K M' sz := by
  refine fh_enter (by decide) (by simp [lg_sl, va_rf_cat, cat_i, cat_l]) (lv := [(0, va_rf (some t)), (1, .int p1)]) (by simp [lv_args, va_rf_cat, cat_i, cat_l]) ?_
  intro X C E hnm _ _ _
  replace C : fh_C X 2 cX0_addByte RX0 := C
  unfold f_X0_addByte at h
  refine fv_aload_n C 0 rfl rfl dX0_addByte_0 ?_
  replace h := fo_s h
  obtain ⟨a1, ea1, ka1, h⟩ := h
  refine fv_getI C fl_RX0_9 ea1 ka1 dX0_addByte_1 ?_
  refine fv_aload_n C 0 rfl rfl dX0_addByte_4 ?_
  refine fv_getR C fl_RX0_21 ea1 ka1 dX0_addByte_5 ?_
  replace h := fa_s h
  obtain ⟨a2, ea2, ka2, h⟩ := h
  refine fv_alen C 0 (by decide) (fun _ => rfl) ea2 ka2 dX0_addByte_8 ?_
  refine fv_icmp_lt C 14 (by decide) dX0_addByte_9 (fun c6 => ?_) (fun c6 => ?_)
  · replace h := itT c6 h
    refine fv_aload_n C 0 rfl rfl dX0_addByte_14 ?_
    refine fv_getR C fl_RX0_21 ea1 ka1 dX0_addByte_15 ?_
    refine fv_aload_n C 0 rfl rfl dX0_addByte_18 ?_
    refine fv_getI C fl_RX0_9 ea1 ka1 dX0_addByte_19 ?_
    refine fv_iload_n C 1 rfl rfl dX0_addByte_22 ?_
    refine fv_sipush (v := 255) C (by decide) dX0_addByte_23 ?_
    refine fv_iand C dX0_addByte_26 ?_
    replace h := fi_s h
    obtain ⟨a3, ea3, ka3, ia3, h⟩ := h
    replace h := fb_s h
    obtain ⟨M4, eM4, h⟩ := h
    refine fv_iast C ea3 ka3 ia3 dX0_addByte_27 (fv_eqM eM4 ?_)
    refine fv_aload_n C 0 rfl rfl dX0_addByte_28 ?_
    refine fv_dupr C dX0_addByte_29 ?_
    refine fv_getI C fl_RX0_9 ea1 ka1 dX0_addByte_30 ?_
    refine fv_iconst (v := 1) C (by decide) dX0_addByte_33 ?_
    refine fv_iadd C dX0_addByte_34 ?_
    replace h := fb_s h
    obtain ⟨M5, eM5, h⟩ := h
    refine fv_putI (fin := false) C fl_RX0_9 ea1 ka1 (narrow_i _) dX0_addByte_35 (fv_eqM eM5 ?_)
    refine fv_iconst (v := 1) C (by decide) dX0_addByte_38 ?_
    cases h
    exact fv_zret (z := (0, 0, 0)) (st := []) C E (Or.inr rfl) dX0_addByte_39
  · replace h := itF c6 h
    refine fv_iconst (v := 0) C (by decide) dX0_addByte_12 ?_
    cases h
    exact fv_zret (z := (0, 0, 0)) (st := []) C E (Or.inl rfl) dX0_addByte_13
abbrev rm_X0_addWord : Room := { frames := 1, cells := 0, slots := 0, locals := 21 }
set_option maxRecDepth 10000 in
theorem r_X0_addWord_L3 {X : fh_X} {K : fh_K} {sz : Nat} {M' : fh_M} (C : fh_C X 3 cX0_addWord RX0) (E : fh_E X rm_X0_addWord none none K M' sz) : ∀ (n : Nat) (t : Nat) (v1 : Int32) (v2 : Int32) (M : fh_M), f_X0_addWord_L3 K n t v1 v2 M = some M' → fh_V X rm_X0_addWord 3 (sz, 0, 0) K M 3 [(0, va_rf (some t)), (1, .int v1), (2, .int v2)] [] := by
  intro n
  induction n with
  | zero => intro t v1 v2 M h; cases h
  | succ n ih =>
    intro t v1 v2 M h
    unfold f_X0_addWord_L3 at h
    refine fv_iload_n C 2 rfl rfl dX0_addWord_3 ?_
    refine fv_if_lt C 21 (by decide) dX0_addWord_4 (fun c4 => ?_) (fun c4 => ?_)
    · replace h := itT c4 h
      cases h
      exact fv_vret (z := (0, 0, 0)) (st := []) C E dX0_addWord_21
    · replace h := itF c4 h
      refine fv_aload_n C 0 rfl rfl dX0_addWord_7 ?_
      refine fv_iload_n C 1 rfl rfl dX0_addWord_8 ?_
      refine fv_iload_n C 2 rfl rfl dX0_addWord_9 ?_
      refine fv_ishr C dX0_addWord_10 ?_
      replace h := fo_s h
      obtain ⟨a1, ea1, ka1, h⟩ := h
      replace h := fc2_s h
      obtain ⟨r2, M3, er2, h⟩ := h
      refine fv_callV [.int (v1 >>> (v2 &&& 31))] C mi_X0_addByte ms_X0_addByte lk_RX0_25 ea1 ka1 (r_X0_addByte _ _ _ er2) ⟨Nat.le_of_ble_eq_true rfl, Nat.le_of_ble_eq_true rfl⟩ ⟨Nat.le_of_ble_eq_true rfl, Nat.le_of_ble_eq_true rfl⟩ rfl rfl (by simp [va_rf_cat, cat_i, cat_l]) dX0_addWord_11 ?_
      show fh_V X rm_X0_addWord 3 (sz, 0, 0) K M3 _ _ [.int r2]
      refine fv_pop C dX0_addWord_14 ?_
      refine fv_iinc (v := v2 + (-8)) (lv' := [(2, .int (v2 + (-8))), (0, va_rf (some t)), (1, .int v1)]) C 2 rfl (by first | rfl | exact congrArg _ (by decide)) (by decide) (by first | rfl | simp [va_rf_cat]) dX0_addWord_15 ?_
      refine fv_goto C 3 (by decide) dX0_addWord_18 ?_
      refine fv_sub (cc := ⟨#[]⟩) (own := "") [1, 2, 0] rfl ?_
      exact ih _ _ _ _ h
set_option maxRecDepth 10000 in
theorem r_X0_addWord (l : Launch) (D : fh_D) (A : Nat → Prop) {K : fh_K} {sz : Nat} {M : fh_M} {M' : fh_M} {t : Nat} {p1 : Int32} (h : f_X0_addWord K M t p1 = some M') : fh_Met l yX0_addWord cX0_addWord 3 none rm_X0_addWord D K M sz A [va_rf (some t), .int p1] none K M' sz := by
  refine fh_enter (by decide) (by simp [lg_sl, va_rf_cat, cat_i, cat_l]) (lv := [(0, va_rf (some t)), (1, .int p1)]) (by simp [lv_args, va_rf_cat, cat_i, cat_l]) ?_
  intro X C E hnm _ _ _
  replace C : fh_C X 3 cX0_addWord RX0 := C
  unfold f_X0_addWord at h
  refine fv_bipush (v := 24) C (by decide) dX0_addWord_0 ?_
  refine fv_istore_n (lv' := [(2, .int 24), (0, va_rf (some t)), (1, .int p1)]) C rfl (by decide) (by first | rfl | simp [va_rf_cat]) dX0_addWord_2 ?_
  refine fv_sub (cc := ⟨#[]⟩) (own := "") [1, 2, 0] rfl ?_
  exact r_X0_addWord_L3 C E  4096 _ _ _ _ h
abbrev rm_X0_addPart : Room := { frames := 1, cells := 0, slots := 0, locals := 60 }
set_option maxRecDepth 10000 in
theorem r_X0_addPart (l : Launch) (D : fh_D) (A : Nat → Prop) {K : fh_K} {sz : Nat} {M : fh_M} {M' : fh_M} {r : Int32} {t : Nat} {p1 : Option Nat} {p2 : Int32} {p3 : Int32} (h : f_X0_addPart K M t p1 p2 p3 = some (r, M')) : fh_Met l yX0_addPart cX0_addPart 4 (some .boolean) rm_X0_addPart D K M sz A [va_rf (some t), va_rf p1, .int p2, .int p3] (some (.int r)) K M' sz := by
  refine fh_enter (by decide) (by simp [lg_sl, va_rf_cat, cat_i, cat_l]) (lv := [(0, va_rf (some t)), (1, va_rf p1), (2, .int p2), (3, .int p3)]) (by simp [lv_args, va_rf_cat, cat_i, cat_l]) ?_
  intro X C E hnm _ _ _
  replace C : fh_C X 4 cX0_addPart RX0 := C
  unfold f_X0_addPart at h
  refine fv_iload_n C 2 rfl rfl dX0_addPart_0 ?_
  refine fv_if_lt C 24 (by decide) dX0_addPart_1 (fun c12 => ?_) (fun c12 => ?_)
  · replace h := itT c12 h
    refine fv_iconst (v := 0) C (by decide) dX0_addPart_24 ?_
    cases h
    exact fv_zret (z := (0, 0, 0)) (st := []) C E (Or.inl rfl) dX0_addPart_25
  · replace h := itF c12 h
    refine fv_iload_n C 3 rfl rfl dX0_addPart_4 ?_
    refine fv_if_lt C 24 (by decide) dX0_addPart_5 (fun c11 => ?_) (fun c11 => ?_)
    · replace h := itT c11 h
      refine fv_iconst (v := 0) C (by decide) dX0_addPart_24 ?_
      cases h
      exact fv_zret (z := (0, 0, 0)) (st := []) C E (Or.inl rfl) dX0_addPart_25
    · replace h := itF c11 h
      refine fv_iload_n C 3 rfl rfl dX0_addPart_8 ?_
      refine fv_aload_n C 1 rfl rfl dX0_addPart_9 ?_
      replace h := fa_s h
      obtain ⟨a1, ea1, ka1, h⟩ := h
      refine fv_alen C 0 (by decide) (fun _ => rfl) ea1 ka1 dX0_addPart_10 ?_
      refine fv_iload_n C 2 rfl rfl dX0_addPart_11 ?_
      refine fv_isub C dX0_addPart_12 ?_
      refine fv_icmp_gt C 24 (by decide) dX0_addPart_13 (fun c10 => ?_) (fun c10 => ?_)
      · replace h := itT c10 h
        refine fv_iconst (v := 0) C (by decide) dX0_addPart_24 ?_
        cases h
        exact fv_zret (z := (0, 0, 0)) (st := []) C E (Or.inl rfl) dX0_addPart_25
      · replace h := itF c10 h
        refine fv_iload_n C 3 rfl rfl dX0_addPart_16 ?_
        refine fv_aload_n C 0 rfl rfl dX0_addPart_17 ?_
        replace h := fo_s h
        obtain ⟨a2, ea2, ka2, h⟩ := h
        replace h := bx h
        obtain ⟨r3, er3, h⟩ := h
        refine fv_callV [] C mi_X0_room ms_X0_room lk_RX0_29 ea2 ka2 (r_X0_room _ _ _ er3) ⟨Nat.le_of_ble_eq_true rfl, Nat.le_of_ble_eq_true rfl⟩ ⟨Nat.le_of_ble_eq_true rfl, Nat.le_of_ble_eq_true rfl⟩ rfl rfl (by simp [va_rf_cat, cat_i, cat_l]) dX0_addPart_18 ?_
        show fh_V X rm_X0_addPart 4 (sz, 0, 0) K M _ _ [.int r3, .int p3]
        refine fv_icmp_le C 26 (by decide) dX0_addPart_21 (fun c9 => ?_) (fun c9 => ?_)
        · replace h := itT c9 h
          refine fv_aload_n C 1 rfl rfl dX0_addPart_26 ?_
          refine fv_iload_n C 2 rfl rfl dX0_addPart_27 ?_
          refine fv_aload_n C 0 rfl rfl dX0_addPart_28 ?_
          refine fv_getR C fl_RX0_21 ea2 ka2 dX0_addPart_29 ?_
          refine fv_aload_n C 0 rfl rfl dX0_addPart_32 ?_
          refine fv_getI C fl_RX0_9 ea2 ka2 dX0_addPart_33 ?_
          refine fv_iload_n C 3 rfl rfl dX0_addPart_36 ?_
          replace h := fq_s h
          obtain ⟨a4, a5, ea4, ea5, q6, h⟩ := h
          replace h := fb_s h
          obtain ⟨M7, eM7, h⟩ := h
          refine fv_copy C lk_RX0_33 jw_copy_native jw_copy_static ji_System ea4 ea5 q6.1 q6.2.1 q6.2.2.1 q6.2.2.2.1 q6.2.2.2.2.1 q6.2.2.2.2.2.1 q6.2.2.2.2.2.2 (by decide) (by simp [va_rf_cat, cat_i, cat_l, nativeFrameWords]) dX0_addPart_37 (fv_eqM eM7 ?_)
          refine fv_aload_n C 0 rfl rfl dX0_addPart_40 ?_
          refine fv_dupr C dX0_addPart_41 ?_
          refine fv_getI C fl_RX0_9 ea2 ka2 dX0_addPart_42 ?_
          refine fv_iload_n C 3 rfl rfl dX0_addPart_45 ?_
          refine fv_iadd C dX0_addPart_46 ?_
          replace h := fb_s h
          obtain ⟨M8, eM8, h⟩ := h
          refine fv_putI (fin := false) C fl_RX0_9 ea2 ka2 (narrow_i _) dX0_addPart_47 (fv_eqM eM8 ?_)
          refine fv_iconst (v := 1) C (by decide) dX0_addPart_50 ?_
          cases h
          exact fv_zret (z := (0, 0, 0)) (st := []) C E (Or.inr rfl) dX0_addPart_51
        · replace h := itF c9 h
          refine fv_iconst (v := 0) C (by decide) dX0_addPart_24 ?_
          cases h
          exact fv_zret (z := (0, 0, 0)) (st := []) C E (Or.inl rfl) dX0_addPart_25
abbrev rm_X1_knows : Room := { frames := 0, cells := 0, slots := 0, locals := 0 }
set_option maxRecDepth 10000 in
theorem r_X1_knows (l : Launch) (D : fh_D) (A : Nat → Prop) {K : fh_K} {sz : Nat} {M : fh_M} {r : Int32} {t : Nat} {p1 : Int32} (h : f_X1_knows K M t p1 = some r) : fh_Met l yX1_knows cX1_knows 2 (some .boolean) rm_X1_knows D K M sz A [va_rf (some t), .int p1] (some (.int r)) K M sz := by
  refine fh_enter (by decide) (by simp [lg_sl, va_rf_cat, cat_i, cat_l]) (lv := [(0, va_rf (some t)), (1, .int p1)]) (by simp [lv_args, va_rf_cat, cat_i, cat_l]) ?_
  intro X C E hnm _ _ _
  replace C : fh_C X 2 cX1_knows RX1 := C
  unfold f_X1_knows at h
  refine fv_iload_n C 1 rfl rfl dX1_knows_0 ?_
  refine fv_if_lt C 14 (by decide) dX1_knows_1 (fun c2 => ?_) (fun c2 => ?_)
  · replace h := itT c2 h
    refine fv_iconst (v := 0) C (by decide) dX1_knows_14 ?_
    cases h
    exact fv_zret (z := (0, 0, 0)) (st := []) C E (Or.inl rfl) dX1_knows_15
  · replace h := itF c2 h
    refine fv_iload_n C 1 rfl rfl dX1_knows_4 ?_
    refine fv_bipush (v := 8) C (by decide) dX1_knows_5 ?_
    refine fv_icmp_ge C 14 (by decide) dX1_knows_7 (fun c1 => ?_) (fun c1 => ?_)
    · replace h := itT c1 h
      refine fv_iconst (v := 0) C (by decide) dX1_knows_14 ?_
      cases h
      exact fv_zret (z := (0, 0, 0)) (st := []) C E (Or.inl rfl) dX1_knows_15
    · replace h := itF c1 h
      refine fv_iconst (v := 1) C (by decide) dX1_knows_10 ?_
      refine fv_goto C 15 (by decide) dX1_knows_11 ?_
      cases h
      exact fv_zret (z := (0, 0, 0)) (st := []) C E (Or.inr rfl) dX1_knows_15
abbrev rm_X1_setEnds : Room := { frames := 1, cells := 0, slots := 0, locals := 21 }
set_option maxRecDepth 10000 in
theorem r_X1_setEnds (l : Launch) (D : fh_D) (A : Nat → Prop) {K : fh_K} {sz : Nat} {M : fh_M} {M' : fh_M} {t : Nat} {p1 : Int32} {p2 : Int32} {p3 : Int32} (h : f_X1_setEnds K M t p1 p2 p3 = some M') : fh_Met l yX1_setEnds cX1_setEnds 4 none rm_X1_setEnds D K M sz A [va_rf (some t), .int p1, .int p2, .int p3] none K M' sz := by
  refine fh_enter (by decide) (by simp [lg_sl, va_rf_cat, cat_i, cat_l]) (lv := [(0, va_rf (some t)), (1, .int p1), (2, .int p2), (3, .int p3)]) (by simp [lv_args, va_rf_cat, cat_i, cat_l]) ?_
  intro X C E hnm _ _ _
  replace C : fh_C X 4 cX1_setEnds RX1 := C
  unfold f_X1_setEnds at h
  refine fv_aload_n C 0 rfl rfl dX1_setEnds_0 ?_
  refine fv_iload_n C 1 rfl rfl dX1_setEnds_1 ?_
  replace h := fo_s h
  obtain ⟨a1, ea1, ka1, h⟩ := h
  replace h := bx h
  obtain ⟨r2, er2, h⟩ := h
  refine fv_callV [.int p1] C mi_X1_knows ms_X1_knows lk_RX1_24 ea1 ka1 (r_X1_knows _ _ _ er2) ⟨Nat.le_of_ble_eq_true rfl, Nat.le_of_ble_eq_true rfl⟩ ⟨Nat.le_of_ble_eq_true rfl, Nat.le_of_ble_eq_true rfl⟩ rfl rfl (by simp [va_rf_cat, cat_i, cat_l]) dX1_setEnds_2 ?_
  show fh_V X rm_X1_setEnds 4 (sz, 0, 0) K M _ _ [.int r2]
  refine fv_if_eq C 22 (by decide) dX1_setEnds_5 (fun c7 => ?_) (fun c7 => ?_)
  · replace h := itT c7 h
    cases h
    exact fv_vret (z := (0, 0, 0)) (st := []) C E dX1_setEnds_22
  · replace h := itF c7 h
    refine fv_aload_n C 0 rfl rfl dX1_setEnds_8 ?_
    refine fv_getR C fl_RX1_9 ea1 ka1 dX1_setEnds_9 ?_
    refine fv_iload_n C 1 rfl rfl dX1_setEnds_12 ?_
    refine fv_iload_n C 2 rfl rfl dX1_setEnds_13 ?_
    replace h := fi_s h
    obtain ⟨a3, ea3, ka3, ia3, h⟩ := h
    replace h := fb_s h
    obtain ⟨M4, eM4, h⟩ := h
    refine fv_iast C ea3 ka3 ia3 dX1_setEnds_14 (fv_eqM eM4 ?_)
    refine fv_aload_n C 0 rfl rfl dX1_setEnds_15 ?_
    refine fv_getR C fl_RX1_15 ea1 ka1 dX1_setEnds_16 ?_
    refine fv_iload_n C 1 rfl rfl dX1_setEnds_19 ?_
    refine fv_iload_n C 3 rfl rfl dX1_setEnds_20 ?_
    replace h := fi_s h
    obtain ⟨a5, ea5, ka5, ia5, h⟩ := h
    replace h := fb_s h
    obtain ⟨M6, eM6, h⟩ := h
    refine fv_iast C ea5 ka5 ia5 dX1_setEnds_21 (fv_eqM eM6 ?_)
    cases h
    exact fv_vret (z := (0, 0, 0)) (st := []) C E dX1_setEnds_22
abbrev rm_X1_endOf : Room := { frames := 1, cells := 0, slots := 0, locals := 21 }
set_option maxRecDepth 10000 in
theorem r_X1_endOf (l : Launch) (D : fh_D) (A : Nat → Prop) {K : fh_K} {sz : Nat} {M : fh_M} {r : Int32} {t : Nat} {p1 : Int32} {p2 : Int32} (h : f_X1_endOf K M t p1 p2 = some r) : fh_Met l yX1_endOf cX1_endOf 3 (some .int) rm_X1_endOf D K M sz A [va_rf (some t), .int p1, .int p2] (some (.int r)) K M sz := by
  refine fh_enter (by decide) (by simp [lg_sl, va_rf_cat, cat_i, cat_l]) (lv := [(0, va_rf (some t)), (1, .int p1), (2, .int p2)]) (by simp [lv_args, va_rf_cat, cat_i, cat_l]) ?_
  intro X C E hnm _ _ _
  replace C : fh_C X 3 cX1_endOf RX1 := C
  unfold f_X1_endOf at h
  refine fv_aload_n C 0 rfl rfl dX1_endOf_0 ?_
  refine fv_iload_n C 1 rfl rfl dX1_endOf_1 ?_
  replace h := fo_s h
  obtain ⟨a1, ea1, ka1, h⟩ := h
  replace h := bx h
  obtain ⟨r2, er2, h⟩ := h
  refine fv_callV [.int p1] C mi_X1_knows ms_X1_knows lk_RX1_24 ea1 ka1 (r_X1_knows _ _ _ er2) ⟨Nat.le_of_ble_eq_true rfl, Nat.le_of_ble_eq_true rfl⟩ ⟨Nat.le_of_ble_eq_true rfl, Nat.le_of_ble_eq_true rfl⟩ rfl rfl (by simp [va_rf_cat, cat_i, cat_l]) dX1_endOf_2 ?_
  show fh_V X rm_X1_endOf 3 (sz, 0, 0) K M _ _ [.int r2]
  refine fv_if_ne C 10 (by decide) dX1_endOf_5 (fun c6 => ?_) (fun c6 => ?_)
  · replace h := itF c6 h
    refine fv_iload_n C 2 rfl rfl dX1_endOf_10 ?_
    refine fv_if_eq C 23 (by decide) dX1_endOf_11 (fun c5 => ?_) (fun c5 => ?_)
    · replace h := itT c5 h
      refine fv_aload_n C 0 rfl rfl dX1_endOf_23 ?_
      refine fv_getR C fl_RX1_15 ea1 ka1 dX1_endOf_24 ?_
      refine fv_iload_n C 1 rfl rfl dX1_endOf_27 ?_
      replace h := fi_s h
      obtain ⟨a3, ea3, ka3, ia3, h⟩ := h
      refine fv_iald C ea3 ka3 ia3 dX1_endOf_28 ?_
      cases h
      exact fv_iret (z := (0, 0, 0)) (st := []) C E dX1_endOf_29
    · replace h := itF c5 h
      refine fv_aload_n C 0 rfl rfl dX1_endOf_14 ?_
      refine fv_getR C fl_RX1_9 ea1 ka1 dX1_endOf_15 ?_
      refine fv_iload_n C 1 rfl rfl dX1_endOf_18 ?_
      replace h := fi_s h
      obtain ⟨a4, ea4, ka4, ia4, h⟩ := h
      refine fv_iald C ea4 ka4 ia4 dX1_endOf_19 ?_
      refine fv_goto C 29 (by decide) dX1_endOf_20 ?_
      cases h
      exact fv_iret (z := (0, 0, 0)) (st := []) C E dX1_endOf_29
  · replace h := itT c6 h
    refine fv_iconst (v := -1) C (by decide) dX1_endOf_8 ?_
    cases h
    exact fv_iret (z := (0, 0, 0)) (st := []) C E dX1_endOf_9
abbrev rm_X1_liveSurely : Room := { frames := 2, cells := 0, slots := 0, locals := 43 }
set_option maxRecDepth 10000 in
theorem r_X1_liveSurely (l : Launch) (D : fh_D) (A : Nat → Prop) {K : fh_K} {sz : Nat} {M : fh_M} {r : Int32} {t : Nat} {p1 : Int32} {p2 : Int32} (h : f_X1_liveSurely K M t p1 p2 = some r) : fh_Met l yX1_liveSurely cX1_liveSurely 3 (some .boolean) rm_X1_liveSurely D K M sz A [va_rf (some t), .int p1, .int p2] (some (.int r)) K M sz := by
  refine fh_enter (by decide) (by simp [lg_sl, va_rf_cat, cat_i, cat_l]) (lv := [(0, va_rf (some t)), (1, .int p1), (2, .int p2)]) (by simp [lv_args, va_rf_cat, cat_i, cat_l]) ?_
  intro X C E hnm _ _ _
  replace C : fh_C X 3 cX1_liveSurely RX1 := C
  unfold f_X1_liveSurely at h
  refine fv_iload_n C 2 rfl rfl dX1_liveSurely_0 ?_
  refine fv_aload_n C 0 rfl rfl dX1_liveSurely_1 ?_
  refine fv_iload_n C 1 rfl rfl dX1_liveSurely_2 ?_
  refine fv_iconst (v := 1) C (by decide) dX1_liveSurely_3 ?_
  replace h := fo_s h
  obtain ⟨a1, ea1, ka1, h⟩ := h
  replace h := bx h
  obtain ⟨r2, er2, h⟩ := h
  refine fv_callV [.int p1, .int 1] C mi_X1_endOf ms_X1_endOf lk_RX1_28 ea1 ka1 (r_X1_endOf _ _ _ er2) ⟨Nat.le_of_ble_eq_true rfl, Nat.le_of_ble_eq_true rfl⟩ ⟨Nat.le_of_ble_eq_true rfl, Nat.le_of_ble_eq_true rfl⟩ rfl rfl (by simp [va_rf_cat, cat_i, cat_l]) dX1_liveSurely_4 ?_
  show fh_V X rm_X1_liveSurely 3 (sz, 0, 0) K M _ _ [.int r2, .int p2]
  refine fv_icmp_gt C 14 (by decide) dX1_liveSurely_7 (fun c3 => ?_) (fun c3 => ?_)
  · replace h := itT c3 h
    refine fv_iconst (v := 0) C (by decide) dX1_liveSurely_14 ?_
    cases h
    exact fv_zret (z := (0, 0, 0)) (st := []) C E (Or.inl rfl) dX1_liveSurely_15
  · replace h := itF c3 h
    refine fv_iconst (v := 1) C (by decide) dX1_liveSurely_10 ?_
    refine fv_goto C 15 (by decide) dX1_liveSurely_11 ?_
    cases h
    exact fv_zret (z := (0, 0, 0)) (st := []) C E (Or.inr rfl) dX1_liveSurely_15
end
