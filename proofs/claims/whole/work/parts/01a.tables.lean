-- ===== PART A: goes FIRST, ahead of the names: the tables' words, and 'selects' of the private methods out of them =====
/-- a private method of a class that the tables say can be made, by its rows of tables_1 -/
def lw_okq (q : MethodName × Nat) : Prop := (q.1.cls ≠ "java/lang/invoke/MethodHandle" ∧ q.1.cls ≠ "java/lang/invoke/VarHandle") ∧ Cond.instantiable q.1.cls q.2 ∈ tables_1 ∧ Cond.privateMethod q.1 ∈ tables_1 ∧ Cond.instanceMethod q.1 ∈ tables_1
theorem lw_p0 : lw_okq (⟨"FileHouse", "judge", "(LFileHouse$StoredFile;I)V"⟩, 15) := ⟨⟨by decide +kernel, by decide +kernel⟩, List.mem_of_getElem? (i := 17) (by decide +kernel), List.mem_of_getElem? (i := 285) (by decide +kernel), List.mem_of_getElem? (i := 286) (by decide +kernel)⟩
theorem lw_p1 : lw_okq (⟨"FileHouse", "makeAt", "(I)LFileHouse$Make;"⟩, 15) := ⟨⟨by decide +kernel, by decide +kernel⟩, List.mem_of_getElem? (i := 17) (by decide +kernel), List.mem_of_getElem? (i := 289) (by decide +kernel), List.mem_of_getElem? (i := 290) (by decide +kernel)⟩
theorem lw_p2 : lw_okq (⟨"FileHouse$Reading", "readRecords", "(III)V"⟩, 7) := ⟨⟨by decide +kernel, by decide +kernel⟩, List.mem_of_getElem? (i := 132) (by decide +kernel), List.mem_of_getElem? (i := 308) (by decide +kernel), List.mem_of_getElem? (i := 309) (by decide +kernel)⟩
theorem lw_p3 : lw_okq (⟨"FileHouse$Reading", "addRecord", "(III)V"⟩, 7) := ⟨⟨by decide +kernel, by decide +kernel⟩, List.mem_of_getElem? (i := 132) (by decide +kernel), List.mem_of_getElem? (i := 315) (by decide +kernel), List.mem_of_getElem? (i := 316) (by decide +kernel)⟩
theorem lw_p4 : lw_okq (⟨"FileHouse", "store", "([III)I"⟩, 15) := ⟨⟨by decide +kernel, by decide +kernel⟩, List.mem_of_getElem? (i := 17) (by decide +kernel), List.mem_of_getElem? (i := 323) (by decide +kernel), List.mem_of_getElem? (i := 324) (by decide +kernel)⟩
theorem lw_p5 : lw_okq (⟨"FileHouse", "fileAt", "(I)LFileHouse$StoredFile;"⟩, 15) := ⟨⟨by decide +kernel, by decide +kernel⟩, List.mem_of_getElem? (i := 17) (by decide +kernel), List.mem_of_getElem? (i := 376) (by decide +kernel), List.mem_of_getElem? (i := 377) (by decide +kernel)⟩
theorem lw_p6 : lw_okq (⟨"FileHouse$Readers", "isTold", "(II)Z"⟩, 3) := ⟨⟨by decide +kernel, by decide +kernel⟩, List.mem_of_getElem? (i := 64) (by decide +kernel), List.mem_of_getElem? (i := 404) (by decide +kernel), List.mem_of_getElem? (i := 405) (by decide +kernel)⟩
theorem lw_p7 : lw_okq (⟨"FileHouse", "isYearToCome", "(I)Z"⟩, 15) := ⟨⟨by decide +kernel, by decide +kernel⟩, List.mem_of_getElem? (i := 17) (by decide +kernel), List.mem_of_getElem? (i := 452) (by decide +kernel), List.mem_of_getElem? (i := 453) (by decide +kernel)⟩
theorem lw_p8 : lw_okq (⟨"FileHouse", "readByOwnMake", "(LFileHouse$StoredFile;LFileHouse$Reading;)V"⟩, 15) := ⟨⟨by decide +kernel, by decide +kernel⟩, List.mem_of_getElem? (i := 17) (by decide +kernel), List.mem_of_getElem? (i := 468) (by decide +kernel), List.mem_of_getElem? (i := 469) (by decide +kernel)⟩
theorem lw_p9 : lw_okq (⟨"FileHouse", "draftTurned", "(LFileHouse$StoredFile;LFileHouse$Turner;)Z"⟩, 15) := ⟨⟨by decide +kernel, by decide +kernel⟩, List.mem_of_getElem? (i := 17) (by decide +kernel), List.mem_of_getElem? (i := 489) (by decide +kernel), List.mem_of_getElem? (i := 490) (by decide +kernel)⟩
theorem lw_p10 : lw_okq (⟨"FileHouse$Reading", "nextWith", "(II)I"⟩, 7) := ⟨⟨by decide +kernel, by decide +kernel⟩, List.mem_of_getElem? (i := 132) (by decide +kernel), List.mem_of_getElem? (i := 510) (by decide +kernel), List.mem_of_getElem? (i := 511) (by decide +kernel)⟩
theorem lw_p11 : lw_okq (⟨"FileHouse$Reading", "sameRecord", "(ILFileHouse$Reading;I)Z"⟩, 7) := ⟨⟨by decide +kernel, by decide +kernel⟩, List.mem_of_getElem? (i := 132) (by decide +kernel), List.mem_of_getElem? (i := 514) (by decide +kernel), List.mem_of_getElem? (i := 515) (by decide +kernel)⟩
theorem lw_p12 : lw_okq (⟨"FileHouse$Roads", "goOneStep", "(ILFileHouse$Turners;LFileHouse$Machines;I)V"⟩, 3) := ⟨⟨by decide +kernel, by decide +kernel⟩, List.mem_of_getElem? (i := 102) (by decide +kernel), List.mem_of_getElem? (i := 530) (by decide +kernel), List.mem_of_getElem? (i := 531) (by decide +kernel)⟩
theorem lw_p13 : lw_okq (⟨"FileHouse$Spans", "goOneStepBack", "(LFileHouse$Turners;LFileHouse$Machines;Z)V"⟩, 2) := ⟨⟨by decide +kernel, by decide +kernel⟩, List.mem_of_getElem? (i := 119) (by decide +kernel), List.mem_of_getElem? (i := 578) (by decide +kernel), List.mem_of_getElem? (i := 579) (by decide +kernel)⟩
theorem lw_p14 : lw_okq (⟨"FileHouse", "cheapestGoal", "(LFileHouse$StoredFile;I)I"⟩, 15) := ⟨⟨by decide +kernel, by decide +kernel⟩, List.mem_of_getElem? (i := 17) (by decide +kernel), List.mem_of_getElem? (i := 601) (by decide +kernel), List.mem_of_getElem? (i := 602) (by decide +kernel)⟩
theorem lw_p15 : lw_okq (⟨"FileHouse", "filesWithoutMake", "()I"⟩, 15) := ⟨⟨by decide +kernel, by decide +kernel⟩, List.mem_of_getElem? (i := 17) (by decide +kernel), List.mem_of_getElem? (i := 620) (by decide +kernel), List.mem_of_getElem? (i := 621) (by decide +kernel)⟩
def lw_privs_1 : List (MethodName × Nat) := [(⟨"FileHouse", "judge", "(LFileHouse$StoredFile;I)V"⟩, 15), (⟨"FileHouse", "makeAt", "(I)LFileHouse$Make;"⟩, 15), (⟨"FileHouse$Reading", "readRecords", "(III)V"⟩, 7), (⟨"FileHouse$Reading", "addRecord", "(III)V"⟩, 7), (⟨"FileHouse", "store", "([III)I"⟩, 15), (⟨"FileHouse", "fileAt", "(I)LFileHouse$StoredFile;"⟩, 15), (⟨"FileHouse$Readers", "isTold", "(II)Z"⟩, 3), (⟨"FileHouse", "isYearToCome", "(I)Z"⟩, 15), (⟨"FileHouse", "readByOwnMake", "(LFileHouse$StoredFile;LFileHouse$Reading;)V"⟩, 15), (⟨"FileHouse", "draftTurned", "(LFileHouse$StoredFile;LFileHouse$Turner;)Z"⟩, 15), (⟨"FileHouse$Reading", "nextWith", "(II)I"⟩, 7), (⟨"FileHouse$Reading", "sameRecord", "(ILFileHouse$Reading;I)Z"⟩, 7), (⟨"FileHouse$Roads", "goOneStep", "(ILFileHouse$Turners;LFileHouse$Machines;I)V"⟩, 3), (⟨"FileHouse$Spans", "goOneStepBack", "(LFileHouse$Turners;LFileHouse$Machines;Z)V"⟩, 2), (⟨"FileHouse", "cheapestGoal", "(LFileHouse$StoredFile;I)I"⟩, 15), (⟨"FileHouse", "filesWithoutMake", "()I"⟩, 15)]
theorem lw_r1 : ∀ q ∈ lw_privs_1, lw_okq q := List.forall_mem_cons.mpr ⟨lw_p0, List.forall_mem_cons.mpr ⟨lw_p1, List.forall_mem_cons.mpr ⟨lw_p2, List.forall_mem_cons.mpr ⟨lw_p3, List.forall_mem_cons.mpr ⟨lw_p4, List.forall_mem_cons.mpr ⟨lw_p5, List.forall_mem_cons.mpr ⟨lw_p6, List.forall_mem_cons.mpr ⟨lw_p7, List.forall_mem_cons.mpr ⟨lw_p8, List.forall_mem_cons.mpr ⟨lw_p9, List.forall_mem_cons.mpr ⟨lw_p10, List.forall_mem_cons.mpr ⟨lw_p11, List.forall_mem_cons.mpr ⟨lw_p12, List.forall_mem_cons.mpr ⟨lw_p13, List.forall_mem_cons.mpr ⟨lw_p14, List.forall_mem_cons.mpr ⟨lw_p15, fun _ h => absurd h List.not_mem_nil⟩⟩⟩⟩⟩⟩⟩⟩⟩⟩⟩⟩⟩⟩⟩⟩
theorem lw_p16 : lw_okq (⟨"FileHouse", "filesBeyondReading", "()I"⟩, 15) := ⟨⟨by decide +kernel, by decide +kernel⟩, List.mem_of_getElem? (i := 17) (by decide +kernel), List.mem_of_getElem? (i := 625) (by decide +kernel), List.mem_of_getElem? (i := 626) (by decide +kernel)⟩
theorem lw_p17 : lw_okq (⟨"FileHouseModel", "push", "(I)V"⟩, 43) := ⟨⟨by decide +kernel, by decide +kernel⟩, List.mem_of_getElem? (i := 629) (by decide +kernel), List.mem_of_getElem? (i := 771) (by decide +kernel), List.mem_of_getElem? (i := 772) (by decide +kernel)⟩
theorem lw_p18 : lw_okq (⟨"FileHouseModel", "isFile", "(I)Z"⟩, 43) := ⟨⟨by decide +kernel, by decide +kernel⟩, List.mem_of_getElem? (i := 629) (by decide +kernel), List.mem_of_getElem? (i := 790) (by decide +kernel), List.mem_of_getElem? (i := 791) (by decide +kernel)⟩
theorem lw_p19 : lw_okq (⟨"FileHouseModel", "isMake", "(I)Z"⟩, 43) := ⟨⟨by decide +kernel, by decide +kernel⟩, List.mem_of_getElem? (i := 629) (by decide +kernel), List.mem_of_getElem? (i := 805) (by decide +kernel), List.mem_of_getElem? (i := 806) (by decide +kernel)⟩
theorem lw_p20 : lw_okq (⟨"FileHouseModel", "reads", "(II)Z"⟩, 43) := ⟨⟨by decide +kernel, by decide +kernel⟩, List.mem_of_getElem? (i := 629) (by decide +kernel), List.mem_of_getElem? (i := 821) (by decide +kernel), List.mem_of_getElem? (i := 822) (by decide +kernel)⟩
theorem lw_p21 : lw_okq (⟨"FileHouseModel", "byteAt", "(II)I"⟩, 43) := ⟨⟨by decide +kernel, by decide +kernel⟩, List.mem_of_getElem? (i := 629) (by decide +kernel), List.mem_of_getElem? (i := 825) (by decide +kernel), List.mem_of_getElem? (i := 826) (by decide +kernel)⟩
theorem lw_p22 : lw_okq (⟨"FileHouseModel", "knows", "(I)I"⟩, 43) := ⟨⟨by decide +kernel, by decide +kernel⟩, List.mem_of_getElem? (i := 629) (by decide +kernel), List.mem_of_getElem? (i := 836) (by decide +kernel), List.mem_of_getElem? (i := 837) (by decide +kernel)⟩
theorem lw_p23 : lw_okq (⟨"FileHouseModel", "goes", "(II)Z"⟩, 43) := ⟨⟨by decide +kernel, by decide +kernel⟩, List.mem_of_getElem? (i := 629) (by decide +kernel), List.mem_of_getElem? (i := 848) (by decide +kernel), List.mem_of_getElem? (i := 849) (by decide +kernel)⟩
theorem lw_p24 : lw_okq (⟨"FileHouseModel", "isKept", "(III)Z"⟩, 43) := ⟨⟨by decide +kernel, by decide +kernel⟩, List.mem_of_getElem? (i := 629) (by decide +kernel), List.mem_of_getElem? (i := 856) (by decide +kernel), List.mem_of_getElem? (i := 857) (by decide +kernel)⟩
theorem lw_p25 : lw_okq (⟨"FileHouseModel", "areAlike", "(IIII)Z"⟩, 43) := ⟨⟨by decide +kernel, by decide +kernel⟩, List.mem_of_getElem? (i := 629) (by decide +kernel), List.mem_of_getElem? (i := 860) (by decide +kernel), List.mem_of_getElem? (i := 861) (by decide +kernel)⟩
theorem lw_p26 : lw_okq (⟨"FileHouseModel", "bestRoad", "(II)I"⟩, 43) := ⟨⟨by decide +kernel, by decide +kernel⟩, List.mem_of_getElem? (i := 629) (by decide +kernel), List.mem_of_getElem? (i := 868) (by decide +kernel), List.mem_of_getElem? (i := 869) (by decide +kernel)⟩
theorem lw_p27 : lw_okq (⟨"FileHouseModel", "properties", "(I)I"⟩, 43) := ⟨⟨by decide +kernel, by decide +kernel⟩, List.mem_of_getElem? (i := 629) (by decide +kernel), List.mem_of_getElem? (i := 872) (by decide +kernel), List.mem_of_getElem? (i := 873) (by decide +kernel)⟩
theorem lw_p28 : lw_okq (⟨"FileHouseModel", "measures", "(II)V"⟩, 43) := ⟨⟨by decide +kernel, by decide +kernel⟩, List.mem_of_getElem? (i := 629) (by decide +kernel), List.mem_of_getElem? (i := 876) (by decide +kernel), List.mem_of_getElem? (i := 877) (by decide +kernel)⟩
theorem lw_p29 : lw_okq (⟨"FileHouseModel", "mayTurn", "(II)Z"⟩, 43) := ⟨⟨by decide +kernel, by decide +kernel⟩, List.mem_of_getElem? (i := 629) (by decide +kernel), List.mem_of_getElem? (i := 881) (by decide +kernel), List.mem_of_getElem? (i := 882) (by decide +kernel)⟩
theorem lw_p30 : lw_okq (⟨"FileHouseModel", "lastOf", "(IZ)I"⟩, 43) := ⟨⟨by decide +kernel, by decide +kernel⟩, List.mem_of_getElem? (i := 629) (by decide +kernel), List.mem_of_getElem? (i := 893) (by decide +kernel), List.mem_of_getElem? (i := 894) (by decide +kernel)⟩
theorem lw_p31 : lw_okq (⟨"FileHouseModel", "lives", "(IZ)I"⟩, 43) := ⟨⟨by decide +kernel, by decide +kernel⟩, List.mem_of_getElem? (i := 629) (by decide +kernel), List.mem_of_getElem? (i := 897) (by decide +kernel), List.mem_of_getElem? (i := 898) (by decide +kernel)⟩
def lw_privs_2 : List (MethodName × Nat) := [(⟨"FileHouse", "filesBeyondReading", "()I"⟩, 15), (⟨"FileHouseModel", "push", "(I)V"⟩, 43), (⟨"FileHouseModel", "isFile", "(I)Z"⟩, 43), (⟨"FileHouseModel", "isMake", "(I)Z"⟩, 43), (⟨"FileHouseModel", "reads", "(II)Z"⟩, 43), (⟨"FileHouseModel", "byteAt", "(II)I"⟩, 43), (⟨"FileHouseModel", "knows", "(I)I"⟩, 43), (⟨"FileHouseModel", "goes", "(II)Z"⟩, 43), (⟨"FileHouseModel", "isKept", "(III)Z"⟩, 43), (⟨"FileHouseModel", "areAlike", "(IIII)Z"⟩, 43), (⟨"FileHouseModel", "bestRoad", "(II)I"⟩, 43), (⟨"FileHouseModel", "properties", "(I)I"⟩, 43), (⟨"FileHouseModel", "measures", "(II)V"⟩, 43), (⟨"FileHouseModel", "mayTurn", "(II)Z"⟩, 43), (⟨"FileHouseModel", "lastOf", "(IZ)I"⟩, 43), (⟨"FileHouseModel", "lives", "(IZ)I"⟩, 43)]
theorem lw_r2 : ∀ q ∈ lw_privs_2, lw_okq q := List.forall_mem_cons.mpr ⟨lw_p16, List.forall_mem_cons.mpr ⟨lw_p17, List.forall_mem_cons.mpr ⟨lw_p18, List.forall_mem_cons.mpr ⟨lw_p19, List.forall_mem_cons.mpr ⟨lw_p20, List.forall_mem_cons.mpr ⟨lw_p21, List.forall_mem_cons.mpr ⟨lw_p22, List.forall_mem_cons.mpr ⟨lw_p23, List.forall_mem_cons.mpr ⟨lw_p24, List.forall_mem_cons.mpr ⟨lw_p25, List.forall_mem_cons.mpr ⟨lw_p26, List.forall_mem_cons.mpr ⟨lw_p27, List.forall_mem_cons.mpr ⟨lw_p28, List.forall_mem_cons.mpr ⟨lw_p29, List.forall_mem_cons.mpr ⟨lw_p30, List.forall_mem_cons.mpr ⟨lw_p31, fun _ h => absurd h List.not_mem_nil⟩⟩⟩⟩⟩⟩⟩⟩⟩⟩⟩⟩⟩⟩⟩⟩
theorem lw_p32 : lw_okq (⟨"FileHouseModel", "isPlanned", "(I)Z"⟩, 43) := ⟨⟨by decide +kernel, by decide +kernel⟩, List.mem_of_getElem? (i := 629) (by decide +kernel), List.mem_of_getElem? (i := 905) (by decide +kernel), List.mem_of_getElem? (i := 906) (by decide +kernel)⟩
theorem lw_p33 : lw_okq (⟨"FileHouseModel", "goalOf", "(II)I"⟩, 43) := ⟨⟨by decide +kernel, by decide +kernel⟩, List.mem_of_getElem? (i := 629) (by decide +kernel), List.mem_of_getElem? (i := 909) (by decide +kernel), List.mem_of_getElem? (i := 910) (by decide +kernel)⟩
theorem lw_p34 : lw_okq (⟨"FileHouseModel", "isRead", "(II)Z"⟩, 43) := ⟨⟨by decide +kernel, by decide +kernel⟩, List.mem_of_getElem? (i := 629) (by decide +kernel), List.mem_of_getElem? (i := 913) (by decide +kernel), List.mem_of_getElem? (i := 914) (by decide +kernel)⟩
theorem lw_p35 : lw_okq (⟨"FileHouseModel", "isBetter", "(I)Z"⟩, 43) := ⟨⟨by decide +kernel, by decide +kernel⟩, List.mem_of_getElem? (i := 629) (by decide +kernel), List.mem_of_getElem? (i := 917) (by decide +kernel), List.mem_of_getElem? (i := 918) (by decide +kernel)⟩
def lw_privs_3 : List (MethodName × Nat) := [(⟨"FileHouseModel", "isPlanned", "(I)Z"⟩, 43), (⟨"FileHouseModel", "goalOf", "(II)I"⟩, 43), (⟨"FileHouseModel", "isRead", "(II)Z"⟩, 43), (⟨"FileHouseModel", "isBetter", "(I)Z"⟩, 43)]
theorem lw_r3 : ∀ q ∈ lw_privs_3, lw_okq q := List.forall_mem_cons.mpr ⟨lw_p32, List.forall_mem_cons.mpr ⟨lw_p33, List.forall_mem_cons.mpr ⟨lw_p34, List.forall_mem_cons.mpr ⟨lw_p35, fun _ h => absurd h List.not_mem_nil⟩⟩⟩⟩
def lw_privs : List (MethodName × Nat) := lw_privs_1 ++ (lw_privs_2 ++ (lw_privs_3))
def lw_tbl : List Cond := k2_sels lw_privs ++ tables_1
theorem lw_privs_ok : ∀ q ∈ lw_privs, lw_okq q := by
  show ∀ q ∈ lw_privs_1 ++ (lw_privs_2 ++ (lw_privs_3)), lw_okq q
  exact List.forall_mem_append.mpr ⟨lw_r1, List.forall_mem_append.mpr ⟨lw_r2, lw_r3⟩⟩
-- names
def RX0 : String := "FileHouse$ByteRow"
def TX0 : u_T := fun k => match k with
  | 0 => ("FileHouse$ByteRow", "bytes", "[I", true)
  | _ => ("FileHouse$ByteRow", "size", "I", false)
def tyX0 : Nat → FieldType := fun k => match k with
  | 0 => .array .int
  | _ => .int
theorem nmX0 : ∀ a, a < 2 → ∀ b, b < 2 → a ≠ b → (TX0 a).2.1 ≠ (TX0 b).2.1 := by decide +kernel
theorem tyX0_ok : ∀ k, k < 2 → parseFieldDescriptor (TX0 k).2.2.1 = some (tyX0 k) := by decide +kernel
abbrev cX0_init : ByteArray := prog_2_method_1_code
def yX0_init : MethodName := ⟨RX0, "<init>", "(I)V"⟩
abbrev cX0_clear : ByteArray := prog_2_method_2_code
def yX0_clear : MethodName := ⟨RX0, "clear", "()V"⟩
abbrev cX0_room : ByteArray := prog_2_method_3_code
def yX0_room : MethodName := ⟨RX0, "room", "()I"⟩
abbrev cX0_addByte : ByteArray := prog_2_method_4_code
def yX0_addByte : MethodName := ⟨RX0, "addByte", "(I)Z"⟩
abbrev cX0_addWord : ByteArray := prog_2_method_5_code
def yX0_addWord : MethodName := ⟨RX0, "addWord", "(I)V"⟩
abbrev cX0_addPart : ByteArray := prog_2_method_6_code
def yX0_addPart : MethodName := ⟨RX0, "addPart", "([III)Z"⟩
abbrev cX0_firstBytes : ByteArray := prog_2_method_7_code
def yX0_firstBytes : MethodName := ⟨RX0, "firstBytes", "(I)[I"⟩
def RX1 : String := "FileHouse$Machines"
def TX1 : u_T := fun k => match k with
  | 0 => ("FileHouse$Machines", "sureEnds", "[I", true)
  | _ => ("FileHouse$Machines", "doubtfulEnds", "[I", true)
def tyX1 : Nat → FieldType := fun k => match k with
  | 0 => .array .int
  | _ => .array .int
theorem nmX1 : ∀ a, a < 2 → ∀ b, b < 2 → a ≠ b → (TX1 a).2.1 ≠ (TX1 b).2.1 := by decide +kernel
theorem tyX1_ok : ∀ k, k < 2 → parseFieldDescriptor (TX1 k).2.2.1 = some (tyX1 k) := by decide +kernel
abbrev cX1_init : ByteArray := prog_3_method_1_code
def yX1_init : MethodName := ⟨RX1, "<init>", "()V"⟩
abbrev cX1_knows : ByteArray := prog_3_method_2_code
def yX1_knows : MethodName := ⟨RX1, "knows", "(I)Z"⟩
abbrev cX1_setEnds : ByteArray := prog_3_method_3_code
def yX1_setEnds : MethodName := ⟨RX1, "setEnds", "(III)V"⟩
abbrev cX1_endOf : ByteArray := prog_3_method_4_code
def yX1_endOf : MethodName := ⟨RX1, "endOf", "(IZ)I"⟩
abbrev cX1_liveSurely : ByteArray := prog_3_method_5_code
def yX1_liveSurely : MethodName := ⟨RX1, "liveSurely", "(II)Z"⟩
def RX2 : String := "FileHouse$Make"
def TX2 : u_T := fun k => match k with
  | 0 => ("FileHouse$Make", "mark", "[I", true)
  | 1 => ("FileHouse$Make", "properties", "I", true)
  | 2 => ("FileHouse$Make", "hasSum", "Z", true)
  | _ => ("FileHouse$Make", "bearable", "I", true)
def tyX2 : Nat → FieldType := fun k => match k with
  | 0 => .array .int
  | 1 => .int
  | 2 => .boolean
  | _ => .int
theorem nmX2 : ∀ a, a < 4 → ∀ b, b < 4 → a ≠ b → (TX2 a).2.1 ≠ (TX2 b).2.1 := by decide +kernel
theorem tyX2_ok : ∀ k, k < 4 → parseFieldDescriptor (TX2 k).2.2.1 = some (tyX2 k) := by decide +kernel
abbrev cX2_init : ByteArray := prog_4_method_1_code
def yX2_init : MethodName := ⟨RX2, "<init>", "([IIZI)V"⟩
abbrev cX2_marks : ByteArray := prog_4_method_2_code
def yX2_marks : MethodName := ⟨RX2, "marks", "([I)Z"⟩
def RX3 : String := "FileHouse$Readers"
def TX3 : u_T := fun k => match k with
  | 0 => ("FileHouse$Readers", "opened", "[I", true)
  | 1 => ("FileHouse$Readers", "hosts", "[I", true)
  | _ => ("FileHouse$Readers", "size", "I", false)
def tyX3 : Nat → FieldType := fun k => match k with
  | 0 => .array .int
  | 1 => .array .int
  | _ => .int
theorem nmX3 : ∀ a, a < 3 → ∀ b, b < 3 → a ≠ b → (TX3 a).2.1 ≠ (TX3 b).2.1 := by decide +kernel
theorem tyX3_ok : ∀ k, k < 3 → parseFieldDescriptor (TX3 k).2.2.1 = some (tyX3 k) := by decide +kernel
abbrev cX3_init : ByteArray := prog_5_method_1_code
def yX3_init : MethodName := ⟨RX3, "<init>", "()V"⟩
abbrev cX3_add : ByteArray := prog_5_method_2_code
def yX3_add : MethodName := ⟨RX3, "add", "(II)Z"⟩
abbrev cX3_isTold : ByteArray := prog_5_method_3_code
def yX3_isTold : MethodName := ⟨RX3, "isTold", "(II)Z"⟩
abbrev cX3_makesOpenIn : ByteArray := prog_5_method_4_code
def yX3_makesOpenIn : MethodName := ⟨RX3, "makesOpenIn", "(LFileHouse$Machines;I)I"⟩
def RX4 : String := "FileHouse$Reading"
def TX4 : u_T := fun k => match k with
  | 0 => ("FileHouse$Reading", "tags", "[I", true)
  | 1 => ("FileHouse$Reading", "lengths", "[I", true)
  | 2 => ("FileHouse$Reading", "places", "[I", true)
  | 3 => ("FileHouse$Reading", "source", "[I", false)
  | 4 => ("FileHouse$Reading", "size", "I", false)
  | 5 => ("FileHouse$Reading", "has", "I", false)
  | _ => ("FileHouse$Reading", "bendCount", "I", false)
def tyX4 : Nat → FieldType := fun k => match k with
  | 0 => .array .int
  | 1 => .array .int
  | 2 => .array .int
  | 3 => .array .int
  | 4 => .int
  | 5 => .int
  | _ => .int
theorem nmX4 : ∀ a, a < 7 → ∀ b, b < 7 → a ≠ b → (TX4 a).2.1 ≠ (TX4 b).2.1 := by decide +kernel
theorem tyX4_ok : ∀ k, k < 7 → parseFieldDescriptor (TX4 k).2.2.1 = some (tyX4 k) := by decide +kernel
abbrev cX4_init : ByteArray := prog_6_method_1_code
def yX4_init : MethodName := ⟨RX4, "<init>", "()V"⟩
abbrev cX4_clear : ByteArray := prog_6_method_2_code
def yX4_clear : MethodName := ⟨RX4, "clear", "()V"⟩
abbrev cX4_readBy : ByteArray := prog_6_method_3_code
def yX4_readBy : MethodName := ⟨RX4, "readBy", "(LFileHouse$Make;[I)V"⟩
abbrev cX4_readRecords : ByteArray := prog_6_method_4_code
def yX4_readRecords : MethodName := ⟨RX4, "readRecords", "(III)V"⟩
abbrev cX4_addRecord : ByteArray := prog_6_method_5_code
def yX4_addRecord : MethodName := ⟨RX4, "addRecord", "(III)V"⟩
abbrev cX4_agrees : ByteArray := prog_6_method_6_code
def yX4_agrees : MethodName := ⟨RX4, "agrees", "(LFileHouse$Reading;I)Z"⟩
abbrev cX4_nextWith : ByteArray := prog_6_method_7_code
def yX4_nextWith : MethodName := ⟨RX4, "nextWith", "(II)I"⟩
abbrev cX4_sameRecord : ByteArray := prog_6_method_8_code
def yX4_sameRecord : MethodName := ⟨RX4, "sameRecord", "(ILFileHouse$Reading;I)Z"⟩
def RX5 : String := "FileHouse$Roads"
def TX5 : u_T := fun k => match k with
  | 0 => ("FileHouse$Roads", "best", "[J", true)
  | 1 => ("FileHouse$Roads", "reached", "[J", true)
  | _ => ("FileHouse$Roads", "longer", "[J", true)
def tyX5 : Nat → FieldType := fun k => match k with
  | 0 => .array .long
  | 1 => .array .long
  | _ => .array .long
theorem nmX5 : ∀ a, a < 3 → ∀ b, b < 3 → a ≠ b → (TX5 a).2.1 ≠ (TX5 b).2.1 := by decide +kernel
theorem tyX5_ok : ∀ k, k < 3 → parseFieldDescriptor (TX5 k).2.2.1 = some (tyX5 k) := by decide +kernel
abbrev cX5_init : ByteArray := prog_7_method_1_code
def yX5_init : MethodName := ⟨RX5, "<init>", "()V"⟩
abbrev cX5_priceOf : ByteArray := prog_7_method_2_code
def yX5_priceOf : MethodName := ⟨RX5, "priceOf", "(J)I"⟩
abbrev cX5_lengthOf : ByteArray := prog_7_method_3_code
def yX5_lengthOf : MethodName := ⟨RX5, "lengthOf", "(J)I"⟩
abbrev cX5_stepOf : ByteArray := prog_7_method_4_code
def yX5_stepOf : MethodName := ⟨RX5, "stepOf", "(JI)I"⟩
abbrev cX5_extended : ByteArray := prog_7_method_5_code
def yX5_extended : MethodName := ⟨RX5, "extended", "(JII)J"⟩
abbrev cX5_bestTo : ByteArray := prog_7_method_6_code
def yX5_bestTo : MethodName := ⟨RX5, "bestTo", "(I)J"⟩
abbrev cX5_search : ByteArray := prog_7_method_7_code
def yX5_search : MethodName := ⟨RX5, "search", "(LFileHouse$StoredFile;LFileHouse$Turners;LFileHouse$Machines;I)V"⟩
abbrev cX5_goOneStep : ByteArray := prog_7_method_8_code
def yX5_goOneStep : MethodName := ⟨RX5, "goOneStep", "(ILFileHouse$Turners;LFileHouse$Machines;I)V"⟩
def RX6 : String := "FileHouse$Spans"
def TX6 : u_T := fun k => match k with
  | 0 => ("FileHouse$Spans", "ends", "[I", true)
  | _ => ("FileHouse$Spans", "longer", "[I", true)
def tyX6 : Nat → FieldType := fun k => match k with
  | 0 => .array .int
  | _ => .array .int
theorem nmX6 : ∀ a, a < 2 → ∀ b, b < 2 → a ≠ b → (TX6 a).2.1 ≠ (TX6 b).2.1 := by decide +kernel
theorem tyX6_ok : ∀ k, k < 2 → parseFieldDescriptor (TX6 k).2.2.1 = some (tyX6 k) := by decide +kernel
abbrev cX6_init : ByteArray := prog_8_method_1_code
def yX6_init : MethodName := ⟨RX6, "<init>", "()V"⟩
abbrev cX6_measure : ByteArray := prog_8_method_2_code
def yX6_measure : MethodName := ⟨RX6, "measure", "(LFileHouse$Readers;LFileHouse$Turners;LFileHouse$Machines;Z)V"⟩
abbrev cX6_goOneStepBack : ByteArray := prog_8_method_3_code
def yX6_goOneStepBack : MethodName := ⟨RX6, "goOneStepBack", "(LFileHouse$Turners;LFileHouse$Machines;Z)V"⟩
abbrev cX6_lastYearOf : ByteArray := prog_8_method_4_code
def yX6_lastYearOf : MethodName := ⟨RX6, "lastYearOf", "(I)I"⟩
def RX7 : String := "FileHouse$StoredFile"
def TX7 : u_T := fun k => match k with
  | 0 => ("FileHouse$StoredFile", "bytes", "[I", true)
  | 1 => ("FileHouse$StoredFile", "from", "I", true)
  | 2 => ("FileHouse$StoredFile", "first", "I", true)
  | 3 => ("FileHouse$StoredFile", "isSource", "Z", false)
  | 4 => ("FileHouse$StoredFile", "mustKeep", "I", false)
  | 5 => ("FileHouse$StoredFile", "makeNumber", "I", false)
  | 6 => ("FileHouse$StoredFile", "bendCount", "I", false)
  | 7 => ("FileHouse$StoredFile", "has", "I", false)
  | _ => ("FileHouse$StoredFile", "recordCount", "I", false)
def tyX7 : Nat → FieldType := fun k => match k with
  | 0 => .array .int
  | 1 => .int
  | 2 => .int
  | 3 => .boolean
  | 4 => .int
  | 5 => .int
  | 6 => .int
  | 7 => .int
  | _ => .int
theorem nmX7 : ∀ a, a < 9 → ∀ b, b < 9 → a ≠ b → (TX7 a).2.1 ≠ (TX7 b).2.1 := by decide +kernel
theorem tyX7_ok : ∀ k, k < 9 → parseFieldDescriptor (TX7 k).2.2.1 = some (tyX7 k) := by decide +kernel
abbrev cX7_init : ByteArray := prog_9_method_1_code
def yX7_init : MethodName := ⟨RX7, "<init>", "([III)V"⟩
def RX8 : String := "FileHouse$Turner"
def TX8 : u_T := fun k => match k with
  | 0 => ("FileHouse$Turner", "from", "I", true)
  | 1 => ("FileHouse$Turner", "to", "I", true)
  | 2 => ("FileHouse$Turner", "carries", "I", true)
  | 3 => ("FileHouse$Turner", "price", "I", true)
  | _ => ("FileHouse$Turner", "machine", "I", true)
def tyX8 : Nat → FieldType := fun k => match k with
  | 0 => .int
  | 1 => .int
  | 2 => .int
  | 3 => .int
  | _ => .int
theorem nmX8 : ∀ a, a < 5 → ∀ b, b < 5 → a ≠ b → (TX8 a).2.1 ≠ (TX8 b).2.1 := by decide +kernel
theorem tyX8_ok : ∀ k, k < 5 → parseFieldDescriptor (TX8 k).2.2.1 = some (tyX8 k) := by decide +kernel
abbrev cX8_init : ByteArray := prog_10_method_1_code
def yX8_init : MethodName := ⟨RX8, "<init>", "(IIIII)V"⟩
abbrev cX8_carriesAll : ByteArray := prog_10_method_2_code
def yX8_carriesAll : MethodName := ⟨RX8, "carriesAll", "(I)Z"⟩
def RX9 : String := "FileHouse$Turners"
def TX9 : u_T := fun k => match k with
  | 0 => ("FileHouse$Turners", "row", "[LFileHouse$Turner;", true)
  | _ => ("FileHouse$Turners", "size", "I", false)
def tyX9 : Nat → FieldType := fun k => match k with
  | 0 => .array (.object "FileHouse$Turner")
  | _ => .int
theorem nmX9 : ∀ a, a < 2 → ∀ b, b < 2 → a ≠ b → (TX9 a).2.1 ≠ (TX9 b).2.1 := by decide +kernel
theorem tyX9_ok : ∀ k, k < 2 → parseFieldDescriptor (TX9 k).2.2.1 = some (tyX9 k) := by decide +kernel
abbrev cX9_init : ByteArray := prog_11_method_1_code
def yX9_init : MethodName := ⟨RX9, "<init>", "()V"⟩
abbrev cX9_add : ByteArray := prog_11_method_2_code
def yX9_add : MethodName := ⟨RX9, "add", "(IIIII)I"⟩
abbrev cX9_at : ByteArray := prog_11_method_3_code
def yX9_at : MethodName := ⟨RX9, "at", "(I)LFileHouse$Turner;"⟩
def RX10 : String := "FileHouse"
def TX10 : u_T := fun k => match k with
  | 0 => ("FileHouse", "tape", "LFileHouse$ByteRow;", true)
  | 1 => ("FileHouse", "draft", "LFileHouse$ByteRow;", true)
  | 2 => ("FileHouse", "makes", "[LFileHouse$Make;", true)
  | 3 => ("FileHouse", "files", "[LFileHouse$StoredFile;", true)
  | 4 => ("FileHouse", "machines", "LFileHouse$Machines;", true)
  | 5 => ("FileHouse", "readers", "LFileHouse$Readers;", true)
  | 6 => ("FileHouse", "turners", "LFileHouse$Turners;", true)
  | 7 => ("FileHouse", "roads", "LFileHouse$Roads;", true)
  | 8 => ("FileHouse", "spans", "LFileHouse$Spans;", true)
  | 9 => ("FileHouse", "reading", "LFileHouse$Reading;", true)
  | 10 => ("FileHouse", "otherReading", "LFileHouse$Reading;", true)
  | 11 => ("FileHouse", "makeCount", "I", false)
  | 12 => ("FileHouse", "fileCount", "I", false)
  | 13 => ("FileHouse", "thisYear", "I", false)
  | _ => ("FileHouse", "toldRoad", "J", false)
def tyX10 : Nat → FieldType := fun k => match k with
  | 0 => .object "FileHouse$ByteRow"
  | 1 => .object "FileHouse$ByteRow"
  | 2 => .array (.object "FileHouse$Make")
  | 3 => .array (.object "FileHouse$StoredFile")
  | 4 => .object "FileHouse$Machines"
  | 5 => .object "FileHouse$Readers"
  | 6 => .object "FileHouse$Turners"
  | 7 => .object "FileHouse$Roads"
  | 8 => .object "FileHouse$Spans"
  | 9 => .object "FileHouse$Reading"
  | 10 => .object "FileHouse$Reading"
  | 11 => .int
  | 12 => .int
  | 13 => .int
  | _ => .long
theorem nmX10 : ∀ a, a < 15 → ∀ b, b < 15 → a ≠ b → (TX10 a).2.1 ≠ (TX10 b).2.1 := by decide +kernel
theorem tyX10_ok : ∀ k, k < 15 → parseFieldDescriptor (TX10 k).2.2.1 = some (tyX10 k) := by decide +kernel
abbrev cX10_init : ByteArray := prog_1_method_1_code
def yX10_init : MethodName := ⟨RX10, "<init>", "()V"⟩
abbrev cX10_feed : ByteArray := prog_1_method_2_code
def yX10_feed : MethodName := ⟨RX10, "feed", "(IIIII)I"⟩
abbrev cX10_make : ByteArray := prog_1_method_3_code
def yX10_make : MethodName := ⟨RX10, "make", "(IIZI)I"⟩
abbrev cX10_file : ByteArray := prog_1_method_4_code
def yX10_file : MethodName := ⟨RX10, "file", "(I)I"⟩
abbrev cX10_must : ByteArray := prog_1_method_5_code
def yX10_must : MethodName := ⟨RX10, "must", "(II)Z"⟩
abbrev cX10_machine : ByteArray := prog_1_method_6_code
def yX10_machine : MethodName := ⟨RX10, "machine", "(III)Z"⟩
abbrev cX10_reader : ByteArray := prog_1_method_7_code
def yX10_reader : MethodName := ⟨RX10, "reader", "(II)Z"⟩
abbrev cX10_turner : ByteArray := prog_1_method_8_code
def yX10_turner : MethodName := ⟨RX10, "turner", "(IIIII)I"⟩
abbrev cX10_year : ByteArray := prog_1_method_9_code
def yX10_year : MethodName := ⟨RX10, "year", "(I)Z"⟩
abbrev cX10_bends : ByteArray := prog_1_method_10_code
def yX10_bends : MethodName := ⟨RX10, "bends", "(II)I"⟩
abbrev cX10_know : ByteArray := prog_1_method_11_code
def yX10_know : MethodName := ⟨RX10, "know", "(I)I"⟩
abbrev cX10_record : ByteArray := prog_1_method_12_code
def yX10_record : MethodName := ⟨RX10, "record", "(III)I"⟩
abbrev cX10_turn : ByteArray := prog_1_method_13_code
def yX10_turn : MethodName := ⟨RX10, "turn", "(II)I"⟩
abbrev cX10_kept : ByteArray := prog_1_method_14_code
def yX10_kept : MethodName := ⟨RX10, "kept", "(II)I"⟩
abbrev cX10_road : ByteArray := prog_1_method_15_code
def yX10_road : MethodName := ⟨RX10, "road", "(II)I"⟩
abbrev cX10_step : ByteArray := prog_1_method_16_code
def yX10_step : MethodName := ⟨RX10, "step", "(I)I"⟩
abbrev cX10_last : ByteArray := prog_1_method_17_code
def yX10_last : MethodName := ⟨RX10, "last", "(IZ)I"⟩
abbrev cX10_plan : ByteArray := prog_1_method_18_code
def yX10_plan : MethodName := ⟨RX10, "plan", "(I)I"⟩
abbrev cX10_goal : ByteArray := prog_1_method_19_code
def yX10_goal : MethodName := ⟨RX10, "goal", "(II)I"⟩
abbrev cX10_look : ByteArray := prog_1_method_20_code
def yX10_look : MethodName := ⟨RX10, "look", "(II)I"⟩
abbrev cX10_count : ByteArray := prog_1_method_21_code
def yX10_count : MethodName := ⟨RX10, "count", "(I)I"⟩
abbrev cX10_areProperties : ByteArray := prog_1_method_22_code
def yX10_areProperties : MethodName := ⟨RX10, "areProperties", "(I)Z"⟩
abbrev cX10_holds : ByteArray := prog_1_method_23_code
def yX10_holds : MethodName := ⟨RX10, "holds", "(II)Z"⟩
abbrev cX10_isYear : ByteArray := prog_1_method_24_code
def yX10_isYear : MethodName := ⟨RX10, "isYear", "(I)Z"⟩
abbrev cX10_isYearToCome : ByteArray := prog_1_method_25_code
def yX10_isYearToCome : MethodName := ⟨RX10, "isYearToCome", "(I)Z"⟩
abbrev cX10_makeAt : ByteArray := prog_1_method_26_code
def yX10_makeAt : MethodName := ⟨RX10, "makeAt", "(I)LFileHouse$Make;"⟩
abbrev cX10_fileAt : ByteArray := prog_1_method_27_code
def yX10_fileAt : MethodName := ⟨RX10, "fileAt", "(I)LFileHouse$StoredFile;"⟩
abbrev cX10_store : ByteArray := prog_1_method_28_code
def yX10_store : MethodName := ⟨RX10, "store", "([III)I"⟩
abbrev cX10_judge : ByteArray := prog_1_method_29_code
def yX10_judge : MethodName := ⟨RX10, "judge", "(LFileHouse$StoredFile;I)V"⟩
abbrev cX10_readByOwnMake : ByteArray := prog_1_method_30_code
def yX10_readByOwnMake : MethodName := ⟨RX10, "readByOwnMake", "(LFileHouse$StoredFile;LFileHouse$Reading;)V"⟩
abbrev cX10_draftTurned : ByteArray := prog_1_method_31_code
def yX10_draftTurned : MethodName := ⟨RX10, "draftTurned", "(LFileHouse$StoredFile;LFileHouse$Turner;)Z"⟩
abbrev cX10_sumOfFirst : ByteArray := prog_1_method_32_code
def yX10_sumOfFirst : MethodName := ⟨RX10, "sumOfFirst", "([II)I"⟩
abbrev cX10_isPlanned : ByteArray := prog_1_method_33_code
def yX10_isPlanned : MethodName := ⟨RX10, "isPlanned", "(LFileHouse$StoredFile;)Z"⟩
abbrev cX10_cheapestGoal : ByteArray := prog_1_method_34_code
def yX10_cheapestGoal : MethodName := ⟨RX10, "cheapestGoal", "(LFileHouse$StoredFile;I)I"⟩
abbrev cX10_byteAsked : ByteArray := prog_1_method_35_code
def yX10_byteAsked : MethodName := ⟨RX10, "byteAsked", "([II)I"⟩
abbrev cX10_filesWithoutMake : ByteArray := prog_1_method_36_code
def yX10_filesWithoutMake : MethodName := ⟨RX10, "filesWithoutMake", "()I"⟩
abbrev cX10_filesBeyondReading : ByteArray := prog_1_method_37_code
def yX10_filesBeyondReading : MethodName := ⟨RX10, "filesBeyondReading", "()I"⟩
def RX11 : String := "FileHouseModel"
def TX11 : u_T := fun k => match k with
  | 0 => ("FileHouseModel", "tape", "[B", true)
  | 1 => ("FileHouseModel", "taped", "I", false)
  | 2 => ("FileHouseModel", "year", "I", false)
  | 3 => ("FileHouseModel", "makes", "I", false)
  | 4 => ("FileHouseModel", "mark", "[I", true)
  | 5 => ("FileHouseModel", "markSize", "[I", true)
  | 6 => ("FileHouseModel", "holds", "[I", true)
  | 7 => ("FileHouseModel", "hasSum", "[Z", true)
  | 8 => ("FileHouseModel", "bears", "[I", true)
  | 9 => ("FileHouseModel", "files", "I", false)
  | 10 => ("FileHouseModel", "bytes", "[I", true)
  | 11 => ("FileHouseModel", "size", "[I", true)
  | 12 => ("FileHouseModel", "must", "[I", true)
  | 13 => ("FileHouseModel", "from", "[I", true)
  | 14 => ("FileHouseModel", "surely", "[I", true)
  | 15 => ("FileHouseModel", "maybe", "[I", true)
  | 16 => ("FileHouseModel", "readers", "I", false)
  | 17 => ("FileHouseModel", "opens", "[I", true)
  | 18 => ("FileHouseModel", "openOn", "[I", true)
  | 19 => ("FileHouseModel", "turners", "I", false)
  | 20 => ("FileHouseModel", "turnFrom", "[I", true)
  | 21 => ("FileHouseModel", "turnTo", "[I", true)
  | 22 => ("FileHouseModel", "drops", "[I", true)
  | 23 => ("FileHouseModel", "price", "[I", true)
  | 24 => ("FileHouseModel", "turnOn", "[I", true)
  | 25 => ("FileHouseModel", "records", "I", false)
  | 26 => ("FileHouseModel", "bent", "I", false)
  | 27 => ("FileHouseModel", "tag", "[I", true)
  | 28 => ("FileHouseModel", "begin", "[I", true)
  | 29 => ("FileHouseModel", "longs", "[I", true)
  | 30 => ("FileHouseModel", "wasMany", "I", false)
  | 31 => ("FileHouseModel", "wasTag", "[I", true)
  | 32 => ("FileHouseModel", "wasBegin", "[I", true)
  | 33 => ("FileHouseModel", "wasLong", "[I", true)
  | 34 => ("FileHouseModel", "cost", "[I", true)
  | 35 => ("FileHouseModel", "rowLong", "I", false)
  | 36 => ("FileHouseModel", "row", "[I", true)
  | 37 => ("FileHouseModel", "toldLong", "I", false)
  | 38 => ("FileHouseModel", "told", "[I", true)
  | 39 => ("FileHouseModel", "until", "[I", true)
  | 40 => ("FileHouseModel", "planPrice", "I", false)
  | 41 => ("FileHouseModel", "planLong", "I", false)
  | _ => ("FileHouseModel", "planRow", "[I", true)
def tyX11 : Nat → FieldType := fun k => match k with
  | 0 => .array .byte
  | 1 => .int
  | 2 => .int
  | 3 => .int
  | 4 => .array .int
  | 5 => .array .int
  | 6 => .array .int
  | 7 => .array .boolean
  | 8 => .array .int
  | 9 => .int
  | 10 => .array .int
  | 11 => .array .int
  | 12 => .array .int
  | 13 => .array .int
  | 14 => .array .int
  | 15 => .array .int
  | 16 => .int
  | 17 => .array .int
  | 18 => .array .int
  | 19 => .int
  | 20 => .array .int
  | 21 => .array .int
  | 22 => .array .int
  | 23 => .array .int
  | 24 => .array .int
  | 25 => .int
  | 26 => .int
  | 27 => .array .int
  | 28 => .array .int
  | 29 => .array .int
  | 30 => .int
  | 31 => .array .int
  | 32 => .array .int
  | 33 => .array .int
  | 34 => .array .int
  | 35 => .int
  | 36 => .array .int
  | 37 => .int
  | 38 => .array .int
  | 39 => .array .int
  | 40 => .int
  | 41 => .int
  | _ => .array .int
theorem nmX11 : ∀ a, a < 43 → ∀ b, b < 43 → a ≠ b → (TX11 a).2.1 ≠ (TX11 b).2.1 := by decide +kernel
theorem tyX11_ok : ∀ k, k < 43 → parseFieldDescriptor (TX11 k).2.2.1 = some (tyX11 k) := by decide +kernel
abbrev cX11_init : ByteArray := prog_13_method_1_code
def yX11_init : MethodName := ⟨RX11, "<init>", "()V"⟩
abbrev cX11_lies : ByteArray := prog_13_method_2_code
def yX11_lies : MethodName := ⟨RX11, "lies", "(III)Z"⟩
abbrev cX11_has : ByteArray := prog_13_method_3_code
def yX11_has : MethodName := ⟨RX11, "has", "(II)Z"⟩
abbrev cX11_push : ByteArray := prog_13_method_4_code
def yX11_push : MethodName := ⟨RX11, "push", "(I)V"⟩
abbrev cX11_feed : ByteArray := prog_13_method_5_code
def yX11_feed : MethodName := ⟨RX11, "feed", "(IIIII)I"⟩
abbrev cX11_make : ByteArray := prog_13_method_6_code
def yX11_make : MethodName := ⟨RX11, "make", "(IIZI)I"⟩
abbrev cX11_file : ByteArray := prog_13_method_7_code
def yX11_file : MethodName := ⟨RX11, "file", "(I)I"⟩
abbrev cX11_isFile : ByteArray := prog_13_method_8_code
def yX11_isFile : MethodName := ⟨RX11, "isFile", "(I)Z"⟩
abbrev cX11_isMake : ByteArray := prog_13_method_9_code
def yX11_isMake : MethodName := ⟨RX11, "isMake", "(I)Z"⟩
abbrev cX11_isMachine : ByteArray := prog_13_method_10_code
def yX11_isMachine : MethodName := ⟨RX11, "isMachine", "(I)Z"⟩
abbrev cX11_must : ByteArray := prog_13_method_11_code
def yX11_must : MethodName := ⟨RX11, "must", "(II)Z"⟩
abbrev cX11_machine : ByteArray := prog_13_method_12_code
def yX11_machine : MethodName := ⟨RX11, "machine", "(III)Z"⟩
abbrev cX11_reader : ByteArray := prog_13_method_13_code
def yX11_reader : MethodName := ⟨RX11, "reader", "(II)Z"⟩
abbrev cX11_turner : ByteArray := prog_13_method_14_code
def yX11_turner : MethodName := ⟨RX11, "turner", "(IIIII)I"⟩
abbrev cX11_year : ByteArray := prog_13_method_15_code
def yX11_year : MethodName := ⟨RX11, "year", "(I)Z"⟩
abbrev cX11_byteAt : ByteArray := prog_13_method_16_code
def yX11_byteAt : MethodName := ⟨RX11, "byteAt", "(II)I"⟩
abbrev cX11_reads : ByteArray := prog_13_method_17_code
def yX11_reads : MethodName := ⟨RX11, "reads", "(II)Z"⟩
abbrev cX11_bends : ByteArray := prog_13_method_18_code
def yX11_bends : MethodName := ⟨RX11, "bends", "(II)I"⟩
abbrev cX11_knows : ByteArray := prog_13_method_19_code
def yX11_knows : MethodName := ⟨RX11, "knows", "(I)I"⟩
abbrev cX11_know : ByteArray := prog_13_method_20_code
def yX11_know : MethodName := ⟨RX11, "know", "(I)I"⟩
abbrev cX11_record : ByteArray := prog_13_method_21_code
def yX11_record : MethodName := ⟨RX11, "record", "(III)I"⟩
abbrev cX11_properties : ByteArray := prog_13_method_22_code
def yX11_properties : MethodName := ⟨RX11, "properties", "(I)I"⟩
abbrev cX11_turn : ByteArray := prog_13_method_23_code
def yX11_turn : MethodName := ⟨RX11, "turn", "(II)I"⟩
abbrev cX11_goes : ByteArray := prog_13_method_24_code
def yX11_goes : MethodName := ⟨RX11, "goes", "(II)Z"⟩
abbrev cX11_areAlike : ByteArray := prog_13_method_25_code
def yX11_areAlike : MethodName := ⟨RX11, "areAlike", "(IIII)Z"⟩
abbrev cX11_isKept : ByteArray := prog_13_method_26_code
def yX11_isKept : MethodName := ⟨RX11, "isKept", "(III)Z"⟩
abbrev cX11_kept : ByteArray := prog_13_method_27_code
def yX11_kept : MethodName := ⟨RX11, "kept", "(II)I"⟩
abbrev cX11_mayTurn : ByteArray := prog_13_method_28_code
def yX11_mayTurn : MethodName := ⟨RX11, "mayTurn", "(II)Z"⟩
abbrev cX11_measures : ByteArray := prog_13_method_29_code
def yX11_measures : MethodName := ⟨RX11, "measures", "(II)V"⟩
abbrev cX11_bestRoad : ByteArray := prog_13_method_30_code
def yX11_bestRoad : MethodName := ⟨RX11, "bestRoad", "(II)I"⟩
abbrev cX11_road : ByteArray := prog_13_method_31_code
def yX11_road : MethodName := ⟨RX11, "road", "(II)I"⟩
abbrev cX11_step : ByteArray := prog_13_method_32_code
def yX11_step : MethodName := ⟨RX11, "step", "(I)I"⟩
abbrev cX11_lives : ByteArray := prog_13_method_33_code
def yX11_lives : MethodName := ⟨RX11, "lives", "(IZ)I"⟩
abbrev cX11_lastOf : ByteArray := prog_13_method_34_code
def yX11_lastOf : MethodName := ⟨RX11, "lastOf", "(IZ)I"⟩
abbrev cX11_last : ByteArray := prog_13_method_35_code
def yX11_last : MethodName := ⟨RX11, "last", "(IZ)I"⟩
abbrev cX11_isRead : ByteArray := prog_13_method_36_code
def yX11_isRead : MethodName := ⟨RX11, "isRead", "(II)Z"⟩
abbrev cX11_isPlanned : ByteArray := prog_13_method_37_code
def yX11_isPlanned : MethodName := ⟨RX11, "isPlanned", "(I)Z"⟩
abbrev cX11_isBetter : ByteArray := prog_13_method_38_code
def yX11_isBetter : MethodName := ⟨RX11, "isBetter", "(I)Z"⟩
abbrev cX11_goalOf : ByteArray := prog_13_method_39_code
def yX11_goalOf : MethodName := ⟨RX11, "goalOf", "(II)I"⟩
abbrev cX11_plan : ByteArray := prog_13_method_40_code
def yX11_plan : MethodName := ⟨RX11, "plan", "(I)I"⟩
abbrev cX11_goal : ByteArray := prog_13_method_41_code
def yX11_goal : MethodName := ⟨RX11, "goal", "(II)I"⟩
abbrev cX11_look : ByteArray := prog_13_method_42_code
def yX11_look : MethodName := ⟨RX11, "look", "(II)I"⟩
abbrev cX11_count : ByteArray := prog_13_method_43_code
def yX11_count : MethodName := ⟨RX11, "count", "(I)I"⟩
def RJx8e188 : String := "java/lang/Cloneable"
def RJ9 : String := "java/lang/Math"
abbrev cJ9_max_7cf53 : ByteArray := prog_15_method_65_code
def yJ9_max_7cf53 : MethodName := ⟨RJ9, "max", "(II)I"⟩
abbrev cJ9_min_7cf53 : ByteArray := prog_15_method_69_code
def yJ9_min_7cf53 : MethodName := ⟨RJ9, "min", "(II)I"⟩
abbrev cJ9_min_f86c9 : ByteArray := prog_15_method_70_code
def yJ9_min_f86c9 : MethodName := ⟨RJ9, "min", "(JJ)J"⟩
def RJ10 : String := "java/lang/System"
def RJ7 : String := "java/util/Arrays"
abbrev cJ7_fill_d0a16 : ByteArray := prog_17_method_101_code
def yJ7_fill_d0a16 : MethodName := ⟨RJ7, "fill", "([JJ)V"⟩
abbrev cJ7_fill_53178 : ByteArray := prog_17_method_103_code
def yJ7_fill_53178 : MethodName := ⟨RJ7, "fill", "([II)V"⟩
abbrev cJ7_copyOf_59c91 : ByteArray := prog_17_method_123_code
def yJ7_copyOf_59c91 : MethodName := ⟨RJ7, "copyOf", "([II)[I"⟩
def RL : String := "FileHouseLaw"
abbrev cL_law : ByteArray := code
def yL_law : MethodName := ⟨RL, "law", "([I)Z"⟩
abbrev vwCl : List vw_C := [(RX0, TX0, 2), (RX1, TX1, 2), (RX2, TX2, 4), (RX3, TX3, 3), (RX4, TX4, 7), (RX5, TX5, 3), (RX6, TX6, 2), (RX7, TX7, 9), (RX8, TX8, 5), (RX9, TX9, 2), (RX10, TX10, 15), (RX11, TX11, 43)]
