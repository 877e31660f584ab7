-- ===== PART A: goes FIRST, ahead of the names: the tables' words, and 'selects' of the private methods out of them =====
/-- a private method of a class that the tables say can be made, by its rows of tables_1 -/
def lw_okq (q : MethodName × Nat) : Prop := (q.1.cls ≠ "java/lang/invoke/MethodHandle" ∧ q.1.cls ≠ "java/lang/invoke/VarHandle") ∧ Cond.instantiable q.1.cls q.2 ∈ tables_1 ∧ Cond.privateMethod q.1 ∈ tables_1 ∧ Cond.instanceMethod q.1 ∈ tables_1
theorem lw_p0 : lw_okq (⟨"LikeRecords", "takeText", "()I"⟩, 8) := ⟨⟨by decide +kernel, by decide +kernel⟩, List.mem_of_getElem? (i := 11) (by decide +kernel), List.mem_of_getElem? (i := 207) (by decide +kernel), List.mem_of_getElem? (i := 208) (by decide +kernel)⟩
theorem lw_p1 : lw_okq (⟨"LikeRecords$Reading", "takeSpace", "()V"⟩, 7) := ⟨⟨by decide +kernel, by decide +kernel⟩, List.mem_of_getElem? (i := 36) (by decide +kernel), List.mem_of_getElem? (i := 223) (by decide +kernel), List.mem_of_getElem? (i := 224) (by decide +kernel)⟩
theorem lw_p2 : lw_okq (⟨"LikeRecords$Reading", "takeOpening", "(II)Z"⟩, 7) := ⟨⟨by decide +kernel, by decide +kernel⟩, List.mem_of_getElem? (i := 36) (by decide +kernel), List.mem_of_getElem? (i := 227) (by decide +kernel), List.mem_of_getElem? (i := 228) (by decide +kernel)⟩
theorem lw_p3 : lw_okq (⟨"LikeRecords$Reading", "takeClosing", "()Z"⟩, 7) := ⟨⟨by decide +kernel, by decide +kernel⟩, List.mem_of_getElem? (i := 36) (by decide +kernel), List.mem_of_getElem? (i := 239) (by decide +kernel), List.mem_of_getElem? (i := 240) (by decide +kernel)⟩
theorem lw_p4 : lw_okq (⟨"LikeRecords$Reading", "takeLetter", "(I)Z"⟩, 7) := ⟨⟨by decide +kernel, by decide +kernel⟩, List.mem_of_getElem? (i := 36) (by decide +kernel), List.mem_of_getElem? (i := 248) (by decide +kernel), List.mem_of_getElem? (i := 249) (by decide +kernel)⟩
theorem lw_p5 : lw_okq (⟨"LikeRecords$Reading", "takeColon", "(I)Z"⟩, 7) := ⟨⟨by decide +kernel, by decide +kernel⟩, List.mem_of_getElem? (i := 36) (by decide +kernel), List.mem_of_getElem? (i := 264) (by decide +kernel), List.mem_of_getElem? (i := 265) (by decide +kernel)⟩
theorem lw_p6 : lw_okq (⟨"LikeRecords$Reading", "takeFirstDigit", "(I)Z"⟩, 7) := ⟨⟨by decide +kernel, by decide +kernel⟩, List.mem_of_getElem? (i := 36) (by decide +kernel), List.mem_of_getElem? (i := 271) (by decide +kernel), List.mem_of_getElem? (i := 272) (by decide +kernel)⟩
theorem lw_p7 : lw_okq (⟨"LikeRecords$Reading", "takeNextDigit", "(I)Z"⟩, 7) := ⟨⟨by decide +kernel, by decide +kernel⟩, List.mem_of_getElem? (i := 36) (by decide +kernel), List.mem_of_getElem? (i := 277) (by decide +kernel), List.mem_of_getElem? (i := 278) (by decide +kernel)⟩
theorem lw_p8 : lw_okq (⟨"LikeRecords$Reading", "takeFieldEnd", "(I)Z"⟩, 7) := ⟨⟨by decide +kernel, by decide +kernel⟩, List.mem_of_getElem? (i := 36) (by decide +kernel), List.mem_of_getElem? (i := 286) (by decide +kernel), List.mem_of_getElem? (i := 287) (by decide +kernel)⟩
theorem lw_p9 : lw_okq (⟨"LikeRecords$History", "forgetOldest", "()V"⟩, 2) := ⟨⟨by decide +kernel, by decide +kernel⟩, List.mem_of_getElem? (i := 144) (by decide +kernel), List.mem_of_getElem? (i := 327) (by decide +kernel), List.mem_of_getElem? (i := 328) (by decide +kernel)⟩
theorem lw_p10 : lw_okq (⟨"LikeRecords", "learnShape", "(ILLikeRecords$Form;)V"⟩, 8) := ⟨⟨by decide +kernel, by decide +kernel⟩, List.mem_of_getElem? (i := 11) (by decide +kernel), List.mem_of_getElem? (i := 342) (by decide +kernel), List.mem_of_getElem? (i := 343) (by decide +kernel)⟩
theorem lw_p11 : lw_okq (⟨"LikeRecords", "commonShapes", "()I"⟩, 8) := ⟨⟨by decide +kernel, by decide +kernel⟩, List.mem_of_getElem? (i := 11) (by decide +kernel), List.mem_of_getElem? (i := 386) (by decide +kernel), List.mem_of_getElem? (i := 387) (by decide +kernel)⟩
theorem lw_p12 : lw_okq (⟨"LikeRecords", "isCommon", "(I)Z"⟩, 8) := ⟨⟨by decide +kernel, by decide +kernel⟩, List.mem_of_getElem? (i := 11) (by decide +kernel), List.mem_of_getElem? (i := 390) (by decide +kernel), List.mem_of_getElem? (i := 391) (by decide +kernel)⟩
theorem lw_p13 : lw_okq (⟨"LikeRecords", "rareRecords", "()I"⟩, 8) := ⟨⟨by decide +kernel, by decide +kernel⟩, List.mem_of_getElem? (i := 11) (by decide +kernel), List.mem_of_getElem? (i := 398) (by decide +kernel), List.mem_of_getElem? (i := 399) (by decide +kernel)⟩
theorem lw_p14 : lw_okq (⟨"LikeRecords", "sizeFor", "(I)I"⟩, 8) := ⟨⟨by decide +kernel, by decide +kernel⟩, List.mem_of_getElem? (i := 11) (by decide +kernel), List.mem_of_getElem? (i := 402) (by decide +kernel), List.mem_of_getElem? (i := 403) (by decide +kernel)⟩
theorem lw_p15 : lw_okq (⟨"LikeRecords", "formOf", "(I)LLikeRecords$Form;"⟩, 8) := ⟨⟨by decide +kernel, by decide +kernel⟩, List.mem_of_getElem? (i := 11) (by decide +kernel), List.mem_of_getElem? (i := 441) (by decide +kernel), List.mem_of_getElem? (i := 442) (by decide +kernel)⟩
def lw_privs_1 : List (MethodName × Nat) := [(⟨"LikeRecords", "takeText", "()I"⟩, 8), (⟨"LikeRecords$Reading", "takeSpace", "()V"⟩, 7), (⟨"LikeRecords$Reading", "takeOpening", "(II)Z"⟩, 7), (⟨"LikeRecords$Reading", "takeClosing", "()Z"⟩, 7), (⟨"LikeRecords$Reading", "takeLetter", "(I)Z"⟩, 7), (⟨"LikeRecords$Reading", "takeColon", "(I)Z"⟩, 7), (⟨"LikeRecords$Reading", "takeFirstDigit", "(I)Z"⟩, 7), (⟨"LikeRecords$Reading", "takeNextDigit", "(I)Z"⟩, 7), (⟨"LikeRecords$Reading", "takeFieldEnd", "(I)Z"⟩, 7), (⟨"LikeRecords$History", "forgetOldest", "()V"⟩, 2), (⟨"LikeRecords", "learnShape", "(ILLikeRecords$Form;)V"⟩, 8), (⟨"LikeRecords", "commonShapes", "()I"⟩, 8), (⟨"LikeRecords", "isCommon", "(I)Z"⟩, 8), (⟨"LikeRecords", "rareRecords", "()I"⟩, 8), (⟨"LikeRecords", "sizeFor", "(I)I"⟩, 8), (⟨"LikeRecords", "formOf", "(I)LLikeRecords$Form;"⟩, 8)]
theorem lw_r1 : ∀ q ∈ lw_privs_1, lw_okq q := List.forall_mem_cons.mpr ⟨lw_p0, List.forall_mem_cons.mpr ⟨lw_p1, List.forall_mem_cons.mpr ⟨lw_p2, List.forall_mem_cons.mpr ⟨lw_p3, List.forall_mem_cons.mpr ⟨lw_p4, List.forall_mem_cons.mpr ⟨lw_p5, List.forall_mem_cons.mpr ⟨lw_p6, List.forall_mem_cons.mpr ⟨lw_p7, List.forall_mem_cons.mpr ⟨lw_p8, List.forall_mem_cons.mpr ⟨lw_p9, List.forall_mem_cons.mpr ⟨lw_p10, List.forall_mem_cons.mpr ⟨lw_p11, List.forall_mem_cons.mpr ⟨lw_p12, List.forall_mem_cons.mpr ⟨lw_p13, List.forall_mem_cons.mpr ⟨lw_p14, List.forall_mem_cons.mpr ⟨lw_p15, fun _ h => absurd h List.not_mem_nil⟩⟩⟩⟩⟩⟩⟩⟩⟩⟩⟩⟩⟩⟩⟩⟩
theorem lw_p16 : lw_okq (⟨"LikeRecords", "writeText", "(LLikeRecords$Form;I)I"⟩, 8) := ⟨⟨by decide +kernel, by decide +kernel⟩, List.mem_of_getElem? (i := 11) (by decide +kernel), List.mem_of_getElem? (i := 449) (by decide +kernel), List.mem_of_getElem? (i := 450) (by decide +kernel)⟩
theorem lw_p17 : lw_okq (⟨"LikeRecords", "writeClosings", "(II)I"⟩, 8) := ⟨⟨by decide +kernel, by decide +kernel⟩, List.mem_of_getElem? (i := 11) (by decide +kernel), List.mem_of_getElem? (i := 459) (by decide +kernel), List.mem_of_getElem? (i := 460) (by decide +kernel)⟩
theorem lw_p18 : lw_okq (⟨"LikeRecords", "writeName", "(I)V"⟩, 8) := ⟨⟨by decide +kernel, by decide +kernel⟩, List.mem_of_getElem? (i := 11) (by decide +kernel), List.mem_of_getElem? (i := 463) (by decide +kernel), List.mem_of_getElem? (i := 464) (by decide +kernel)⟩
theorem lw_p19 : lw_okq (⟨"LikeRecords", "writeNumber", "(I)V"⟩, 8) := ⟨⟨by decide +kernel, by decide +kernel⟩, List.mem_of_getElem? (i := 11) (by decide +kernel), List.mem_of_getElem? (i := 479) (by decide +kernel), List.mem_of_getElem? (i := 480) (by decide +kernel)⟩
theorem lw_p20 : lw_okq (⟨"LikeRecords", "sumOfRecord", "(II)I"⟩, 8) := ⟨⟨by decide +kernel, by decide +kernel⟩, List.mem_of_getElem? (i := 11) (by decide +kernel), List.mem_of_getElem? (i := 483) (by decide +kernel), List.mem_of_getElem? (i := 484) (by decide +kernel)⟩
theorem lw_p21 : lw_okq (⟨"LikeRecords", "isPath", "(I)Z"⟩, 8) := ⟨⟨by decide +kernel, by decide +kernel⟩, List.mem_of_getElem? (i := 11) (by decide +kernel), List.mem_of_getElem? (i := 491) (by decide +kernel), List.mem_of_getElem? (i := 492) (by decide +kernel)⟩
theorem lw_p22 : lw_okq (⟨"LikeRecords", "recordsHolding", "(I)I"⟩, 8) := ⟨⟨by decide +kernel, by decide +kernel⟩, List.mem_of_getElem? (i := 11) (by decide +kernel), List.mem_of_getElem? (i := 504) (by decide +kernel), List.mem_of_getElem? (i := 505) (by decide +kernel)⟩
theorem lw_p23 : lw_okq (⟨"LikeRecords", "sumOfPath", "(I)I"⟩, 8) := ⟨⟨by decide +kernel, by decide +kernel⟩, List.mem_of_getElem? (i := 11) (by decide +kernel), List.mem_of_getElem? (i := 509) (by decide +kernel), List.mem_of_getElem? (i := 510) (by decide +kernel)⟩
theorem lw_p24 : lw_okq (⟨"LikeRecords", "costOf", "(I)I"⟩, 8) := ⟨⟨by decide +kernel, by decide +kernel⟩, List.mem_of_getElem? (i := 11) (by decide +kernel), List.mem_of_getElem? (i := 513) (by decide +kernel), List.mem_of_getElem? (i := 514) (by decide +kernel)⟩
theorem lw_p25 : lw_okq (⟨"LikeRecords", "isShape", "(I)Z"⟩, 8) := ⟨⟨by decide +kernel, by decide +kernel⟩, List.mem_of_getElem? (i := 11) (by decide +kernel), List.mem_of_getElem? (i := 521) (by decide +kernel), List.mem_of_getElem? (i := 522) (by decide +kernel)⟩
theorem lw_p26 : lw_okq (⟨"LikeRecords", "fillRemainder", "(LLikeRecords$Form;I)V"⟩, 8) := ⟨⟨by decide +kernel, by decide +kernel⟩, List.mem_of_getElem? (i := 11) (by decide +kernel), List.mem_of_getElem? (i := 555) (by decide +kernel), List.mem_of_getElem? (i := 556) (by decide +kernel)⟩
theorem lw_p27 : lw_okq (⟨"LikeRecords", "dropValues", "(ILLikeRecords$Form;I)V"⟩, 8) := ⟨⟨by decide +kernel, by decide +kernel⟩, List.mem_of_getElem? (i := 11) (by decide +kernel), List.mem_of_getElem? (i := 565) (by decide +kernel), List.mem_of_getElem? (i := 566) (by decide +kernel)⟩
theorem lw_p28 : lw_okq (⟨"LikeRecords", "isBound", "(I)Z"⟩, 8) := ⟨⟨by decide +kernel, by decide +kernel⟩, List.mem_of_getElem? (i := 11) (by decide +kernel), List.mem_of_getElem? (i := 573) (by decide +kernel), List.mem_of_getElem? (i := 574) (by decide +kernel)⟩
def lw_privs_2 : List (MethodName × Nat) := [(⟨"LikeRecords", "writeText", "(LLikeRecords$Form;I)I"⟩, 8), (⟨"LikeRecords", "writeClosings", "(II)I"⟩, 8), (⟨"LikeRecords", "writeName", "(I)V"⟩, 8), (⟨"LikeRecords", "writeNumber", "(I)V"⟩, 8), (⟨"LikeRecords", "sumOfRecord", "(II)I"⟩, 8), (⟨"LikeRecords", "isPath", "(I)Z"⟩, 8), (⟨"LikeRecords", "recordsHolding", "(I)I"⟩, 8), (⟨"LikeRecords", "sumOfPath", "(I)I"⟩, 8), (⟨"LikeRecords", "costOf", "(I)I"⟩, 8), (⟨"LikeRecords", "isShape", "(I)Z"⟩, 8), (⟨"LikeRecords", "fillRemainder", "(LLikeRecords$Form;I)V"⟩, 8), (⟨"LikeRecords", "dropValues", "(ILLikeRecords$Form;I)V"⟩, 8), (⟨"LikeRecords", "isBound", "(I)Z"⟩, 8)]
theorem lw_r2 : ∀ q ∈ lw_privs_2, lw_okq q := List.forall_mem_cons.mpr ⟨lw_p16, List.forall_mem_cons.mpr ⟨lw_p17, List.forall_mem_cons.mpr ⟨lw_p18, List.forall_mem_cons.mpr ⟨lw_p19, List.forall_mem_cons.mpr ⟨lw_p20, List.forall_mem_cons.mpr ⟨lw_p21, List.forall_mem_cons.mpr ⟨lw_p22, List.forall_mem_cons.mpr ⟨lw_p23, List.forall_mem_cons.mpr ⟨lw_p24, List.forall_mem_cons.mpr ⟨lw_p25, List.forall_mem_cons.mpr ⟨lw_p26, List.forall_mem_cons.mpr ⟨lw_p27, List.forall_mem_cons.mpr ⟨lw_p28, fun _ h => absurd h List.not_mem_nil⟩⟩⟩⟩⟩⟩⟩⟩⟩⟩⟩⟩⟩
def lw_privs : List (MethodName × Nat) := lw_privs_1 ++ (lw_privs_2)
def lw_tbl : List Cond := k2_sels lw_privs ++ tables_1
theorem lw_privs_ok : ∀ q ∈ lw_privs, lw_okq q := by
  show ∀ q ∈ lw_privs_1 ++ (lw_privs_2), lw_okq q
  exact List.forall_mem_append.mpr ⟨lw_r1, lw_r2⟩
-- class names, fields, types (printed by the check's program); methods
def RX0 : String := "LikeRecords$Form"
def TX0 : u_T := fun k => match k with
  | 0 => ("LikeRecords$Form", "fields", "LLikeRecords$Row;", true)
  | _ => ("LikeRecords$Form", "leaves", "I", false)
def tyX0 : Nat → FieldType := fun k => match k with
  | 0 => .object "LikeRecords$Row"
  | _ => .int
abbrev wsX00 : List Cond := u_ws RX0 TX0 2
theorem nmX0 : ∀ a, a < 2 → ∀ b, b < 2 → a ≠ b → (TX0 a).2.1 ≠ (TX0 b).2.1 := by decide +kernel
theorem tyX0_ok : ∀ k, k < 2 → parseFieldDescriptor (TX0 k).2.2.1 = some (tyX0 k) := by decide +kernel
abbrev cX0_init : ByteArray := prog_2_method_1_code
def yX0_init : MethodName := ⟨RX0, "<init>", "()V"⟩
abbrev cX0_clear : ByteArray := prog_2_method_2_code
def yX0_clear : MethodName := ⟨RX0, "clear", "()V"⟩
abbrev cX0_add : ByteArray := prog_2_method_3_code
def yX0_add : MethodName := ⟨RX0, "add", "(I)V"⟩
abbrev cX0_copyFrom : ByteArray := prog_2_method_4_code
def yX0_copyFrom : MethodName := ⟨RX0, "copyFrom", "(LLikeRecords$Form;)V"⟩
abbrev cX0_size : ByteArray := prog_2_method_5_code
def yX0_size : MethodName := ⟨RX0, "size", "()I"⟩
abbrev cX0_leaves : ByteArray := prog_2_method_6_code
def yX0_leaves : MethodName := ⟨RX0, "leaves", "()I"⟩
abbrev cX0_branches : ByteArray := prog_2_method_7_code
def yX0_branches : MethodName := ⟨RX0, "branches", "()I"⟩
abbrev cX0_at : ByteArray := prog_2_method_8_code
def yX0_at : MethodName := ⟨RX0, "at", "(I)I"⟩
abbrev cX0_isBranchAt : ByteArray := prog_2_method_9_code
def yX0_isBranchAt : MethodName := ⟨RX0, "isBranchAt", "(I)Z"⟩
abbrev cX0_pathAt : ByteArray := prog_2_method_10_code
def yX0_pathAt : MethodName := ⟨RX0, "pathAt", "(I)I"⟩
abbrev cX0_holds : ByteArray := prog_2_method_11_code
def yX0_holds : MethodName := ⟨RX0, "holds", "(I)Z"⟩
abbrev cX0_leafPlace : ByteArray := prog_2_method_12_code
def yX0_leafPlace : MethodName := ⟨RX0, "leafPlace", "(I)I"⟩
abbrev cX0_isSameAs : ByteArray := prog_2_method_13_code
def yX0_isSameAs : MethodName := ⟨RX0, "isSameAs", "(LLikeRecords$Form;)Z"⟩
abbrev cX0_leavesInCommon : ByteArray := prog_2_method_14_code
def yX0_leavesInCommon : MethodName := ⟨RX0, "leavesInCommon", "(LLikeRecords$Form;)I"⟩
def RX1 : String := "LikeRecords$History"
def TX1 : u_T := fun k => match k with
  | 0 => ("LikeRecords$History", "states", "[LLikeRecords$State;", true)
  | _ => ("LikeRecords$History", "size", "I", false)
def tyX1 : Nat → FieldType := fun k => match k with
  | 0 => .array (.object "LikeRecords$State")
  | _ => .int
abbrev wsX10 : List Cond := u_ws RX1 TX1 2
theorem nmX1 : ∀ a, a < 2 → ∀ b, b < 2 → a ≠ b → (TX1 a).2.1 ≠ (TX1 b).2.1 := by decide +kernel
theorem tyX1_ok : ∀ k, k < 2 → parseFieldDescriptor (TX1 k).2.2.1 = some (tyX1 k) := by decide +kernel
abbrev cX1_init : ByteArray := prog_3_method_1_code
def yX1_init : MethodName := ⟨RX1, "<init>", "()V"⟩
abbrev cX1_size : ByteArray := prog_3_method_2_code
def yX1_size : MethodName := ⟨RX1, "size", "()I"⟩
abbrev cX1_keep : ByteArray := prog_3_method_3_code
def yX1_keep : MethodName := ⟨RX1, "keep", "(LLikeRecords$State;)V"⟩
abbrev cX1_forgetOldest : ByteArray := prog_3_method_4_code
def yX1_forgetOldest : MethodName := ⟨RX1, "forgetOldest", "()V"⟩
abbrev cX1_restore : ByteArray := prog_3_method_5_code
def yX1_restore : MethodName := ⟨RX1, "restore", "(LLikeRecords$State;)V"⟩
def RX2 : String := "LikeRecords$Paths"
def TX2 : u_T := fun k => match k with
  | 0 => ("LikeRecords$Paths", "letters", "LLikeRecords$Row;", true)
  | _ => ("LikeRecords$Paths", "outers", "LLikeRecords$Row;", true)
def tyX2 : Nat → FieldType := fun k => match k with
  | 0 => .object "LikeRecords$Row"
  | _ => .object "LikeRecords$Row"
abbrev wsX20 : List Cond := u_ws RX2 TX2 2
theorem nmX2 : ∀ a, a < 2 → ∀ b, b < 2 → a ≠ b → (TX2 a).2.1 ≠ (TX2 b).2.1 := by decide +kernel
theorem tyX2_ok : ∀ k, k < 2 → parseFieldDescriptor (TX2 k).2.2.1 = some (tyX2 k) := by decide +kernel
abbrev cX2_init : ByteArray := prog_4_method_1_code
def yX2_init : MethodName := ⟨RX2, "<init>", "()V"⟩
abbrev cX2_size : ByteArray := prog_4_method_2_code
def yX2_size : MethodName := ⟨RX2, "size", "()I"⟩
abbrev cX2_cutTo : ByteArray := prog_4_method_3_code
def yX2_cutTo : MethodName := ⟨RX2, "cutTo", "(I)V"⟩
abbrev cX2_letterOf : ByteArray := prog_4_method_4_code
def yX2_letterOf : MethodName := ⟨RX2, "letterOf", "(I)I"⟩
abbrev cX2_outerOf : ByteArray := prog_4_method_5_code
def yX2_outerOf : MethodName := ⟨RX2, "outerOf", "(I)I"⟩
abbrev cX2_findOrAdd : ByteArray := prog_4_method_6_code
def yX2_findOrAdd : MethodName := ⟨RX2, "findOrAdd", "(II)I"⟩
abbrev cX2_isWithin : ByteArray := prog_4_method_7_code
def yX2_isWithin : MethodName := ⟨RX2, "isWithin", "(II)Z"⟩
def RX3 : String := "LikeRecords$Reading"
def TX3 : u_T := fun k => match k with
  | 0 => ("LikeRecords$Reading", "paths", "LLikeRecords$Paths;", true)
  | 1 => ("LikeRecords$Reading", "form", "LLikeRecords$Form;", true)
  | 2 => ("LikeRecords$Reading", "numbers", "LLikeRecords$Row;", true)
  | 3 => ("LikeRecords$Reading", "step", "I", false)
  | 4 => ("LikeRecords$Reading", "level", "I", false)
  | 5 => ("LikeRecords$Reading", "open", "I", false)
  | _ => ("LikeRecords$Reading", "named", "I", false)
def tyX3 : Nat → FieldType := fun k => match k with
  | 0 => .object "LikeRecords$Paths"
  | 1 => .object "LikeRecords$Form"
  | 2 => .object "LikeRecords$Row"
  | 3 => .int
  | 4 => .int
  | 5 => .int
  | _ => .int
abbrev wsX30 : List Cond := u_ws RX3 TX3 7
theorem nmX3 : ∀ a, a < 7 → ∀ b, b < 7 → a ≠ b → (TX3 a).2.1 ≠ (TX3 b).2.1 := by decide +kernel
theorem tyX3_ok : ∀ k, k < 7 → parseFieldDescriptor (TX3 k).2.2.1 = some (tyX3 k) := by decide +kernel
abbrev cX3_init : ByteArray := prog_5_method_1_code
def yX3_init : MethodName := ⟨RX3, "<init>", "()V"⟩
abbrev cX3_begin : ByteArray := prog_5_method_2_code
def yX3_begin : MethodName := ⟨RX3, "begin", "(I)V"⟩
abbrev cX3_isComplete : ByteArray := prog_5_method_3_code
def yX3_isComplete : MethodName := ⟨RX3, "isComplete", "()Z"⟩
abbrev cX3_take : ByteArray := prog_5_method_4_code
def yX3_take : MethodName := ⟨RX3, "take", "(I)Z"⟩
abbrev cX3_isDigit : ByteArray := prog_5_method_5_code
def yX3_isDigit : MethodName := ⟨RX3, "isDigit", "(I)Z"⟩
abbrev cX3_takeSpace : ByteArray := prog_5_method_6_code
def yX3_takeSpace : MethodName := ⟨RX3, "takeSpace", "()V"⟩
abbrev cX3_takeOpening : ByteArray := prog_5_method_7_code
def yX3_takeOpening : MethodName := ⟨RX3, "takeOpening", "(II)Z"⟩
abbrev cX3_takeClosing : ByteArray := prog_5_method_8_code
def yX3_takeClosing : MethodName := ⟨RX3, "takeClosing", "()Z"⟩
abbrev cX3_takeLetter : ByteArray := prog_5_method_9_code
def yX3_takeLetter : MethodName := ⟨RX3, "takeLetter", "(I)Z"⟩
abbrev cX3_takeColon : ByteArray := prog_5_method_10_code
def yX3_takeColon : MethodName := ⟨RX3, "takeColon", "(I)Z"⟩
abbrev cX3_takeFirstDigit : ByteArray := prog_5_method_11_code
def yX3_takeFirstDigit : MethodName := ⟨RX3, "takeFirstDigit", "(I)Z"⟩
abbrev cX3_takeNextDigit : ByteArray := prog_5_method_12_code
def yX3_takeNextDigit : MethodName := ⟨RX3, "takeNextDigit", "(I)Z"⟩
abbrev cX3_takeFieldEnd : ByteArray := prog_5_method_13_code
def yX3_takeFieldEnd : MethodName := ⟨RX3, "takeFieldEnd", "(I)Z"⟩
def RX4 : String := "LikeRecords$Row"
def TX4 : u_T := fun k => match k with
  | 0 => ("LikeRecords$Row", "cells", "[I", true)
  | _ => ("LikeRecords$Row", "size", "I", false)
def tyX4 : Nat → FieldType := fun k => match k with
  | 0 => .array .int
  | _ => .int
abbrev wsX40 : List Cond := u_ws RX4 TX4 2
theorem nmX4 : ∀ a, a < 2 → ∀ b, b < 2 → a ≠ b → (TX4 a).2.1 ≠ (TX4 b).2.1 := by decide +kernel
theorem tyX4_ok : ∀ k, k < 2 → parseFieldDescriptor (TX4 k).2.2.1 = some (tyX4 k) := by decide +kernel
abbrev cX4_init : ByteArray := prog_6_method_1_code
def yX4_init : MethodName := ⟨RX4, "<init>", "(I)V"⟩
abbrev cX4_size : ByteArray := prog_6_method_2_code
def yX4_size : MethodName := ⟨RX4, "size", "()I"⟩
abbrev cX4_at : ByteArray := prog_6_method_3_code
def yX4_at : MethodName := ⟨RX4, "at", "(I)I"⟩
abbrev cX4_put : ByteArray := prog_6_method_4_code
def yX4_put : MethodName := ⟨RX4, "put", "(II)V"⟩
abbrev cX4_add : ByteArray := prog_6_method_5_code
def yX4_add : MethodName := ⟨RX4, "add", "(I)V"⟩
abbrev cX4_cutTo : ByteArray := prog_6_method_6_code
def yX4_cutTo : MethodName := ⟨RX4, "cutTo", "(I)V"⟩
abbrev cX4_copyFrom : ByteArray := prog_6_method_7_code
def yX4_copyFrom : MethodName := ⟨RX4, "copyFrom", "(LLikeRecords$Row;)V"⟩
def RX5 : String := "LikeRecords$Shapes"
def TX5 : u_T := fun k => match k with
  | 0 => ("LikeRecords$Shapes", "forms", "[LLikeRecords$Form;", true)
  | _ => ("LikeRecords$Shapes", "empty", "LLikeRecords$Form;", true)
def tyX5 : Nat → FieldType := fun k => match k with
  | 0 => .array (.object "LikeRecords$Form")
  | _ => .object "LikeRecords$Form"
abbrev wsX50 : List Cond := u_ws RX5 TX5 2
theorem nmX5 : ∀ a, a < 2 → ∀ b, b < 2 → a ≠ b → (TX5 a).2.1 ≠ (TX5 b).2.1 := by decide +kernel
theorem tyX5_ok : ∀ k, k < 2 → parseFieldDescriptor (TX5 k).2.2.1 = some (tyX5 k) := by decide +kernel
abbrev cX5_init : ByteArray := prog_7_method_1_code
def yX5_init : MethodName := ⟨RX5, "<init>", "()V"⟩
abbrev cX5_formAt : ByteArray := prog_7_method_2_code
def yX5_formAt : MethodName := ⟨RX5, "formAt", "(I)LLikeRecords$Form;"⟩
abbrev cX5_numberFor : ByteArray := prog_7_method_3_code
def yX5_numberFor : MethodName := ⟨RX5, "numberFor", "(LLikeRecords$Form;I)I"⟩
abbrev cX5_keep : ByteArray := prog_7_method_4_code
def yX5_keep : MethodName := ⟨RX5, "keep", "(ILLikeRecords$Form;)V"⟩
def RX6 : String := "LikeRecords$State"
def TX6 : u_T := fun k => match k with
  | 0 => ("LikeRecords$State", "shapesOfRecords", "LLikeRecords$Row;", true)
  | 1 => ("LikeRecords$State", "values", "LLikeRecords$Row;", true)
  | 2 => ("LikeRecords$State", "pathsKnown", "I", false)
  | 3 => ("LikeRecords$State", "shapesKnown", "I", false)
  | _ => ("LikeRecords$State", "bound", "I", false)
def tyX6 : Nat → FieldType := fun k => match k with
  | 0 => .object "LikeRecords$Row"
  | 1 => .object "LikeRecords$Row"
  | 2 => .int
  | 3 => .int
  | _ => .int
abbrev wsX60 : List Cond := u_ws RX6 TX6 5
theorem nmX6 : ∀ a, a < 5 → ∀ b, b < 5 → a ≠ b → (TX6 a).2.1 ≠ (TX6 b).2.1 := by decide +kernel
theorem tyX6_ok : ∀ k, k < 5 → parseFieldDescriptor (TX6 k).2.2.1 = some (tyX6 k) := by decide +kernel
abbrev cX6_init : ByteArray := prog_8_method_1_code
def yX6_init : MethodName := ⟨RX6, "<init>", "()V"⟩
abbrev cX6_copyFrom : ByteArray := prog_8_method_2_code
def yX6_copyFrom : MethodName := ⟨RX6, "copyFrom", "(LLikeRecords$State;)V"⟩
abbrev cX6_addRecord : ByteArray := prog_8_method_3_code
def yX6_addRecord : MethodName := ⟨RX6, "addRecord", "(ILLikeRecords$Row;)I"⟩
abbrev cX6_shapeOf : ByteArray := prog_8_method_4_code
def yX6_shapeOf : MethodName := ⟨RX6, "shapeOf", "(I)I"⟩
abbrev cX6_setShapeOf : ByteArray := prog_8_method_5_code
def yX6_setShapeOf : MethodName := ⟨RX6, "setShapeOf", "(II)V"⟩
abbrev cX6_has : ByteArray := prog_8_method_6_code
def yX6_has : MethodName := ⟨RX6, "has", "(I)Z"⟩
abbrev cX6_recordsRead : ByteArray := prog_8_method_7_code
def yX6_recordsRead : MethodName := ⟨RX6, "recordsRead", "()I"⟩
abbrev cX6_recordsLeft : ByteArray := prog_8_method_8_code
def yX6_recordsLeft : MethodName := ⟨RX6, "recordsLeft", "()I"⟩
abbrev cX6_recordsWith : ByteArray := prog_8_method_9_code
def yX6_recordsWith : MethodName := ⟨RX6, "recordsWith", "(I)I"⟩
abbrev cX6_recordWith : ByteArray := prog_8_method_10_code
def yX6_recordWith : MethodName := ⟨RX6, "recordWith", "(II)I"⟩
abbrev cX6_valueAt : ByteArray := prog_8_method_11_code
def yX6_valueAt : MethodName := ⟨RX6, "valueAt", "(II)I"⟩
abbrev cX6_setValue : ByteArray := prog_8_method_12_code
def yX6_setValue : MethodName := ⟨RX6, "setValue", "(III)V"⟩
def RX7 : String := "LikeRecords"
def TX7 : u_T := fun k => match k with
  | 0 => ("LikeRecords", "text", "LLikeRecords$Row;", true)
  | 1 => ("LikeRecords", "line", "LLikeRecords$Row;", true)
  | 2 => ("LikeRecords", "reading", "LLikeRecords$Reading;", true)
  | 3 => ("LikeRecords", "paths", "LLikeRecords$Paths;", true)
  | 4 => ("LikeRecords", "shapes", "LLikeRecords$Shapes;", true)
  | 5 => ("LikeRecords", "remainder", "LLikeRecords$Form;", true)
  | 6 => ("LikeRecords", "state", "LLikeRecords$State;", true)
  | _ => ("LikeRecords", "history", "LLikeRecords$History;", true)
def tyX7 : Nat → FieldType := fun k => match k with
  | 0 => .object "LikeRecords$Row"
  | 1 => .object "LikeRecords$Row"
  | 2 => .object "LikeRecords$Reading"
  | 3 => .object "LikeRecords$Paths"
  | 4 => .object "LikeRecords$Shapes"
  | 5 => .object "LikeRecords$Form"
  | 6 => .object "LikeRecords$State"
  | _ => .object "LikeRecords$History"
abbrev wsX70 : List Cond := u_ws RX7 TX7 8
theorem nmX7 : ∀ a, a < 8 → ∀ b, b < 8 → a ≠ b → (TX7 a).2.1 ≠ (TX7 b).2.1 := by decide +kernel
theorem tyX7_ok : ∀ k, k < 8 → parseFieldDescriptor (TX7 k).2.2.1 = some (tyX7 k) := by decide +kernel
abbrev cX7_init : ByteArray := prog_1_method_1_code
def yX7_init : MethodName := ⟨RX7, "<init>", "()V"⟩
abbrev cX7_append : ByteArray := prog_1_method_2_code
def yX7_append : MethodName := ⟨RX7, "append", "(I)I"⟩
abbrev cX7_clearText : ByteArray := prog_1_method_3_code
def yX7_clearText : MethodName := ⟨RX7, "clearText", "()I"⟩
abbrev cX7_read : ByteArray := prog_1_method_4_code
def yX7_read : MethodName := ⟨RX7, "read", "()I"⟩
abbrev cX7_discard : ByteArray := prog_1_method_5_code
def yX7_discard : MethodName := ⟨RX7, "discard", "(I)I"⟩
abbrev cX7_change : ByteArray := prog_1_method_6_code
def yX7_change : MethodName := ⟨RX7, "change", "(III)I"⟩
abbrev cX7_drop : ByteArray := prog_1_method_7_code
def yX7_drop : MethodName := ⟨RX7, "drop", "(II)I"⟩
abbrev cX7_setBound : ByteArray := prog_1_method_8_code
def yX7_setBound : MethodName := ⟨RX7, "setBound", "(I)I"⟩
abbrev cX7_undo : ByteArray := prog_1_method_9_code
def yX7_undo : MethodName := ⟨RX7, "undo", "()I"⟩
abbrev cX7_count : ByteArray := prog_1_method_10_code
def yX7_count : MethodName := ⟨RX7, "count", "(I)I"⟩
abbrev cX7_record : ByteArray := prog_1_method_11_code
def yX7_record : MethodName := ⟨RX7, "record", "(II)I"⟩
abbrev cX7_character : ByteArray := prog_1_method_12_code
def yX7_character : MethodName := ⟨RX7, "character", "(II)I"⟩
abbrev cX7_value : ByteArray := prog_1_method_13_code
def yX7_value : MethodName := ⟨RX7, "value", "(II)I"⟩
abbrev cX7_path : ByteArray := prog_1_method_14_code
def yX7_path : MethodName := ⟨RX7, "path", "(II)I"⟩
abbrev cX7_shape : ByteArray := prog_1_method_15_code
def yX7_shape : MethodName := ⟨RX7, "shape", "(II)I"⟩
abbrev cX7_column : ByteArray := prog_1_method_16_code
def yX7_column : MethodName := ⟨RX7, "column", "(III)I"⟩
abbrev cX7_field : ByteArray := prog_1_method_17_code
def yX7_field : MethodName := ⟨RX7, "field", "(II)I"⟩
abbrev cX7_sizeWith : ByteArray := prog_1_method_18_code
def yX7_sizeWith : MethodName := ⟨RX7, "sizeWith", "(I)I"⟩
abbrev cX7_bestBound : ByteArray := prog_1_method_19_code
def yX7_bestBound : MethodName := ⟨RX7, "bestBound", "()I"⟩
abbrev cX7_like : ByteArray := prog_1_method_20_code
def yX7_like : MethodName := ⟨RX7, "like", "(I)I"⟩
abbrev cX7_isPath : ByteArray := prog_1_method_21_code
def yX7_isPath : MethodName := ⟨RX7, "isPath", "(I)Z"⟩
abbrev cX7_isShape : ByteArray := prog_1_method_22_code
def yX7_isShape : MethodName := ⟨RX7, "isShape", "(I)Z"⟩
abbrev cX7_isBound : ByteArray := prog_1_method_23_code
def yX7_isBound : MethodName := ⟨RX7, "isBound", "(I)Z"⟩
abbrev cX7_isCommon : ByteArray := prog_1_method_24_code
def yX7_isCommon : MethodName := ⟨RX7, "isCommon", "(I)Z"⟩
abbrev cX7_formOf : ByteArray := prog_1_method_25_code
def yX7_formOf : MethodName := ⟨RX7, "formOf", "(I)LLikeRecords$Form;"⟩
abbrev cX7_takeText : ByteArray := prog_1_method_26_code
def yX7_takeText : MethodName := ⟨RX7, "takeText", "()I"⟩
abbrev cX7_learnShape : ByteArray := prog_1_method_27_code
def yX7_learnShape : MethodName := ⟨RX7, "learnShape", "(ILLikeRecords$Form;)V"⟩
abbrev cX7_fillRemainder : ByteArray := prog_1_method_28_code
def yX7_fillRemainder : MethodName := ⟨RX7, "fillRemainder", "(LLikeRecords$Form;I)V"⟩
abbrev cX7_dropValues : ByteArray := prog_1_method_29_code
def yX7_dropValues : MethodName := ⟨RX7, "dropValues", "(ILLikeRecords$Form;I)V"⟩
abbrev cX7_commonShapes : ByteArray := prog_1_method_30_code
def yX7_commonShapes : MethodName := ⟨RX7, "commonShapes", "()I"⟩
abbrev cX7_rareRecords : ByteArray := prog_1_method_31_code
def yX7_rareRecords : MethodName := ⟨RX7, "rareRecords", "()I"⟩
abbrev cX7_sizeFor : ByteArray := prog_1_method_32_code
def yX7_sizeFor : MethodName := ⟨RX7, "sizeFor", "(I)I"⟩
abbrev cX7_costOf : ByteArray := prog_1_method_33_code
def yX7_costOf : MethodName := ⟨RX7, "costOf", "(I)I"⟩
abbrev cX7_recordsHolding : ByteArray := prog_1_method_34_code
def yX7_recordsHolding : MethodName := ⟨RX7, "recordsHolding", "(I)I"⟩
abbrev cX7_sumOfPath : ByteArray := prog_1_method_35_code
def yX7_sumOfPath : MethodName := ⟨RX7, "sumOfPath", "(I)I"⟩
abbrev cX7_sumOfRecord : ByteArray := prog_1_method_36_code
def yX7_sumOfRecord : MethodName := ⟨RX7, "sumOfRecord", "(II)I"⟩
abbrev cX7_writeText : ByteArray := prog_1_method_37_code
def yX7_writeText : MethodName := ⟨RX7, "writeText", "(LLikeRecords$Form;I)I"⟩
abbrev cX7_writeClosings : ByteArray := prog_1_method_38_code
def yX7_writeClosings : MethodName := ⟨RX7, "writeClosings", "(II)I"⟩
abbrev cX7_writeName : ByteArray := prog_1_method_39_code
def yX7_writeName : MethodName := ⟨RX7, "writeName", "(I)V"⟩
abbrev cX7_writeNumber : ByteArray := prog_1_method_40_code
def yX7_writeNumber : MethodName := ⟨RX7, "writeNumber", "(I)V"⟩
def RX8 : String := "LikeRecordsModel"
def TX8 : u_T := fun k => match k with
  | _ => ("", "", "", false)
def tyX8 : Nat → FieldType := fun k => match k with
  | _ => .int
abbrev wsX80 : List Cond := u_ws RX8 TX8 0
theorem nmX8 : ∀ a, a < 0 → ∀ b, b < 0 → a ≠ b → (TX8 a).2.1 ≠ (TX8 b).2.1 := by decide +kernel
theorem tyX8_ok : ∀ k, k < 0 → parseFieldDescriptor (TX8 k).2.2.1 = some (tyX8 k) := by decide +kernel
def RL : String := "LikeRecordsLaw"
abbrev cL_cell : ByteArray := method_2_code
def yL_cell : MethodName := ⟨RL, "cell", "([II)I"⟩
abbrev cL_up : ByteArray := method_3_code
def yL_up : MethodName := ⟨RL, "up", "(II)I"⟩
abbrev cL_mark : ByteArray := method_4_code
def yL_mark : MethodName := ⟨RL, "mark", "(LLikeRecords;)J"⟩
abbrev cL_fails : ByteArray := method_5_code
def yL_fails : MethodName := ⟨RL, "fails", "(LLikeRecords;)Z"⟩
abbrev cL_types : ByteArray := method_6_code
def yL_types : MethodName := ⟨RL, "types", "(LLikeRecords;I[I)V"⟩
abbrev cL_put : ByteArray := method_7_code
def yL_put : MethodName := ⟨RL, "put", "(LLikeRecords;[III)I"⟩
abbrev cL_text : ByteArray := method_8_code
def yL_text : MethodName := ⟨RL, "text", "(LLikeRecords;I)Z"⟩
abbrev cL_shapes : ByteArray := method_9_code
def yL_shapes : MethodName := ⟨RL, "shapes", "(LLikeRecords;)Z"⟩
abbrev cL_leafOf : ByteArray := method_10_code
def yL_leafOf : MethodName := ⟨RL, "leafOf", "(LLikeRecords;II)I"⟩
abbrev cL_paths : ByteArray := method_11_code
def yL_paths : MethodName := ⟨RL, "paths", "(LLikeRecords;I)Z"⟩
abbrev cL_like : ByteArray := method_12_code
def yL_like : MethodName := ⟨RL, "like", "(LLikeRecords;I)Z"⟩
abbrev cL_sound : ByteArray := method_13_code
def yL_sound : MethodName := ⟨RL, "sound", "(LLikeRecords;)Z"⟩
abbrev cL_again : ByteArray := method_14_code
def yL_again : MethodName := ⟨RL, "again", "(LLikeRecords;I)Z"⟩
abbrev cL_acts : ByteArray := method_15_code
def yL_acts : MethodName := ⟨RL, "acts", "(LLikeRecords;I[I)Z"⟩
abbrev cL_law : ByteArray := code
def yL_law : MethodName := ⟨RL, "law", "([I)Z"⟩
abbrev vwCl : List vw_C := [(RX0, TX0, 2), (RX1, TX1, 2), (RX2, TX2, 2), (RX3, TX3, 7), (RX4, TX4, 2), (RX5, TX5, 2), (RX6, TX6, 5), (RX7, TX7, 8)]
