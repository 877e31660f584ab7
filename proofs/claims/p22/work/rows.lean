section
-- ===== PART A: goes FIRST, ahead of the names: the tables' words, and 'selects' of the private methods out of them =====
/-- a private method of a class that the tables say can be made, by its rows of tables_1 -/
def lw_okq (q : MethodName × Nat) : Prop := (q.1.cls ≠ "java/lang/invoke/MethodHandle" ∧ q.1.cls ≠ "java/lang/invoke/VarHandle") ∧ Cond.instantiable q.1.cls q.2 ∈ tables_1 ∧ Cond.privateMethod q.1 ∈ tables_1 ∧ Cond.instanceMethod q.1 ∈ tables_1
theorem lw_p0 : lw_okq (⟨"LikeRecords", "takeText", "()I"⟩, 8) := ⟨⟨by decide +kernel, by decide +kernel⟩, List.mem_of_getElem? (i := 11) (by decide +kernel), List.mem_of_getElem? (i := 207) (by decide +kernel), List.mem_of_getElem? (i := 208) (by decide +kernel)⟩
theorem lw_p1 : lw_okq (⟨"LikeRecords$Reading", "takeSpace", "()V"⟩, 7) := ⟨⟨by decide +kernel, by decide +kernel⟩, List.mem_of_getElem? (i := 36) (by decide +kernel), List.mem_of_getElem? (i := 223) (by decide +kernel), List.mem_of_getElem? (i := 224) (by decide +kernel)⟩
theorem lw_p2 : lw_okq (⟨"LikeRecords$Reading", "takeOpening", "(II)Z"⟩, 7) := ⟨⟨by decide +kernel, by decide +kernel⟩, List.mem_of_getElem? (i := 36) (by decide +kernel), List.mem_of_getElem? (i := 227) (by decide +kernel), List.mem_of_getElem? (i := 228) (by decide +kernel)⟩
theorem lw_p3 : lw_okq (⟨"LikeRecords$Reading", "takeClosing", "()Z"⟩, 7) := ⟨⟨by decide +kernel, by decide +kernel⟩, List.mem_of_getElem? (i := 36) (by decide +kernel), List.mem_of_getElem? (i := 239) (by decide +kernel), List.mem_of_getElem? (i := 240) (by decide +kernel)⟩
theorem lw_p4 : lw_okq (⟨"LikeRecords$Reading", "takeLetter", "(I)Z"⟩, 7) := ⟨⟨by decide +kernel, by decide +kernel⟩, List.mem_of_getElem? (i := 36) (by decide +kernel), List.mem_of_getElem? (i := 248) (by decide +kernel), List.mem_of_getElem? (i := 249) (by decide +kernel)⟩
theorem lw_p5 : lw_okq (⟨"LikeRecords$Reading", "takeColon", "(I)Z"⟩, 7) := ⟨⟨by decide +kernel, by decide +kernel⟩, List.mem_of_getElem? (i := 36) (by decide +kernel), List.mem_of_getElem? (i := 264) (by decide +kernel), List.mem_of_getElem? (i := 265) (by decide +kernel)⟩
theorem lw_p6 : lw_okq (⟨"LikeRecords$Reading", "takeFirstDigit", "(I)Z"⟩, 7) := ⟨⟨by decide +kernel, by decide +kernel⟩, List.mem_of_getElem? (i := 36) (by decide +kernel), List.mem_of_getElem? (i := 271) (by decide +kernel), List.mem_of_getElem? (i := 272) (by decide +kernel)⟩
theorem lw_p7 : lw_okq (⟨"LikeRecords$Reading", "takeNextDigit", "(I)Z"⟩, 7) := ⟨⟨by decide +kernel, by decide +kernel⟩, List.mem_of_getElem? (i := 36) (by decide +kernel), List.mem_of_getElem? (i := 277) (by decide +kernel), List.mem_of_getElem? (i := 278) (by decide +kernel)⟩
theorem lw_p8 : lw_okq (⟨"LikeRecords$Reading", "takeFieldEnd", "(I)Z"⟩, 7) := ⟨⟨by decide +kernel, by decide +kernel⟩, List.mem_of_getElem? (i := 36) (by decide +kernel), List.mem_of_getElem? (i := 286) (by decide +kernel), List.mem_of_getElem? (i := 287) (by decide +kernel)⟩
theorem lw_p9 : lw_okq (⟨"LikeRecords$History", "forgetOldest", "()V"⟩, 2) := ⟨⟨by decide +kernel, by decide +kernel⟩, List.mem_of_getElem? (i := 144) (by decide +kernel), List.mem_of_getElem? (i := 327) (by decide +kernel), List.mem_of_getElem? (i := 328) (by decide +kernel)⟩
theorem lw_p10 : lw_okq (⟨"LikeRecords", "learnShape", "(ILLikeRecords$Form;)V"⟩, 8) := ⟨⟨by decide +kernel, by decide +kernel⟩, List.mem_of_getElem? (i := 11) (by decide +kernel), List.mem_of_getElem? (i := 342) (by decide +kernel), List.mem_of_getElem? (i := 343) (by decide +kernel)⟩
theorem lw_p11 : lw_okq (⟨"LikeRecords", "commonShapes", "()I"⟩, 8) := ⟨⟨by decide +kernel, by decide +kernel⟩, List.mem_of_getElem? (i := 11) (by decide +kernel), List.mem_of_getElem? (i := 386) (by decide +kernel), List.mem_of_getElem? (i := 387) (by decide +kernel)⟩
theorem lw_p12 : lw_okq (⟨"LikeRecords", "isCommon", "(I)Z"⟩, 8) := ⟨⟨by decide +kernel, by decide +kernel⟩, List.mem_of_getElem? (i := 11) (by decide +kernel), List.mem_of_getElem? (i := 390) (by decide +kernel), List.mem_of_getElem? (i := 391) (by decide +kernel)⟩
theorem lw_p13 : lw_okq (⟨"LikeRecords", "rareRecords", "()I"⟩, 8) := ⟨⟨by decide +kernel, by decide +kernel⟩, List.mem_of_getElem? (i := 11) (by decide +kernel), List.mem_of_getElem? (i := 398) (by decide +kernel), List.mem_of_getElem? (i := 399) (by decide +kernel)⟩
theorem lw_p14 : lw_okq (⟨"LikeRecords", "sizeFor", "(I)I"⟩, 8) := ⟨⟨by decide +kernel, by decide +kernel⟩, List.mem_of_getElem? (i := 11) (by decide +kernel), List.mem_of_getElem? (i := 402) (by decide +kernel), List.mem_of_getElem? (i := 403) (by decide +kernel)⟩
theorem lw_p15 : lw_okq (⟨"LikeRecords", "formOf", "(I)LLikeRecords$Form;"⟩, 8) := ⟨⟨by decide +kernel, by decide +kernel⟩, List.mem_of_getElem? (i := 11) (by decide +kernel), List.mem_of_getElem? (i := 441) (by decide +kernel), List.mem_of_getElem? (i := 442) (by decide +kernel)⟩
def lw_privs_1 : List (MethodName × Nat) := [(⟨"LikeRecords", "takeText", "()I"⟩, 8), (⟨"LikeRecords$Reading", "takeSpace", "()V"⟩, 7), (⟨"LikeRecords$Reading", "takeOpening", "(II)Z"⟩, 7), (⟨"LikeRecords$Reading", "takeClosing", "()Z"⟩, 7), (⟨"LikeRecords$Reading", "takeLetter", "(I)Z"⟩, 7), (⟨"LikeRecords$Reading", "takeColon", "(I)Z"⟩, 7), (⟨"LikeRecords$Reading", "takeFirstDigit", "(I)Z"⟩, 7), (⟨"LikeRecords$Reading", "takeNextDigit", "(I)Z"⟩, 7), (⟨"LikeRecords$Reading", "takeFieldEnd", "(I)Z"⟩, 7), (⟨"LikeRecords$History", "forgetOldest", "()V"⟩, 2), (⟨"LikeRecords", "learnShape", "(ILLikeRecords$Form;)V"⟩, 8), (⟨"LikeRecords", "commonShapes", "()I"⟩, 8), (⟨"LikeRecords", "isCommon", "(I)Z"⟩, 8), (⟨"LikeRecords", "rareRecords", "()I"⟩, 8), (⟨"LikeRecords", "sizeFor", "(I)I"⟩, 8), (⟨"LikeRecords", "formOf", "(I)LLikeRecords$Form;"⟩, 8)]
theorem lw_r1 : ∀ q ∈ lw_privs_1, lw_okq q := List.forall_mem_cons.mpr ⟨lw_p0, List.forall_mem_cons.mpr ⟨lw_p1, List.forall_mem_cons.mpr ⟨lw_p2, List.forall_mem_cons.mpr ⟨lw_p3, List.forall_mem_cons.mpr ⟨lw_p4, List.forall_mem_cons.mpr ⟨lw_p5, List.forall_mem_cons.mpr ⟨lw_p6, List.forall_mem_cons.mpr ⟨lw_p7, List.forall_mem_cons.mpr ⟨lw_p8, List.forall_mem_cons.mpr ⟨lw_p9, List.forall_mem_cons.mpr ⟨lw_p10, List.forall_mem_cons.mpr ⟨lw_p11, List.forall_mem_cons.mpr ⟨lw_p12, List.forall_mem_cons.mpr ⟨lw_p13, List.forall_mem_cons.mpr ⟨lw_p14, List.forall_mem_cons.mpr ⟨lw_p15, fun _ h => absurd h List.not_mem_nil⟩⟩⟩⟩⟩⟩⟩⟩⟩⟩⟩⟩⟩⟩⟩⟩
theorem lw_p16 : lw_okq (⟨"LikeRecords", "writeText", "(LLikeRecords$Form;I)I"⟩, 8) := ⟨⟨by decide +kernel, by decide +kernel⟩, List.mem_of_getElem? (i := 11) (by decide +kernel), List.mem_of_getElem? (i := 449) (by decide +kernel), List.mem_of_getElem? (i := 450) (by decide +kernel)⟩
theorem lw_p17 : lw_okq (⟨"LikeRecords", "writeClosings", "(II)I"⟩, 8) := ⟨⟨by decide +kernel, by decide +kernel⟩, List.mem_of_getElem? (i := 11) (by decide +kernel), List.mem_of_getElem? (i := 459) (by decide +kernel), List.mem_of_getElem? (i := 460) (by decide +kernel)⟩
theorem lw_p18 : lw_okq (⟨"LikeRecords", "writeName", "(I)V"⟩, 8) := ⟨⟨by decide +kernel, by decide +kernel⟩, List.mem_of_getElem? (i := 11) (by decide +kernel), List.mem_of_getElem? (i := 463) (by decide +kernel), List.mem_of_getElem? (i := 464) (by decide +kernel)⟩
theorem lw_p19 : lw_okq (⟨"LikeRecords", "writeNumber", "(I)V"⟩, 8) := ⟨⟨by decide +kernel, by decide +kernel⟩, List.mem_of_getElem? (i := 11) (by decide +kernel), List.mem_of_getElem? (i := 479) (by decide +kernel), List.mem_of_getElem? (i := 480) (by decide +kernel)⟩
theorem lw_p20 : lw_okq (⟨"LikeRecords", "sumOfRecord", "(II)I"⟩, 8) := ⟨⟨by decide +kernel, by decide +kernel⟩, List.mem_of_getElem? (i := 11) (by decide +kernel), List.mem_of_getElem? (i := 483) (by decide +kernel), List.mem_of_getElem? (i := 484) (by decide +kernel)⟩
theorem lw_p21 : lw_okq (⟨"LikeRecords", "isPath", "(I)Z"⟩, 8) := ⟨⟨by decide +kernel, by decide +kernel⟩, List.mem_of_getElem? (i := 11) (by decide +kernel), List.mem_of_getElem? (i := 491) (by decide +kernel), List.mem_of_getElem? (i := 492) (by decide +kernel)⟩
theorem lw_p22 : lw_okq (⟨"LikeRecords", "recordsHolding", "(I)I"⟩, 8) := ⟨⟨by decide +kernel, by decide +kernel⟩, List.mem_of_getElem? (i := 11) (by decide +kernel), List.mem_of_getElem? (i := 504) (by decide +kernel), List.mem_of_getElem? (i := 505) (by decide +kernel)⟩
theorem lw_p23 : lw_okq (⟨"LikeRecords", "sumOfPath", "(I)I"⟩, 8) := ⟨⟨by decide +kernel, by decide +kernel⟩, List.mem_of_getElem? (i := 11) (by decide +kernel), List.mem_of_getElem? (i := 509) (by decide +kernel), List.mem_of_getElem? (i := 510) (by decide +kernel)⟩
theorem lw_p24 : lw_okq (⟨"LikeRecords", "costOf", "(I)I"⟩, 8) := ⟨⟨by decide +kernel, by decide +kernel⟩, List.mem_of_getElem? (i := 11) (by decide +kernel), List.mem_of_getElem? (i := 513) (by decide +kernel), List.mem_of_getElem? (i := 514) (by decide +kernel)⟩
theorem lw_p25 : lw_okq (⟨"LikeRecords", "isShape", "(I)Z"⟩, 8) := ⟨⟨by decide +kernel, by decide +kernel⟩, List.mem_of_getElem? (i := 11) (by decide +kernel), List.mem_of_getElem? (i := 521) (by decide +kernel), List.mem_of_getElem? (i := 522) (by decide +kernel)⟩
theorem lw_p26 : lw_okq (⟨"LikeRecords", "fillRemainder", "(LLikeRecords$Form;I)V"⟩, 8) := ⟨⟨by decide +kernel, by decide +kernel⟩, List.mem_of_getElem? (i := 11) (by decide +kernel), List.mem_of_getElem? (i := 555) (by decide +kernel), List.mem_of_getElem? (i := 556) (by decide +kernel)⟩
theorem lw_p27 : lw_okq (⟨"LikeRecords", "dropValues", "(ILLikeRecords$Form;I)V"⟩, 8) := ⟨⟨by decide +kernel, by decide +kernel⟩, List.mem_of_getElem? (i := 11) (by decide +kernel), List.mem_of_getElem? (i := 565) (by decide +kernel), List.mem_of_getElem? (i := 566) (by decide +kernel)⟩
theorem lw_p28 : lw_okq (⟨"LikeRecords", "isBound", "(I)Z"⟩, 8) := ⟨⟨by decide +kernel, by decide +kernel⟩, List.mem_of_getElem? (i := 11) (by decide +kernel), List.mem_of_getElem? (i := 573) (by decide +kernel), List.mem_of_getElem? (i := 574) (by decide +kernel)⟩
def lw_privs_2 : List (MethodName × Nat) := [(⟨"LikeRecords", "writeText", "(LLikeRecords$Form;I)I"⟩, 8), (⟨"LikeRecords", "writeClosings", "(II)I"⟩, 8), (⟨"LikeRecords", "writeName", "(I)V"⟩, 8), (⟨"LikeRecords", "writeNumber", "(I)V"⟩, 8), (⟨"LikeRecords", "sumOfRecord", "(II)I"⟩, 8), (⟨"LikeRecords", "isPath", "(I)Z"⟩, 8), (⟨"LikeRecords", "recordsHolding", "(I)I"⟩, 8), (⟨"LikeRecords", "sumOfPath", "(I)I"⟩, 8), (⟨"LikeRecords", "costOf", "(I)I"⟩, 8), (⟨"LikeRecords", "isShape", "(I)Z"⟩, 8), (⟨"LikeRecords", "fillRemainder", "(LLikeRecords$Form;I)V"⟩, 8), (⟨"LikeRecords", "dropValues", "(ILLikeRecords$Form;I)V"⟩, 8), (⟨"LikeRecords", "isBound", "(I)Z"⟩, 8)]
theorem lw_r2 : ∀ q ∈ lw_privs_2, lw_okq q := List.forall_mem_cons.mpr ⟨lw_p16, List.forall_mem_cons.mpr ⟨lw_p17, List.forall_mem_cons.mpr ⟨lw_p18, List.forall_mem_cons.mpr ⟨lw_p19, List.forall_mem_cons.mpr ⟨lw_p20, List.forall_mem_cons.mpr ⟨lw_p21, List.forall_mem_cons.mpr ⟨lw_p22, List.forall_mem_cons.mpr ⟨lw_p23, List.forall_mem_cons.mpr ⟨lw_p24, List.forall_mem_cons.mpr ⟨lw_p25, List.forall_mem_cons.mpr ⟨lw_p26, List.forall_mem_cons.mpr ⟨lw_p27, List.forall_mem_cons.mpr ⟨lw_p28, fun _ h => absurd h List.not_mem_nil⟩⟩⟩⟩⟩⟩⟩⟩⟩⟩⟩⟩⟩
def lw_privs : List (MethodName × Nat) := lw_privs_1 ++ (lw_privs_2)
def lw_tbl : List Cond := k2_sels lw_privs ++ tables_1
theorem lw_privs_ok : ∀ q ∈ lw_privs, lw_okq q := by
  show ∀ q ∈ lw_privs_1 ++ (lw_privs_2), lw_okq q
  exact List.forall_mem_append.mpr ⟨lw_r1, lw_r2⟩
-- class names, fields, types (printed by the check's program); methods
def RX0 : String := "LikeRecords$Form"
def TX0 : u_T := fun k => match k with
  | 0 => ("LikeRecords$Form", "fields", "LLikeRecords$Row;", true)
  | _ => ("LikeRecords$Form", "leaves", "I", false)
def tyX0 : Nat → FieldType := fun k => match k with
  | 0 => .object "LikeRecords$Row"
  | _ => .int
abbrev wsX00 : List Cond := u_ws RX0 TX0 2
theorem nmX0 : ∀ a, a < 2 → ∀ b, b < 2 → a ≠ b → (TX0 a).2.1 ≠ (TX0 b).2.1 := by decide +kernel
theorem tyX0_ok : ∀ k, k < 2 → parseFieldDescriptor (TX0 k).2.2.1 = some (tyX0 k) := by decide +kernel
abbrev cX0_init : ByteArray := prog_2_method_1_code
def yX0_init : MethodName := ⟨RX0, "<init>", "()V"⟩
abbrev cX0_clear : ByteArray := prog_2_method_2_code
def yX0_clear : MethodName := ⟨RX0, "clear", "()V"⟩
abbrev cX0_add : ByteArray := prog_2_method_3_code
def yX0_add : MethodName := ⟨RX0, "add", "(I)V"⟩
abbrev cX0_copyFrom : ByteArray := prog_2_method_4_code
def yX0_copyFrom : MethodName := ⟨RX0, "copyFrom", "(LLikeRecords$Form;)V"⟩
abbrev cX0_size : ByteArray := prog_2_method_5_code
def yX0_size : MethodName := ⟨RX0, "size", "()I"⟩
abbrev cX0_leaves : ByteArray := prog_2_method_6_code
def yX0_leaves : MethodName := ⟨RX0, "leaves", "()I"⟩
abbrev cX0_branches : ByteArray := prog_2_method_7_code
def yX0_branches : MethodName := ⟨RX0, "branches", "()I"⟩
abbrev cX0_at : ByteArray := prog_2_method_8_code
def yX0_at : MethodName := ⟨RX0, "at", "(I)I"⟩
abbrev cX0_isBranchAt : ByteArray := prog_2_method_9_code
def yX0_isBranchAt : MethodName := ⟨RX0, "isBranchAt", "(I)Z"⟩
abbrev cX0_pathAt : ByteArray := prog_2_method_10_code
def yX0_pathAt : MethodName := ⟨RX0, "pathAt", "(I)I"⟩
abbrev cX0_holds : ByteArray := prog_2_method_11_code
def yX0_holds : MethodName := ⟨RX0, "holds", "(I)Z"⟩
abbrev cX0_leafPlace : ByteArray := prog_2_method_12_code
def yX0_leafPlace : MethodName := ⟨RX0, "leafPlace", "(I)I"⟩
abbrev cX0_isSameAs : ByteArray := prog_2_method_13_code
def yX0_isSameAs : MethodName := ⟨RX0, "isSameAs", "(LLikeRecords$Form;)Z"⟩
abbrev cX0_leavesInCommon : ByteArray := prog_2_method_14_code
def yX0_leavesInCommon : MethodName := ⟨RX0, "leavesInCommon", "(LLikeRecords$Form;)I"⟩
def RX1 : String := "LikeRecords$History"
def TX1 : u_T := fun k => match k with
  | 0 => ("LikeRecords$History", "states", "[LLikeRecords$State;", true)
  | _ => ("LikeRecords$History", "size", "I", false)
def tyX1 : Nat → FieldType := fun k => match k with
  | 0 => .array (.object "LikeRecords$State")
  | _ => .int
abbrev wsX10 : List Cond := u_ws RX1 TX1 2
theorem nmX1 : ∀ a, a < 2 → ∀ b, b < 2 → a ≠ b → (TX1 a).2.1 ≠ (TX1 b).2.1 := by decide +kernel
theorem tyX1_ok : ∀ k, k < 2 → parseFieldDescriptor (TX1 k).2.2.1 = some (tyX1 k) := by decide +kernel
abbrev cX1_init : ByteArray := prog_3_method_1_code
def yX1_init : MethodName := ⟨RX1, "<init>", "()V"⟩
abbrev cX1_size : ByteArray := prog_3_method_2_code
def yX1_size : MethodName := ⟨RX1, "size", "()I"⟩
abbrev cX1_keep : ByteArray := prog_3_method_3_code
def yX1_keep : MethodName := ⟨RX1, "keep", "(LLikeRecords$State;)V"⟩
abbrev cX1_forgetOldest : ByteArray := prog_3_method_4_code
def yX1_forgetOldest : MethodName := ⟨RX1, "forgetOldest", "()V"⟩
abbrev cX1_restore : ByteArray := prog_3_method_5_code
def yX1_restore : MethodName := ⟨RX1, "restore", "(LLikeRecords$State;)V"⟩
def RX2 : String := "LikeRecords$Paths"
def TX2 : u_T := fun k => match k with
  | 0 => ("LikeRecords$Paths", "letters", "LLikeRecords$Row;", true)
  | _ => ("LikeRecords$Paths", "outers", "LLikeRecords$Row;", true)
def tyX2 : Nat → FieldType := fun k => match k with
  | 0 => .object "LikeRecords$Row"
  | _ => .object "LikeRecords$Row"
abbrev wsX20 : List Cond := u_ws RX2 TX2 2
theorem nmX2 : ∀ a, a < 2 → ∀ b, b < 2 → a ≠ b → (TX2 a).2.1 ≠ (TX2 b).2.1 := by decide +kernel
theorem tyX2_ok : ∀ k, k < 2 → parseFieldDescriptor (TX2 k).2.2.1 = some (tyX2 k) := by decide +kernel
abbrev cX2_init : ByteArray := prog_4_method_1_code
def yX2_init : MethodName := ⟨RX2, "<init>", "()V"⟩
abbrev cX2_size : ByteArray := prog_4_method_2_code
def yX2_size : MethodName := ⟨RX2, "size", "()I"⟩
abbrev cX2_cutTo : ByteArray := prog_4_method_3_code
def yX2_cutTo : MethodName := ⟨RX2, "cutTo", "(I)V"⟩
abbrev cX2_letterOf : ByteArray := prog_4_method_4_code
def yX2_letterOf : MethodName := ⟨RX2, "letterOf", "(I)I"⟩
abbrev cX2_outerOf : ByteArray := prog_4_method_5_code
def yX2_outerOf : MethodName := ⟨RX2, "outerOf", "(I)I"⟩
abbrev cX2_findOrAdd : ByteArray := prog_4_method_6_code
def yX2_findOrAdd : MethodName := ⟨RX2, "findOrAdd", "(II)I"⟩
abbrev cX2_isWithin : ByteArray := prog_4_method_7_code
def yX2_isWithin : MethodName := ⟨RX2, "isWithin", "(II)Z"⟩
def RX3 : String := "LikeRecords$Reading"
def TX3 : u_T := fun k => match k with
  | 0 => ("LikeRecords$Reading", "paths", "LLikeRecords$Paths;", true)
  | 1 => ("LikeRecords$Reading", "form", "LLikeRecords$Form;", true)
  | 2 => ("LikeRecords$Reading", "numbers", "LLikeRecords$Row;", true)
  | 3 => ("LikeRecords$Reading", "step", "I", false)
  | 4 => ("LikeRecords$Reading", "level", "I", false)
  | 5 => ("LikeRecords$Reading", "open", "I", false)
  | _ => ("LikeRecords$Reading", "named", "I", false)
def tyX3 : Nat → FieldType := fun k => match k with
  | 0 => .object "LikeRecords$Paths"
  | 1 => .object "LikeRecords$Form"
  | 2 => .object "LikeRecords$Row"
  | 3 => .int
  | 4 => .int
  | 5 => .int
  | _ => .int
abbrev wsX30 : List Cond := u_ws RX3 TX3 7
theorem nmX3 : ∀ a, a < 7 → ∀ b, b < 7 → a ≠ b → (TX3 a).2.1 ≠ (TX3 b).2.1 := by decide +kernel
theorem tyX3_ok : ∀ k, k < 7 → parseFieldDescriptor (TX3 k).2.2.1 = some (tyX3 k) := by decide +kernel
abbrev cX3_init : ByteArray := prog_5_method_1_code
def yX3_init : MethodName := ⟨RX3, "<init>", "()V"⟩
abbrev cX3_begin : ByteArray := prog_5_method_2_code
def yX3_begin : MethodName := ⟨RX3, "begin", "(I)V"⟩
abbrev cX3_isComplete : ByteArray := prog_5_method_3_code
def yX3_isComplete : MethodName := ⟨RX3, "isComplete", "()Z"⟩
abbrev cX3_take : ByteArray := prog_5_method_4_code
def yX3_take : MethodName := ⟨RX3, "take", "(I)Z"⟩
abbrev cX3_isDigit : ByteArray := prog_5_method_5_code
def yX3_isDigit : MethodName := ⟨RX3, "isDigit", "(I)Z"⟩
abbrev cX3_takeSpace : ByteArray := prog_5_method_6_code
def yX3_takeSpace : MethodName := ⟨RX3, "takeSpace", "()V"⟩
abbrev cX3_takeOpening : ByteArray := prog_5_method_7_code
def yX3_takeOpening : MethodName := ⟨RX3, "takeOpening", "(II)Z"⟩
abbrev cX3_takeClosing : ByteArray := prog_5_method_8_code
def yX3_takeClosing : MethodName := ⟨RX3, "takeClosing", "()Z"⟩
abbrev cX3_takeLetter : ByteArray := prog_5_method_9_code
def yX3_takeLetter : MethodName := ⟨RX3, "takeLetter", "(I)Z"⟩
abbrev cX3_takeColon : ByteArray := prog_5_method_10_code
def yX3_takeColon : MethodName := ⟨RX3, "takeColon", "(I)Z"⟩
abbrev cX3_takeFirstDigit : ByteArray := prog_5_method_11_code
def yX3_takeFirstDigit : MethodName := ⟨RX3, "takeFirstDigit", "(I)Z"⟩
abbrev cX3_takeNextDigit : ByteArray := prog_5_method_12_code
def yX3_takeNextDigit : MethodName := ⟨RX3, "takeNextDigit", "(I)Z"⟩
abbrev cX3_takeFieldEnd : ByteArray := prog_5_method_13_code
def yX3_takeFieldEnd : MethodName := ⟨RX3, "takeFieldEnd", "(I)Z"⟩
def RX4 : String := "LikeRecords$Row"
def TX4 : u_T := fun k => match k with
  | 0 => ("LikeRecords$Row", "cells", "[I", true)
  | _ => ("LikeRecords$Row", "size", "I", false)
def tyX4 : Nat → FieldType := fun k => match k with
  | 0 => .array .int
  | _ => .int
abbrev wsX40 : List Cond := u_ws RX4 TX4 2
theorem nmX4 : ∀ a, a < 2 → ∀ b, b < 2 → a ≠ b → (TX4 a).2.1 ≠ (TX4 b).2.1 := by decide +kernel
theorem tyX4_ok : ∀ k, k < 2 → parseFieldDescriptor (TX4 k).2.2.1 = some (tyX4 k) := by decide +kernel
abbrev cX4_init : ByteArray := prog_6_method_1_code
def yX4_init : MethodName := ⟨RX4, "<init>", "(I)V"⟩
abbrev cX4_size : ByteArray := prog_6_method_2_code
def yX4_size : MethodName := ⟨RX4, "size", "()I"⟩
abbrev cX4_at : ByteArray := prog_6_method_3_code
def yX4_at : MethodName := ⟨RX4, "at", "(I)I"⟩
abbrev cX4_put : ByteArray := prog_6_method_4_code
def yX4_put : MethodName := ⟨RX4, "put", "(II)V"⟩
abbrev cX4_add : ByteArray := prog_6_method_5_code
def yX4_add : MethodName := ⟨RX4, "add", "(I)V"⟩
abbrev cX4_cutTo : ByteArray := prog_6_method_6_code
def yX4_cutTo : MethodName := ⟨RX4, "cutTo", "(I)V"⟩
abbrev cX4_copyFrom : ByteArray := prog_6_method_7_code
def yX4_copyFrom : MethodName := ⟨RX4, "copyFrom", "(LLikeRecords$Row;)V"⟩
def RX5 : String := "LikeRecords$Shapes"
def TX5 : u_T := fun k => match k with
  | 0 => ("LikeRecords$Shapes", "forms", "[LLikeRecords$Form;", true)
  | _ => ("LikeRecords$Shapes", "empty", "LLikeRecords$Form;", true)
def tyX5 : Nat → FieldType := fun k => match k with
  | 0 => .array (.object "LikeRecords$Form")
  | _ => .object "LikeRecords$Form"
abbrev wsX50 : List Cond := u_ws RX5 TX5 2
theorem nmX5 : ∀ a, a < 2 → ∀ b, b < 2 → a ≠ b → (TX5 a).2.1 ≠ (TX5 b).2.1 := by decide +kernel
theorem tyX5_ok : ∀ k, k < 2 → parseFieldDescriptor (TX5 k).2.2.1 = some (tyX5 k) := by decide +kernel
abbrev cX5_init : ByteArray := prog_7_method_1_code
def yX5_init : MethodName := ⟨RX5, "<init>", "()V"⟩
abbrev cX5_formAt : ByteArray := prog_7_method_2_code
def yX5_formAt : MethodName := ⟨RX5, "formAt", "(I)LLikeRecords$Form;"⟩
abbrev cX5_numberFor : ByteArray := prog_7_method_3_code
def yX5_numberFor : MethodName := ⟨RX5, "numberFor", "(LLikeRecords$Form;I)I"⟩
abbrev cX5_keep : ByteArray := prog_7_method_4_code
def yX5_keep : MethodName := ⟨RX5, "keep", "(ILLikeRecords$Form;)V"⟩
def RX6 : String := "LikeRecords$State"
def TX6 : u_T := fun k => match k with
  | 0 => ("LikeRecords$State", "shapesOfRecords", "LLikeRecords$Row;", true)
  | 1 => ("LikeRecords$State", "values", "LLikeRecords$Row;", true)
  | 2 => ("LikeRecords$State", "pathsKnown", "I", false)
  | 3 => ("LikeRecords$State", "shapesKnown", "I", false)
  | _ => ("LikeRecords$State", "bound", "I", false)
def tyX6 : Nat → FieldType := fun k => match k with
  | 0 => .object "LikeRecords$Row"
  | 1 => .object "LikeRecords$Row"
  | 2 => .int
  | 3 => .int
  | _ => .int
abbrev wsX60 : List Cond := u_ws RX6 TX6 5
theorem nmX6 : ∀ a, a < 5 → ∀ b, b < 5 → a ≠ b → (TX6 a).2.1 ≠ (TX6 b).2.1 := by decide +kernel
theorem tyX6_ok : ∀ k, k < 5 → parseFieldDescriptor (TX6 k).2.2.1 = some (tyX6 k) := by decide +kernel
abbrev cX6_init : ByteArray := prog_8_method_1_code
def yX6_init : MethodName := ⟨RX6, "<init>", "()V"⟩
abbrev cX6_copyFrom : ByteArray := prog_8_method_2_code
def yX6_copyFrom : MethodName := ⟨RX6, "copyFrom", "(LLikeRecords$State;)V"⟩
abbrev cX6_addRecord : ByteArray := prog_8_method_3_code
def yX6_addRecord : MethodName := ⟨RX6, "addRecord", "(ILLikeRecords$Row;)I"⟩
abbrev cX6_shapeOf : ByteArray := prog_8_method_4_code
def yX6_shapeOf : MethodName := ⟨RX6, "shapeOf", "(I)I"⟩
abbrev cX6_setShapeOf : ByteArray := prog_8_method_5_code
def yX6_setShapeOf : MethodName := ⟨RX6, "setShapeOf", "(II)V"⟩
abbrev cX6_has : ByteArray := prog_8_method_6_code
def yX6_has : MethodName := ⟨RX6, "has", "(I)Z"⟩
abbrev cX6_recordsRead : ByteArray := prog_8_method_7_code
def yX6_recordsRead : MethodName := ⟨RX6, "recordsRead", "()I"⟩
abbrev cX6_recordsLeft : ByteArray := prog_8_method_8_code
def yX6_recordsLeft : MethodName := ⟨RX6, "recordsLeft", "()I"⟩
abbrev cX6_recordsWith : ByteArray := prog_8_method_9_code
def yX6_recordsWith : MethodName := ⟨RX6, "recordsWith", "(I)I"⟩
abbrev cX6_recordWith : ByteArray := prog_8_method_10_code
def yX6_recordWith : MethodName := ⟨RX6, "recordWith", "(II)I"⟩
abbrev cX6_valueAt : ByteArray := prog_8_method_11_code
def yX6_valueAt : MethodName := ⟨RX6, "valueAt", "(II)I"⟩
abbrev cX6_setValue : ByteArray := prog_8_method_12_code
def yX6_setValue : MethodName := ⟨RX6, "setValue", "(III)V"⟩
def RX7 : String := "LikeRecords"
def TX7 : u_T := fun k => match k with
  | 0 => ("LikeRecords", "text", "LLikeRecords$Row;", true)
  | 1 => ("LikeRecords", "line", "LLikeRecords$Row;", true)
  | 2 => ("LikeRecords", "reading", "LLikeRecords$Reading;", true)
  | 3 => ("LikeRecords", "paths", "LLikeRecords$Paths;", true)
  | 4 => ("LikeRecords", "shapes", "LLikeRecords$Shapes;", true)
  | 5 => ("LikeRecords", "remainder", "LLikeRecords$Form;", true)
  | 6 => ("LikeRecords", "state", "LLikeRecords$State;", true)
  | _ => ("LikeRecords", "history", "LLikeRecords$History;", true)
def tyX7 : Nat → FieldType := fun k => match k with
  | 0 => .object "LikeRecords$Row"
  | 1 => .object "LikeRecords$Row"
  | 2 => .object "LikeRecords$Reading"
  | 3 => .object "LikeRecords$Paths"
  | 4 => .object "LikeRecords$Shapes"
  | 5 => .object "LikeRecords$Form"
  | 6 => .object "LikeRecords$State"
  | _ => .object "LikeRecords$History"
abbrev wsX70 : List Cond := u_ws RX7 TX7 8
theorem nmX7 : ∀ a, a < 8 → ∀ b, b < 8 → a ≠ b → (TX7 a).2.1 ≠ (TX7 b).2.1 := by decide +kernel
theorem tyX7_ok : ∀ k, k < 8 → parseFieldDescriptor (TX7 k).2.2.1 = some (tyX7 k) := by decide +kernel
abbrev cX7_init : ByteArray := prog_1_method_1_code
def yX7_init : MethodName := ⟨RX7, "<init>", "()V"⟩
abbrev cX7_append : ByteArray := prog_1_method_2_code
def yX7_append : MethodName := ⟨RX7, "append", "(I)I"⟩
abbrev cX7_clearText : ByteArray := prog_1_method_3_code
def yX7_clearText : MethodName := ⟨RX7, "clearText", "()I"⟩
abbrev cX7_read : ByteArray := prog_1_method_4_code
def yX7_read : MethodName := ⟨RX7, "read", "()I"⟩
abbrev cX7_discard : ByteArray := prog_1_method_5_code
def yX7_discard : MethodName := ⟨RX7, "discard", "(I)I"⟩
abbrev cX7_change : ByteArray := prog_1_method_6_code
def yX7_change : MethodName := ⟨RX7, "change", "(III)I"⟩
abbrev cX7_drop : ByteArray := prog_1_method_7_code
def yX7_drop : MethodName := ⟨RX7, "drop", "(II)I"⟩
abbrev cX7_setBound : ByteArray := prog_1_method_8_code
def yX7_setBound : MethodName := ⟨RX7, "setBound", "(I)I"⟩
abbrev cX7_undo : ByteArray := prog_1_method_9_code
def yX7_undo : MethodName := ⟨RX7, "undo", "()I"⟩
abbrev cX7_count : ByteArray := prog_1_method_10_code
def yX7_count : MethodName := ⟨RX7, "count", "(I)I"⟩
abbrev cX7_record : ByteArray := prog_1_method_11_code
def yX7_record : MethodName := ⟨RX7, "record", "(II)I"⟩
abbrev cX7_character : ByteArray := prog_1_method_12_code
def yX7_character : MethodName := ⟨RX7, "character", "(II)I"⟩
abbrev cX7_value : ByteArray := prog_1_method_13_code
def yX7_value : MethodName := ⟨RX7, "value", "(II)I"⟩
abbrev cX7_path : ByteArray := prog_1_method_14_code
def yX7_path : MethodName := ⟨RX7, "path", "(II)I"⟩
abbrev cX7_shape : ByteArray := prog_1_method_15_code
def yX7_shape : MethodName := ⟨RX7, "shape", "(II)I"⟩
abbrev cX7_column : ByteArray := prog_1_method_16_code
def yX7_column : MethodName := ⟨RX7, "column", "(III)I"⟩
abbrev cX7_field : ByteArray := prog_1_method_17_code
def yX7_field : MethodName := ⟨RX7, "field", "(II)I"⟩
abbrev cX7_sizeWith : ByteArray := prog_1_method_18_code
def yX7_sizeWith : MethodName := ⟨RX7, "sizeWith", "(I)I"⟩
abbrev cX7_bestBound : ByteArray := prog_1_method_19_code
def yX7_bestBound : MethodName := ⟨RX7, "bestBound", "()I"⟩
abbrev cX7_like : ByteArray := prog_1_method_20_code
def yX7_like : MethodName := ⟨RX7, "like", "(I)I"⟩
abbrev cX7_isPath : ByteArray := prog_1_method_21_code
def yX7_isPath : MethodName := ⟨RX7, "isPath", "(I)Z"⟩
abbrev cX7_isShape : ByteArray := prog_1_method_22_code
def yX7_isShape : MethodName := ⟨RX7, "isShape", "(I)Z"⟩
abbrev cX7_isBound : ByteArray := prog_1_method_23_code
def yX7_isBound : MethodName := ⟨RX7, "isBound", "(I)Z"⟩
abbrev cX7_isCommon : ByteArray := prog_1_method_24_code
def yX7_isCommon : MethodName := ⟨RX7, "isCommon", "(I)Z"⟩
abbrev cX7_formOf : ByteArray := prog_1_method_25_code
def yX7_formOf : MethodName := ⟨RX7, "formOf", "(I)LLikeRecords$Form;"⟩
abbrev cX7_takeText : ByteArray := prog_1_method_26_code
def yX7_takeText : MethodName := ⟨RX7, "takeText", "()I"⟩
abbrev cX7_learnShape : ByteArray := prog_1_method_27_code
def yX7_learnShape : MethodName := ⟨RX7, "learnShape", "(ILLikeRecords$Form;)V"⟩
abbrev cX7_fillRemainder : ByteArray := prog_1_method_28_code
def yX7_fillRemainder : MethodName := ⟨RX7, "fillRemainder", "(LLikeRecords$Form;I)V"⟩
abbrev cX7_dropValues : ByteArray := prog_1_method_29_code
def yX7_dropValues : MethodName := ⟨RX7, "dropValues", "(ILLikeRecords$Form;I)V"⟩
abbrev cX7_commonShapes : ByteArray := prog_1_method_30_code
def yX7_commonShapes : MethodName := ⟨RX7, "commonShapes", "()I"⟩
abbrev cX7_rareRecords : ByteArray := prog_1_method_31_code
def yX7_rareRecords : MethodName := ⟨RX7, "rareRecords", "()I"⟩
abbrev cX7_sizeFor : ByteArray := prog_1_method_32_code
def yX7_sizeFor : MethodName := ⟨RX7, "sizeFor", "(I)I"⟩
abbrev cX7_costOf : ByteArray := prog_1_method_33_code
def yX7_costOf : MethodName := ⟨RX7, "costOf", "(I)I"⟩
abbrev cX7_recordsHolding : ByteArray := prog_1_method_34_code
def yX7_recordsHolding : MethodName := ⟨RX7, "recordsHolding", "(I)I"⟩
abbrev cX7_sumOfPath : ByteArray := prog_1_method_35_code
def yX7_sumOfPath : MethodName := ⟨RX7, "sumOfPath", "(I)I"⟩
abbrev cX7_sumOfRecord : ByteArray := prog_1_method_36_code
def yX7_sumOfRecord : MethodName := ⟨RX7, "sumOfRecord", "(II)I"⟩
abbrev cX7_writeText : ByteArray := prog_1_method_37_code
def yX7_writeText : MethodName := ⟨RX7, "writeText", "(LLikeRecords$Form;I)I"⟩
abbrev cX7_writeClosings : ByteArray := prog_1_method_38_code
def yX7_writeClosings : MethodName := ⟨RX7, "writeClosings", "(II)I"⟩
abbrev cX7_writeName : ByteArray := prog_1_method_39_code
def yX7_writeName : MethodName := ⟨RX7, "writeName", "(I)V"⟩
abbrev cX7_writeNumber : ByteArray := prog_1_method_40_code
def yX7_writeNumber : MethodName := ⟨RX7, "writeNumber", "(I)V"⟩
def RX8 : String := "LikeRecordsModel"
def TX8 : u_T := fun k => match k with
  | _ => ("", "", "", false)
def tyX8 : Nat → FieldType := fun k => match k with
  | _ => .int
abbrev wsX80 : List Cond := u_ws RX8 TX8 0
theorem nmX8 : ∀ a, a < 0 → ∀ b, b < 0 → a ≠ b → (TX8 a).2.1 ≠ (TX8 b).2.1 := by decide +kernel
theorem tyX8_ok : ∀ k, k < 0 → parseFieldDescriptor (TX8 k).2.2.1 = some (tyX8 k) := by decide +kernel
def RL : String := "LikeRecordsLaw"
abbrev cL_cell : ByteArray := method_2_code
def yL_cell : MethodName := ⟨RL, "cell", "([II)I"⟩
abbrev cL_up : ByteArray := method_3_code
def yL_up : MethodName := ⟨RL, "up", "(II)I"⟩
abbrev cL_mark : ByteArray := method_4_code
def yL_mark : MethodName := ⟨RL, "mark", "(LLikeRecords;)J"⟩
abbrev cL_fails : ByteArray := method_5_code
def yL_fails : MethodName := ⟨RL, "fails", "(LLikeRecords;)Z"⟩
abbrev cL_types : ByteArray := method_6_code
def yL_types : MethodName := ⟨RL, "types", "(LLikeRecords;I[I)V"⟩
abbrev cL_put : ByteArray := method_7_code
def yL_put : MethodName := ⟨RL, "put", "(LLikeRecords;[III)I"⟩
abbrev cL_text : ByteArray := method_8_code
def yL_text : MethodName := ⟨RL, "text", "(LLikeRecords;I)Z"⟩
abbrev cL_shapes : ByteArray := method_9_code
def yL_shapes : MethodName := ⟨RL, "shapes", "(LLikeRecords;)Z"⟩
abbrev cL_leafOf : ByteArray := method_10_code
def yL_leafOf : MethodName := ⟨RL, "leafOf", "(LLikeRecords;II)I"⟩
abbrev cL_paths : ByteArray := method_11_code
def yL_paths : MethodName := ⟨RL, "paths", "(LLikeRecords;I)Z"⟩
abbrev cL_like : ByteArray := method_12_code
def yL_like : MethodName := ⟨RL, "like", "(LLikeRecords;I)Z"⟩
abbrev cL_sound : ByteArray := method_13_code
def yL_sound : MethodName := ⟨RL, "sound", "(LLikeRecords;)Z"⟩
abbrev cL_again : ByteArray := method_14_code
def yL_again : MethodName := ⟨RL, "again", "(LLikeRecords;I)Z"⟩
abbrev cL_acts : ByteArray := method_15_code
def yL_acts : MethodName := ⟨RL, "acts", "(LLikeRecords;I[I)Z"⟩
abbrev cL_law : ByteArray := code
def yL_law : MethodName := ⟨RL, "law", "([I)Z"⟩
abbrev vwCl : List vw_C := [(RX0, TX0, 2), (RX1, TX1, 2), (RX2, TX2, 2), (RX3, TX3, 7), (RX4, TX4, 2), (RX5, TX5, 2), (RX6, TX6, 5), (RX7, TX7, 8)]
end
section
-- the code of the methods, for the abstract machine (by wip/whole/gen.py out of javap's listing)
abbrev qX : Type := Nat × Int × Nat × List Nat × Nat
abbrev m_Form_init : Nat := 0
abbrev m_Form_clear : Nat := 1
abbrev m_Form_add : Nat := 2
abbrev m_Form_copyFrom : Nat := 3
abbrev m_Form_size : Nat := 4
abbrev m_Form_leaves : Nat := 5
abbrev m_Form_branches : Nat := 6
abbrev m_Form_at : Nat := 7
abbrev m_Form_isBranchAt : Nat := 8
abbrev m_Form_pathAt : Nat := 9
abbrev m_Form_holds : Nat := 10
abbrev m_Form_leafPlace : Nat := 11
abbrev m_Form_isSameAs : Nat := 12
abbrev m_Form_leavesInCommon : Nat := 13
abbrev m_Hist_init : Nat := 14
abbrev m_Hist_size : Nat := 15
abbrev m_Hist_keep : Nat := 16
abbrev m_Hist_forgetOldest : Nat := 17
abbrev m_Hist_restore : Nat := 18
abbrev m_Paths_init : Nat := 19
abbrev m_Paths_size : Nat := 20
abbrev m_Paths_cutTo : Nat := 21
abbrev m_Paths_letterOf : Nat := 22
abbrev m_Paths_outerOf : Nat := 23
abbrev m_Paths_findOrAdd : Nat := 24
abbrev m_Paths_isWithin : Nat := 25
abbrev m_Rdg_init : Nat := 26
abbrev m_Rdg_begin : Nat := 27
abbrev m_Rdg_isComplete : Nat := 28
abbrev m_Rdg_take : Nat := 29
abbrev m_Rdg_isDigit : Nat := 30
abbrev m_Rdg_takeSpace : Nat := 31
abbrev m_Rdg_takeOpening : Nat := 32
abbrev m_Rdg_takeClosing : Nat := 33
abbrev m_Rdg_takeLetter : Nat := 34
abbrev m_Rdg_takeColon : Nat := 35
abbrev m_Rdg_takeFirstDigit : Nat := 36
abbrev m_Rdg_takeNextDigit : Nat := 37
abbrev m_Rdg_takeFieldEnd : Nat := 38
abbrev m_Row_init : Nat := 39
abbrev m_Row_size : Nat := 40
abbrev m_Row_at : Nat := 41
abbrev m_Row_put : Nat := 42
abbrev m_Row_add : Nat := 43
abbrev m_Row_cutTo : Nat := 44
abbrev m_Row_copyFrom : Nat := 45
abbrev m_Shs_init : Nat := 46
abbrev m_Shs_formAt : Nat := 47
abbrev m_Shs_numberFor : Nat := 48
abbrev m_Shs_keep : Nat := 49
abbrev m_State_init : Nat := 50
abbrev m_State_copyFrom : Nat := 51
abbrev m_State_addRecord : Nat := 52
abbrev m_State_shapeOf : Nat := 53
abbrev m_State_setShapeOf : Nat := 54
abbrev m_State_has : Nat := 55
abbrev m_State_recordsRead : Nat := 56
abbrev m_State_recordsLeft : Nat := 57
abbrev m_State_recordsWith : Nat := 58
abbrev m_State_recordWith : Nat := 59
abbrev m_State_valueAt : Nat := 60
abbrev m_State_setValue : Nat := 61
abbrev m_LR_init : Nat := 62
abbrev m_LR_append : Nat := 63
abbrev m_LR_clearText : Nat := 64
abbrev m_LR_read : Nat := 65
abbrev m_LR_discard : Nat := 66
abbrev m_LR_change : Nat := 67
abbrev m_LR_drop : Nat := 68
abbrev m_LR_setBound : Nat := 69
abbrev m_LR_undo : Nat := 70
abbrev m_LR_count : Nat := 71
abbrev m_LR_record : Nat := 72
abbrev m_LR_character : Nat := 73
abbrev m_LR_value : Nat := 74
abbrev m_LR_path : Nat := 75
abbrev m_LR_shape : Nat := 76
abbrev m_LR_column : Nat := 77
abbrev m_LR_field : Nat := 78
abbrev m_LR_sizeWith : Nat := 79
abbrev m_LR_bestBound : Nat := 80
abbrev m_LR_like : Nat := 81
abbrev m_LR_isPath : Nat := 82
abbrev m_LR_isShape : Nat := 83
abbrev m_LR_isBound : Nat := 84
abbrev m_LR_isCommon : Nat := 85
abbrev m_LR_formOf : Nat := 86
abbrev m_LR_takeText : Nat := 87
abbrev m_LR_learnShape : Nat := 88
abbrev m_LR_fillRemainder : Nat := 89
abbrev m_LR_dropValues : Nat := 90
abbrev m_LR_commonShapes : Nat := 91
abbrev m_LR_rareRecords : Nat := 92
abbrev m_LR_sizeFor : Nat := 93
abbrev m_LR_costOf : Nat := 94
abbrev m_LR_recordsHolding : Nat := 95
abbrev m_LR_sumOfPath : Nat := 96
abbrev m_LR_sumOfRecord : Nat := 97
abbrev m_LR_writeText : Nat := 98
abbrev m_LR_writeClosings : Nat := 99
abbrev m_LR_writeName : Nat := 100
abbrev m_LR_writeNumber : Nat := 101
abbrev m_Lw_up : Nat := 102
abbrev m_Lw_mark : Nat := 103
abbrev m_Lw_fails : Nat := 104
abbrev m_Lw_types : Nat := 105
abbrev m_Lw_put : Nat := 106
abbrev m_Lw_text : Nat := 107
abbrev m_Lw_shapes : Nat := 108
abbrev m_Lw_leafOf : Nat := 109
abbrev m_Lw_paths : Nat := 110
abbrev m_Lw_like : Nat := 111
abbrev m_Lw_sound : Nat := 112
abbrev m_Lw_again : Nat := 113
abbrev m_Lw_acts : Nat := 114
def qc0 (pc : Nat) : Option qX := cond (Nat.ble pc 22) (cond (Nat.ble pc 9) (cond (Nat.ble pc 4) (cond (Nat.ble pc 0) (cond (Nat.beq pc 0) (some (2, 0, 0, [], 1)) none) (cond (Nat.ble pc 1) (cond (Nat.beq pc 1) (some (34, 0, 3, [], 4)) none) (cond (Nat.beq pc 4) (some (2, 0, 0, [], 5)) none))) (cond (Nat.ble pc 5) (cond (Nat.beq pc 5) (some (32, 0, 9, [4], 8)) none) (cond (Nat.ble pc 8) (cond (Nat.beq pc 8) (some (12, 0, 0, [], 9)) none) (cond (Nat.beq pc 9) (some (0, 26, 0, [], 11)) none)))) (cond (Nat.ble pc 17) (cond (Nat.ble pc 11) (cond (Nat.beq pc 11) (some (40, 11, 39, [], 14)) none) (cond (Nat.ble pc 14) (cond (Nat.beq pc 14) (some (24, 0, 14, [0], 17)) none) (cond (Nat.beq pc 17) (some (2, 0, 0, [], 18)) none))) (cond (Nat.ble pc 18) (cond (Nat.beq pc 18) (some (0, 0, 0, [], 19)) none) (cond (Nat.ble pc 19) (cond (Nat.beq pc 19) (some (23, 1, 20, [0], 22)) none) (cond (Nat.beq pc 22) (some (44, 0, 0, [], 23)) none))))) none
def qc1 (pc : Nat) : Option qX := cond (Nat.ble pc 13) (cond (Nat.ble pc 5) (cond (Nat.ble pc 1) (cond (Nat.ble pc 0) (cond (Nat.beq pc 0) (some (2, 0, 0, [], 1)) none) (cond (Nat.beq pc 1) (some (22, 0, 14, [0], 4)) none)) (cond (Nat.ble pc 4) (cond (Nat.beq pc 4) (some (0, 0, 0, [], 5)) none) (cond (Nat.beq pc 5) (some (40, 24, 44, [], 8)) none))) (cond (Nat.ble pc 9) (cond (Nat.ble pc 8) (cond (Nat.beq pc 8) (some (2, 0, 0, [], 9)) none) (cond (Nat.beq pc 9) (some (0, 0, 0, [], 10)) none)) (cond (Nat.ble pc 10) (cond (Nat.beq pc 10) (some (23, 1, 20, [0], 13)) none) (cond (Nat.beq pc 13) (some (44, 0, 0, [], 14)) none)))) none
def qc2 (pc : Nat) : Option qX := cond (Nat.ble pc 24) (cond (Nat.ble pc 11) (cond (Nat.ble pc 4) (cond (Nat.ble pc 0) (cond (Nat.beq pc 0) (some (2, 0, 0, [], 1)) none) (cond (Nat.ble pc 1) (cond (Nat.beq pc 1) (some (22, 0, 14, [0], 4)) none) (cond (Nat.beq pc 4) (some (1, 0, 1, [], 5)) none))) (cond (Nat.ble pc 8) (cond (Nat.ble pc 5) (cond (Nat.beq pc 5) (some (40, 27, 43, [], 8)) none) (cond (Nat.beq pc 8) (some (1, 0, 1, [], 9)) none)) (cond (Nat.ble pc 9) (cond (Nat.beq pc 9) (some (0, 100, 0, [], 11)) none) (cond (Nat.beq pc 11) (some (16, 3, 24, [], 14)) none)))) (cond (Nat.ble pc 16) (cond (Nat.ble pc 14) (cond (Nat.beq pc 14) (some (2, 0, 0, [], 15)) none) (cond (Nat.ble pc 15) (cond (Nat.beq pc 15) (some (12, 0, 0, [], 16)) none) (cond (Nat.beq pc 16) (some (21, 1, 20, [0], 19)) none))) (cond (Nat.ble pc 20) (cond (Nat.ble pc 19) (cond (Nat.beq pc 19) (some (0, 1, 0, [], 20)) none) (cond (Nat.beq pc 20) (some (6, 0, 0, [], 21)) none)) (cond (Nat.ble pc 21) (cond (Nat.beq pc 21) (some (23, 1, 20, [0], 24)) none) (cond (Nat.beq pc 24) (some (44, 0, 0, [], 25)) none))))) none
def qc3 (pc : Nat) : Option qX := cond (Nat.ble pc 19) (cond (Nat.ble pc 8) (cond (Nat.ble pc 1) (cond (Nat.ble pc 0) (cond (Nat.beq pc 0) (some (2, 0, 0, [], 1)) none) (cond (Nat.beq pc 1) (some (22, 0, 14, [0], 4)) none)) (cond (Nat.ble pc 4) (cond (Nat.beq pc 4) (some (2, 0, 1, [], 5)) none) (cond (Nat.ble pc 5) (cond (Nat.beq pc 5) (some (22, 0, 14, [0], 8)) none) (cond (Nat.beq pc 8) (some (40, 30, 45, [], 11)) none)))) (cond (Nat.ble pc 12) (cond (Nat.ble pc 11) (cond (Nat.beq pc 11) (some (2, 0, 0, [], 12)) none) (cond (Nat.beq pc 12) (some (2, 0, 1, [], 13)) none)) (cond (Nat.ble pc 13) (cond (Nat.beq pc 13) (some (21, 1, 20, [0], 16)) none) (cond (Nat.ble pc 16) (cond (Nat.beq pc 16) (some (23, 1, 20, [0], 19)) none) (cond (Nat.beq pc 19) (some (44, 0, 0, [], 20)) none))))) none
def qc4 (pc : Nat) : Option qX := cond (Nat.ble pc 7) (cond (Nat.ble pc 1) (cond (Nat.ble pc 0) (cond (Nat.beq pc 0) (some (2, 0, 0, [], 1)) none) (cond (Nat.beq pc 1) (some (22, 0, 14, [0], 4)) none)) (cond (Nat.ble pc 4) (cond (Nat.beq pc 4) (some (40, 34, 40, [], 7)) none) (cond (Nat.beq pc 7) (some (41, 0, 0, [], 8)) none))) none
def qc5 (pc : Nat) : Option qX := cond (Nat.ble pc 4) (cond (Nat.ble pc 0) (cond (Nat.beq pc 0) (some (2, 0, 0, [], 1)) none) (cond (Nat.ble pc 1) (cond (Nat.beq pc 1) (some (21, 1, 20, [0], 4)) none) (cond (Nat.beq pc 4) (some (41, 0, 0, [], 5)) none))) none
def qc6 (pc : Nat) : Option qX := cond (Nat.ble pc 12) (cond (Nat.ble pc 4) (cond (Nat.ble pc 0) (cond (Nat.beq pc 0) (some (2, 0, 0, [], 1)) none) (cond (Nat.ble pc 1) (cond (Nat.beq pc 1) (some (22, 0, 14, [0], 4)) none) (cond (Nat.beq pc 4) (some (40, 34, 40, [], 7)) none))) (cond (Nat.ble pc 8) (cond (Nat.ble pc 7) (cond (Nat.beq pc 7) (some (2, 0, 0, [], 8)) none) (cond (Nat.beq pc 8) (some (21, 1, 20, [0], 11)) none)) (cond (Nat.ble pc 11) (cond (Nat.beq pc 11) (some (7, 0, 0, [], 12)) none) (cond (Nat.beq pc 12) (some (41, 0, 0, [], 13)) none)))) none
def qc7 (pc : Nat) : Option qX := cond (Nat.ble pc 8) (cond (Nat.ble pc 1) (cond (Nat.ble pc 0) (cond (Nat.beq pc 0) (some (2, 0, 0, [], 1)) none) (cond (Nat.beq pc 1) (some (22, 0, 14, [0], 4)) none)) (cond (Nat.ble pc 4) (cond (Nat.beq pc 4) (some (1, 0, 1, [], 5)) none) (cond (Nat.ble pc 5) (cond (Nat.beq pc 5) (some (40, 38, 41, [], 8)) none) (cond (Nat.beq pc 8) (some (41, 0, 0, [], 9)) none)))) none
def qc8 (pc : Nat) : Option qX := cond (Nat.ble pc 18) (cond (Nat.ble pc 8) (cond (Nat.ble pc 1) (cond (Nat.ble pc 0) (cond (Nat.beq pc 0) (some (2, 0, 0, [], 1)) none) (cond (Nat.beq pc 1) (some (22, 0, 14, [0], 4)) none)) (cond (Nat.ble pc 4) (cond (Nat.beq pc 4) (some (1, 0, 1, [], 5)) none) (cond (Nat.ble pc 5) (cond (Nat.beq pc 5) (some (40, 38, 41, [], 8)) none) (cond (Nat.beq pc 8) (some (0, 100, 0, [], 10)) none)))) (cond (Nat.ble pc 13) (cond (Nat.ble pc 10) (cond (Nat.beq pc 10) (some (16, 2, 17, [], 13)) none) (cond (Nat.beq pc 13) (some (0, 1, 0, [], 14)) none)) (cond (Nat.ble pc 14) (cond (Nat.beq pc 14) (some (15, 0, 18, [], 17)) none) (cond (Nat.ble pc 17) (cond (Nat.beq pc 17) (some (0, 0, 0, [], 18)) none) (cond (Nat.beq pc 18) (some (42, 0, 0, [], 19)) none))))) none
def qc9 (pc : Nat) : Option qX := cond (Nat.ble pc 23) (cond (Nat.ble pc 10) (cond (Nat.ble pc 4) (cond (Nat.ble pc 0) (cond (Nat.beq pc 0) (some (2, 0, 0, [], 1)) none) (cond (Nat.ble pc 1) (cond (Nat.beq pc 1) (some (22, 0, 14, [0], 4)) none) (cond (Nat.beq pc 4) (some (1, 0, 1, [], 5)) none))) (cond (Nat.ble pc 8) (cond (Nat.ble pc 5) (cond (Nat.beq pc 5) (some (40, 38, 41, [], 8)) none) (cond (Nat.beq pc 8) (some (3, 0, 2, [], 9)) none)) (cond (Nat.ble pc 9) (cond (Nat.beq pc 9) (some (1, 0, 2, [], 10)) none) (cond (Nat.beq pc 10) (some (0, 100, 0, [], 12)) none)))) (cond (Nat.ble pc 16) (cond (Nat.ble pc 12) (cond (Nat.beq pc 12) (some (16, 2, 22, [], 15)) none) (cond (Nat.ble pc 15) (cond (Nat.beq pc 15) (some (1, 0, 2, [], 16)) none) (cond (Nat.beq pc 16) (some (0, 100, 0, [], 18)) none))) (cond (Nat.ble pc 19) (cond (Nat.ble pc 18) (cond (Nat.beq pc 18) (some (7, 0, 0, [], 19)) none) (cond (Nat.beq pc 19) (some (15, 0, 23, [], 22)) none)) (cond (Nat.ble pc 22) (cond (Nat.beq pc 22) (some (1, 0, 2, [], 23)) none) (cond (Nat.beq pc 23) (some (41, 0, 0, [], 24)) none))))) none
def qc10 (pc : Nat) : Option qX := cond (Nat.ble pc 34) (cond (Nat.ble pc 14) (cond (Nat.ble pc 3) (cond (Nat.ble pc 1) (cond (Nat.ble pc 0) (cond (Nat.beq pc 0) (some (0, 0, 0, [], 1)) none) (cond (Nat.beq pc 1) (some (3, 0, 2, [], 2)) none)) (cond (Nat.ble pc 2) (cond (Nat.beq pc 2) (some (1, 0, 2, [], 3)) none) (cond (Nat.beq pc 3) (some (2, 0, 0, [], 4)) none))) (cond (Nat.ble pc 7) (cond (Nat.ble pc 4) (cond (Nat.beq pc 4) (some (22, 0, 14, [0], 7)) none) (cond (Nat.beq pc 7) (some (40, 34, 40, [], 10)) none)) (cond (Nat.ble pc 10) (cond (Nat.beq pc 10) (some (16, 3, 33, [], 13)) none) (cond (Nat.ble pc 13) (cond (Nat.beq pc 13) (some (2, 0, 0, [], 14)) none) (cond (Nat.beq pc 14) (some (22, 0, 14, [0], 17)) none))))) (cond (Nat.ble pc 25) (cond (Nat.ble pc 18) (cond (Nat.ble pc 17) (cond (Nat.beq pc 17) (some (1, 0, 2, [], 18)) none) (cond (Nat.beq pc 18) (some (40, 38, 41, [], 21)) none)) (cond (Nat.ble pc 21) (cond (Nat.beq pc 21) (some (1, 0, 1, [], 22)) none) (cond (Nat.ble pc 22) (cond (Nat.beq pc 22) (some (16, 1, 27, [], 25)) none) (cond (Nat.beq pc 25) (some (0, 1, 0, [], 26)) none)))) (cond (Nat.ble pc 27) (cond (Nat.ble pc 26) (cond (Nat.beq pc 26) (some (42, 0, 0, [], 27)) none) (cond (Nat.beq pc 27) (some (5, 1, 2, [], 30)) none)) (cond (Nat.ble pc 30) (cond (Nat.beq pc 30) (some (15, 0, 2, [], 33)) none) (cond (Nat.ble pc 33) (cond (Nat.beq pc 33) (some (0, 0, 0, [], 34)) none) (cond (Nat.beq pc 34) (some (42, 0, 0, [], 35)) none)))))) none
def qc11 (pc : Nat) : Option qX := cond (Nat.ble pc 48) (cond (Nat.ble pc 20) (cond (Nat.ble pc 5) (cond (Nat.ble pc 2) (cond (Nat.ble pc 0) (cond (Nat.beq pc 0) (some (0, 0, 0, [], 1)) none) (cond (Nat.ble pc 1) (cond (Nat.beq pc 1) (some (3, 0, 2, [], 2)) none) (cond (Nat.beq pc 2) (some (0, 0, 0, [], 3)) none))) (cond (Nat.ble pc 3) (cond (Nat.beq pc 3) (some (3, 0, 3, [], 4)) none) (cond (Nat.ble pc 4) (cond (Nat.beq pc 4) (some (1, 0, 3, [], 5)) none) (cond (Nat.beq pc 5) (some (2, 0, 0, [], 6)) none)))) (cond (Nat.ble pc 12) (cond (Nat.ble pc 6) (cond (Nat.beq pc 6) (some (22, 0, 14, [0], 9)) none) (cond (Nat.ble pc 9) (cond (Nat.beq pc 9) (some (40, 34, 40, [], 12)) none) (cond (Nat.beq pc 12) (some (16, 3, 46, [], 15)) none))) (cond (Nat.ble pc 16) (cond (Nat.ble pc 15) (cond (Nat.beq pc 15) (some (2, 0, 0, [], 16)) none) (cond (Nat.beq pc 16) (some (22, 0, 14, [0], 19)) none)) (cond (Nat.ble pc 19) (cond (Nat.beq pc 19) (some (1, 0, 3, [], 20)) none) (cond (Nat.beq pc 20) (some (40, 38, 41, [], 23)) none))))) (cond (Nat.ble pc 30) (cond (Nat.ble pc 27) (cond (Nat.ble pc 23) (cond (Nat.beq pc 23) (some (1, 0, 1, [], 24)) none) (cond (Nat.ble pc 24) (cond (Nat.beq pc 24) (some (16, 1, 29, [], 27)) none) (cond (Nat.beq pc 27) (some (1, 0, 2, [], 28)) none))) (cond (Nat.ble pc 28) (cond (Nat.beq pc 28) (some (41, 0, 0, [], 29)) none) (cond (Nat.ble pc 29) (cond (Nat.beq pc 29) (some (2, 0, 0, [], 30)) none) (cond (Nat.beq pc 30) (some (1, 0, 3, [], 31)) none)))) (cond (Nat.ble pc 37) (cond (Nat.ble pc 31) (cond (Nat.beq pc 31) (some (40, 42, 8, [], 34)) none) (cond (Nat.ble pc 34) (cond (Nat.beq pc 34) (some (17, 1, 40, [], 37)) none) (cond (Nat.beq pc 37) (some (5, 1, 2, [], 40)) none))) (cond (Nat.ble pc 43) (cond (Nat.ble pc 40) (cond (Nat.beq pc 40) (some (5, 1, 3, [], 43)) none) (cond (Nat.beq pc 43) (some (15, 0, 4, [], 46)) none)) (cond (Nat.ble pc 46) (cond (Nat.beq pc 46) (some (0, (-9), 0, [], 48)) none) (cond (Nat.beq pc 48) (some (41, 0, 0, [], 49)) none)))))) none
def qc12 (pc : Nat) : Option qX := cond (Nat.ble pc 54) (cond (Nat.ble pc 23) (cond (Nat.ble pc 14) (cond (Nat.ble pc 4) (cond (Nat.ble pc 0) (cond (Nat.beq pc 0) (some (2, 0, 0, [], 1)) none) (cond (Nat.ble pc 1) (cond (Nat.beq pc 1) (some (22, 0, 14, [0], 4)) none) (cond (Nat.beq pc 4) (some (40, 34, 40, [], 7)) none))) (cond (Nat.ble pc 8) (cond (Nat.ble pc 7) (cond (Nat.beq pc 7) (some (2, 0, 1, [], 8)) none) (cond (Nat.beq pc 8) (some (40, 46, 4, [], 11)) none)) (cond (Nat.ble pc 11) (cond (Nat.beq pc 11) (some (16, 0, 16, [], 14)) none) (cond (Nat.beq pc 14) (some (0, 0, 0, [], 15)) none)))) (cond (Nat.ble pc 17) (cond (Nat.ble pc 15) (cond (Nat.beq pc 15) (some (42, 0, 0, [], 16)) none) (cond (Nat.ble pc 16) (cond (Nat.beq pc 16) (some (0, 0, 0, [], 17)) none) (cond (Nat.beq pc 17) (some (3, 0, 2, [], 18)) none))) (cond (Nat.ble pc 19) (cond (Nat.ble pc 18) (cond (Nat.beq pc 18) (some (1, 0, 2, [], 19)) none) (cond (Nat.beq pc 19) (some (2, 0, 0, [], 20)) none)) (cond (Nat.ble pc 20) (cond (Nat.beq pc 20) (some (22, 0, 14, [0], 23)) none) (cond (Nat.beq pc 23) (some (40, 34, 40, [], 26)) none))))) (cond (Nat.ble pc 38) (cond (Nat.ble pc 30) (cond (Nat.ble pc 26) (cond (Nat.beq pc 26) (some (16, 3, 53, [], 29)) none) (cond (Nat.ble pc 29) (cond (Nat.beq pc 29) (some (2, 0, 0, [], 30)) none) (cond (Nat.beq pc 30) (some (22, 0, 14, [0], 33)) none))) (cond (Nat.ble pc 34) (cond (Nat.ble pc 33) (cond (Nat.beq pc 33) (some (1, 0, 2, [], 34)) none) (cond (Nat.beq pc 34) (some (40, 38, 41, [], 37)) none)) (cond (Nat.ble pc 37) (cond (Nat.beq pc 37) (some (2, 0, 1, [], 38)) none) (cond (Nat.beq pc 38) (some (1, 0, 2, [], 39)) none)))) (cond (Nat.ble pc 46) (cond (Nat.ble pc 42) (cond (Nat.ble pc 39) (cond (Nat.beq pc 39) (some (40, 47, 7, [], 42)) none) (cond (Nat.beq pc 42) (some (16, 0, 47, [], 45)) none)) (cond (Nat.ble pc 45) (cond (Nat.beq pc 45) (some (0, 0, 0, [], 46)) none) (cond (Nat.beq pc 46) (some (42, 0, 0, [], 47)) none))) (cond (Nat.ble pc 50) (cond (Nat.ble pc 47) (cond (Nat.beq pc 47) (some (5, 1, 2, [], 50)) none) (cond (Nat.beq pc 50) (some (15, 0, 18, [], 53)) none)) (cond (Nat.ble pc 53) (cond (Nat.beq pc 53) (some (0, 1, 0, [], 54)) none) (cond (Nat.beq pc 54) (some (42, 0, 0, [], 55)) none)))))) none
def qc13 (pc : Nat) : Option qX := cond (Nat.ble pc 48) (cond (Nat.ble pc 17) (cond (Nat.ble pc 5) (cond (Nat.ble pc 2) (cond (Nat.ble pc 0) (cond (Nat.beq pc 0) (some (0, 0, 0, [], 1)) none) (cond (Nat.ble pc 1) (cond (Nat.beq pc 1) (some (3, 0, 2, [], 2)) none) (cond (Nat.beq pc 2) (some (0, 0, 0, [], 3)) none))) (cond (Nat.ble pc 3) (cond (Nat.beq pc 3) (some (3, 0, 3, [], 4)) none) (cond (Nat.ble pc 4) (cond (Nat.beq pc 4) (some (1, 0, 3, [], 5)) none) (cond (Nat.beq pc 5) (some (2, 0, 0, [], 6)) none)))) (cond (Nat.ble pc 12) (cond (Nat.ble pc 6) (cond (Nat.beq pc 6) (some (22, 0, 14, [0], 9)) none) (cond (Nat.ble pc 9) (cond (Nat.beq pc 9) (some (40, 34, 40, [], 12)) none) (cond (Nat.beq pc 12) (some (16, 3, 47, [], 15)) none))) (cond (Nat.ble pc 15) (cond (Nat.beq pc 15) (some (2, 0, 0, [], 16)) none) (cond (Nat.ble pc 16) (cond (Nat.beq pc 16) (some (1, 0, 3, [], 17)) none) (cond (Nat.beq pc 17) (some (40, 42, 8, [], 20)) none))))) (cond (Nat.ble pc 29) (cond (Nat.ble pc 24) (cond (Nat.ble pc 20) (cond (Nat.beq pc 20) (some (17, 1, 41, [], 23)) none) (cond (Nat.ble pc 23) (cond (Nat.beq pc 23) (some (2, 0, 1, [], 24)) none) (cond (Nat.beq pc 24) (some (2, 0, 0, [], 25)) none))) (cond (Nat.ble pc 25) (cond (Nat.beq pc 25) (some (22, 0, 14, [0], 28)) none) (cond (Nat.ble pc 28) (cond (Nat.beq pc 28) (some (1, 0, 3, [], 29)) none) (cond (Nat.beq pc 29) (some (40, 38, 41, [], 32)) none)))) (cond (Nat.ble pc 38) (cond (Nat.ble pc 32) (cond (Nat.beq pc 32) (some (40, 48, 10, [], 35)) none) (cond (Nat.ble pc 35) (cond (Nat.beq pc 35) (some (17, 0, 41, [], 38)) none) (cond (Nat.beq pc 38) (some (5, 1, 2, [], 41)) none))) (cond (Nat.ble pc 44) (cond (Nat.ble pc 41) (cond (Nat.beq pc 41) (some (5, 1, 3, [], 44)) none) (cond (Nat.beq pc 44) (some (15, 0, 4, [], 47)) none)) (cond (Nat.ble pc 47) (cond (Nat.beq pc 47) (some (1, 0, 2, [], 48)) none) (cond (Nat.beq pc 48) (some (41, 0, 0, [], 49)) none)))))) none
def qc14 (pc : Nat) : Option qX := cond (Nat.ble pc 47) (cond (Nat.ble pc 20) (cond (Nat.ble pc 9) (cond (Nat.ble pc 4) (cond (Nat.ble pc 0) (cond (Nat.beq pc 0) (some (2, 0, 0, [], 1)) none) (cond (Nat.ble pc 1) (cond (Nat.beq pc 1) (some (34, 0, 3, [], 4)) none) (cond (Nat.beq pc 4) (some (2, 0, 0, [], 5)) none))) (cond (Nat.ble pc 5) (cond (Nat.beq pc 5) (some (0, 5, 0, [], 6)) none) (cond (Nat.ble pc 6) (cond (Nat.beq pc 6) (some (31, 0, 9, [6], 9)) none) (cond (Nat.beq pc 9) (some (24, 0, 11, [1], 12)) none)))) (cond (Nat.ble pc 14) (cond (Nat.ble pc 12) (cond (Nat.beq pc 12) (some (0, 0, 0, [], 13)) none) (cond (Nat.ble pc 13) (cond (Nat.beq pc 13) (some (3, 0, 1, [], 14)) none) (cond (Nat.beq pc 14) (some (1, 0, 1, [], 15)) none))) (cond (Nat.ble pc 16) (cond (Nat.ble pc 15) (cond (Nat.beq pc 15) (some (2, 0, 0, [], 16)) none) (cond (Nat.beq pc 16) (some (22, 0, 11, [1], 19)) none)) (cond (Nat.ble pc 19) (cond (Nat.beq pc 19) (some (29, 0, 0, [], 20)) none) (cond (Nat.beq pc 20) (some (16, 3, 42, [], 23)) none))))) (cond (Nat.ble pc 32) (cond (Nat.ble pc 27) (cond (Nat.ble pc 23) (cond (Nat.beq pc 23) (some (2, 0, 0, [], 24)) none) (cond (Nat.ble pc 24) (cond (Nat.beq pc 24) (some (22, 0, 11, [1], 27)) none) (cond (Nat.beq pc 27) (some (1, 0, 1, [], 28)) none))) (cond (Nat.ble pc 28) (cond (Nat.beq pc 28) (some (32, 0, 9, [6], 31)) none) (cond (Nat.ble pc 31) (cond (Nat.beq pc 31) (some (12, 0, 0, [], 32)) none) (cond (Nat.beq pc 32) (some (40, 17, 50, [], 35)) none)))) (cond (Nat.ble pc 39) (cond (Nat.ble pc 35) (cond (Nat.beq pc 35) (some (28, 0, 0, [], 36)) none) (cond (Nat.ble pc 36) (cond (Nat.beq pc 36) (some (5, 1, 1, [], 39)) none) (cond (Nat.beq pc 39) (some (15, 0, 14, [], 42)) none))) (cond (Nat.ble pc 43) (cond (Nat.ble pc 42) (cond (Nat.beq pc 42) (some (2, 0, 0, [], 43)) none) (cond (Nat.beq pc 43) (some (0, 0, 0, [], 44)) none)) (cond (Nat.ble pc 44) (cond (Nat.beq pc 44) (some (23, 1, 18, [1], 47)) none) (cond (Nat.beq pc 47) (some (44, 0, 0, [], 48)) none)))))) none
def qc15 (pc : Nat) : Option qX := cond (Nat.ble pc 4) (cond (Nat.ble pc 0) (cond (Nat.beq pc 0) (some (2, 0, 0, [], 1)) none) (cond (Nat.ble pc 1) (cond (Nat.beq pc 1) (some (21, 1, 18, [1], 4)) none) (cond (Nat.beq pc 4) (some (41, 0, 0, [], 5)) none))) none
def qc16 (pc : Nat) : Option qX := cond (Nat.ble pc 64) (cond (Nat.ble pc 32) (cond (Nat.ble pc 13) (cond (Nat.ble pc 5) (cond (Nat.ble pc 1) (cond (Nat.ble pc 0) (cond (Nat.beq pc 0) (some (2, 0, 0, [], 1)) none) (cond (Nat.beq pc 1) (some (21, 1, 18, [1], 4)) none)) (cond (Nat.ble pc 4) (cond (Nat.beq pc 4) (some (2, 0, 0, [], 5)) none) (cond (Nat.beq pc 5) (some (22, 0, 11, [1], 8)) none))) (cond (Nat.ble pc 9) (cond (Nat.ble pc 8) (cond (Nat.beq pc 8) (some (29, 0, 0, [], 9)) none) (cond (Nat.beq pc 9) (some (16, 2, 16, [], 12)) none)) (cond (Nat.ble pc 12) (cond (Nat.beq pc 12) (some (2, 0, 0, [], 13)) none) (cond (Nat.beq pc 13) (some (40, 22, 17, [], 16)) none)))) (cond (Nat.ble pc 23) (cond (Nat.ble pc 17) (cond (Nat.ble pc 16) (cond (Nat.beq pc 16) (some (2, 0, 0, [], 17)) none) (cond (Nat.beq pc 17) (some (21, 1, 18, [1], 20)) none)) (cond (Nat.ble pc 20) (cond (Nat.beq pc 20) (some (17, 2, 64, [], 23)) none) (cond (Nat.beq pc 23) (some (2, 0, 0, [], 24)) none))) (cond (Nat.ble pc 27) (cond (Nat.ble pc 24) (cond (Nat.beq pc 24) (some (21, 1, 18, [1], 27)) none) (cond (Nat.beq pc 27) (some (2, 0, 0, [], 28)) none)) (cond (Nat.ble pc 28) (cond (Nat.beq pc 28) (some (22, 0, 11, [1], 31)) none) (cond (Nat.ble pc 31) (cond (Nat.beq pc 31) (some (29, 0, 0, [], 32)) none) (cond (Nat.beq pc 32) (some (16, 3, 64, [], 35)) none)))))) (cond (Nat.ble pc 49) (cond (Nat.ble pc 40) (cond (Nat.ble pc 36) (cond (Nat.ble pc 35) (cond (Nat.beq pc 35) (some (2, 0, 0, [], 36)) none) (cond (Nat.beq pc 36) (some (22, 0, 11, [1], 39)) none)) (cond (Nat.ble pc 39) (cond (Nat.beq pc 39) (some (2, 0, 0, [], 40)) none) (cond (Nat.beq pc 40) (some (21, 1, 18, [1], 43)) none))) (cond (Nat.ble pc 44) (cond (Nat.ble pc 43) (cond (Nat.beq pc 43) (some (27, 0, 0, [], 44)) none) (cond (Nat.beq pc 44) (some (4, 0, 2, [], 45)) none)) (cond (Nat.ble pc 45) (cond (Nat.beq pc 45) (some (2, 0, 2, [], 46)) none) (cond (Nat.ble pc 46) (cond (Nat.beq pc 46) (some (18, 0, 64, [], 49)) none) (cond (Nat.beq pc 49) (some (2, 0, 2, [], 50)) none))))) (cond (Nat.ble pc 55) (cond (Nat.ble pc 51) (cond (Nat.ble pc 50) (cond (Nat.beq pc 50) (some (2, 0, 1, [], 51)) none) (cond (Nat.beq pc 51) (some (40, 25, 51, [], 54)) none)) (cond (Nat.ble pc 54) (cond (Nat.beq pc 54) (some (2, 0, 0, [], 55)) none) (cond (Nat.beq pc 55) (some (12, 0, 0, [], 56)) none))) (cond (Nat.ble pc 59) (cond (Nat.ble pc 56) (cond (Nat.beq pc 56) (some (21, 1, 18, [1], 59)) none) (cond (Nat.beq pc 59) (some (0, 1, 0, [], 60)) none)) (cond (Nat.ble pc 60) (cond (Nat.beq pc 60) (some (6, 0, 0, [], 61)) none) (cond (Nat.ble pc 61) (cond (Nat.beq pc 61) (some (23, 1, 18, [1], 64)) none) (cond (Nat.beq pc 64) (some (44, 0, 0, [], 65)) none))))))) none
def qc17 (pc : Nat) : Option qX := cond (Nat.ble pc 64) (cond (Nat.ble pc 27) (cond (Nat.ble pc 15) (cond (Nat.ble pc 4) (cond (Nat.ble pc 1) (cond (Nat.ble pc 0) (cond (Nat.beq pc 0) (some (0, 1, 0, [], 1)) none) (cond (Nat.beq pc 1) (some (3, 0, 1, [], 2)) none)) (cond (Nat.ble pc 2) (cond (Nat.beq pc 2) (some (1, 0, 1, [], 3)) none) (cond (Nat.ble pc 3) (cond (Nat.beq pc 3) (some (2, 0, 0, [], 4)) none) (cond (Nat.beq pc 4) (some (22, 0, 11, [1], 7)) none)))) (cond (Nat.ble pc 8) (cond (Nat.ble pc 7) (cond (Nat.beq pc 7) (some (29, 0, 0, [], 8)) none) (cond (Nat.beq pc 8) (some (16, 3, 47, [], 11)) none)) (cond (Nat.ble pc 11) (cond (Nat.beq pc 11) (some (2, 0, 0, [], 12)) none) (cond (Nat.ble pc 12) (cond (Nat.beq pc 12) (some (22, 0, 11, [1], 15)) none) (cond (Nat.beq pc 15) (some (1, 0, 1, [], 16)) none))))) (cond (Nat.ble pc 20) (cond (Nat.ble pc 17) (cond (Nat.ble pc 16) (cond (Nat.beq pc 16) (some (0, 1, 0, [], 17)) none) (cond (Nat.beq pc 17) (some (7, 0, 0, [], 18)) none)) (cond (Nat.ble pc 18) (cond (Nat.beq pc 18) (some (27, 0, 0, [], 19)) none) (cond (Nat.ble pc 19) (cond (Nat.beq pc 19) (some (4, 0, 2, [], 20)) none) (cond (Nat.beq pc 20) (some (2, 0, 0, [], 21)) none)))) (cond (Nat.ble pc 24) (cond (Nat.ble pc 21) (cond (Nat.beq pc 21) (some (22, 0, 11, [1], 24)) none) (cond (Nat.beq pc 24) (some (1, 0, 1, [], 25)) none)) (cond (Nat.ble pc 25) (cond (Nat.beq pc 25) (some (0, 1, 0, [], 26)) none) (cond (Nat.ble pc 26) (cond (Nat.beq pc 26) (some (7, 0, 0, [], 27)) none) (cond (Nat.beq pc 27) (some (2, 0, 0, [], 28)) none)))))) (cond (Nat.ble pc 41) (cond (Nat.ble pc 34) (cond (Nat.ble pc 31) (cond (Nat.ble pc 28) (cond (Nat.beq pc 28) (some (22, 0, 11, [1], 31)) none) (cond (Nat.beq pc 31) (some (1, 0, 1, [], 32)) none)) (cond (Nat.ble pc 32) (cond (Nat.beq pc 32) (some (27, 0, 0, [], 33)) none) (cond (Nat.ble pc 33) (cond (Nat.beq pc 33) (some (28, 0, 0, [], 34)) none) (cond (Nat.beq pc 34) (some (2, 0, 0, [], 35)) none)))) (cond (Nat.ble pc 38) (cond (Nat.ble pc 35) (cond (Nat.beq pc 35) (some (22, 0, 11, [1], 38)) none) (cond (Nat.beq pc 38) (some (1, 0, 1, [], 39)) none)) (cond (Nat.ble pc 39) (cond (Nat.beq pc 39) (some (2, 0, 2, [], 40)) none) (cond (Nat.ble pc 40) (cond (Nat.beq pc 40) (some (28, 0, 0, [], 41)) none) (cond (Nat.beq pc 41) (some (5, 1, 1, [], 44)) none))))) (cond (Nat.ble pc 54) (cond (Nat.ble pc 47) (cond (Nat.ble pc 44) (cond (Nat.beq pc 44) (some (15, 0, 2, [], 47)) none) (cond (Nat.beq pc 47) (some (2, 0, 0, [], 48)) none)) (cond (Nat.ble pc 48) (cond (Nat.beq pc 48) (some (21, 1, 18, [1], 51)) none) (cond (Nat.ble pc 51) (cond (Nat.beq pc 51) (some (17, 5, 64, [], 54)) none) (cond (Nat.beq pc 54) (some (2, 0, 0, [], 55)) none)))) (cond (Nat.ble pc 59) (cond (Nat.ble pc 55) (cond (Nat.beq pc 55) (some (12, 0, 0, [], 56)) none) (cond (Nat.ble pc 56) (cond (Nat.beq pc 56) (some (21, 1, 18, [1], 59)) none) (cond (Nat.beq pc 59) (some (0, 1, 0, [], 60)) none))) (cond (Nat.ble pc 60) (cond (Nat.beq pc 60) (some (7, 0, 0, [], 61)) none) (cond (Nat.ble pc 61) (cond (Nat.beq pc 61) (some (23, 1, 18, [1], 64)) none) (cond (Nat.beq pc 64) (some (44, 0, 0, [], 65)) none))))))) none
def qc18 (pc : Nat) : Option qX := cond (Nat.ble pc 50) (cond (Nat.ble pc 27) (cond (Nat.ble pc 12) (cond (Nat.ble pc 4) (cond (Nat.ble pc 0) (cond (Nat.beq pc 0) (some (2, 0, 0, [], 1)) none) (cond (Nat.ble pc 1) (cond (Nat.beq pc 1) (some (21, 1, 18, [1], 4)) none) (cond (Nat.beq pc 4) (some (17, 5, 50, [], 7)) none))) (cond (Nat.ble pc 8) (cond (Nat.ble pc 7) (cond (Nat.beq pc 7) (some (2, 0, 0, [], 8)) none) (cond (Nat.beq pc 8) (some (21, 1, 18, [1], 11)) none)) (cond (Nat.ble pc 11) (cond (Nat.beq pc 11) (some (2, 0, 0, [], 12)) none) (cond (Nat.beq pc 12) (some (22, 0, 11, [1], 15)) none)))) (cond (Nat.ble pc 19) (cond (Nat.ble pc 15) (cond (Nat.beq pc 15) (some (29, 0, 0, [], 16)) none) (cond (Nat.ble pc 16) (cond (Nat.beq pc 16) (some (16, 4, 50, [], 19)) none) (cond (Nat.beq pc 19) (some (2, 0, 0, [], 20)) none))) (cond (Nat.ble pc 23) (cond (Nat.ble pc 20) (cond (Nat.beq pc 20) (some (22, 0, 11, [1], 23)) none) (cond (Nat.beq pc 23) (some (2, 0, 0, [], 24)) none)) (cond (Nat.ble pc 24) (cond (Nat.beq pc 24) (some (21, 1, 18, [1], 27)) none) (cond (Nat.beq pc 27) (some (0, 1, 0, [], 28)) none))))) (cond (Nat.ble pc 36) (cond (Nat.ble pc 30) (cond (Nat.ble pc 28) (cond (Nat.beq pc 28) (some (7, 0, 0, [], 29)) none) (cond (Nat.ble pc 29) (cond (Nat.beq pc 29) (some (27, 0, 0, [], 30)) none) (cond (Nat.beq pc 30) (some (4, 0, 2, [], 31)) none))) (cond (Nat.ble pc 32) (cond (Nat.ble pc 31) (cond (Nat.beq pc 31) (some (2, 0, 2, [], 32)) none) (cond (Nat.beq pc 32) (some (18, 0, 50, [], 35)) none)) (cond (Nat.ble pc 35) (cond (Nat.beq pc 35) (some (2, 0, 1, [], 36)) none) (cond (Nat.beq pc 36) (some (2, 0, 2, [], 37)) none)))) (cond (Nat.ble pc 42) (cond (Nat.ble pc 40) (cond (Nat.ble pc 37) (cond (Nat.beq pc 37) (some (40, 25, 51, [], 40)) none) (cond (Nat.beq pc 40) (some (2, 0, 0, [], 41)) none)) (cond (Nat.ble pc 41) (cond (Nat.beq pc 41) (some (12, 0, 0, [], 42)) none) (cond (Nat.beq pc 42) (some (21, 1, 18, [1], 45)) none))) (cond (Nat.ble pc 46) (cond (Nat.ble pc 45) (cond (Nat.beq pc 45) (some (0, 1, 0, [], 46)) none) (cond (Nat.beq pc 46) (some (7, 0, 0, [], 47)) none)) (cond (Nat.ble pc 47) (cond (Nat.beq pc 47) (some (23, 1, 18, [1], 50)) none) (cond (Nat.beq pc 50) (some (44, 0, 0, [], 51)) none)))))) none
def qc19 (pc : Nat) : Option qX := cond (Nat.ble pc 30) (cond (Nat.ble pc 11) (cond (Nat.ble pc 4) (cond (Nat.ble pc 0) (cond (Nat.beq pc 0) (some (2, 0, 0, [], 1)) none) (cond (Nat.ble pc 1) (cond (Nat.beq pc 1) (some (34, 0, 3, [], 4)) none) (cond (Nat.beq pc 4) (some (2, 0, 0, [], 5)) none))) (cond (Nat.ble pc 8) (cond (Nat.ble pc 5) (cond (Nat.beq pc 5) (some (32, 0, 9, [4], 8)) none) (cond (Nat.beq pc 8) (some (12, 0, 0, [], 9)) none)) (cond (Nat.ble pc 9) (cond (Nat.beq pc 9) (some (0, 86, 0, [], 11)) none) (cond (Nat.beq pc 11) (some (40, 11, 39, [], 14)) none)))) (cond (Nat.ble pc 21) (cond (Nat.ble pc 17) (cond (Nat.ble pc 14) (cond (Nat.beq pc 14) (some (24, 0, 14, [2], 17)) none) (cond (Nat.beq pc 17) (some (2, 0, 0, [], 18)) none)) (cond (Nat.ble pc 18) (cond (Nat.beq pc 18) (some (32, 0, 9, [4], 21)) none) (cond (Nat.beq pc 21) (some (12, 0, 0, [], 22)) none))) (cond (Nat.ble pc 24) (cond (Nat.ble pc 22) (cond (Nat.beq pc 22) (some (0, 86, 0, [], 24)) none) (cond (Nat.beq pc 24) (some (40, 11, 39, [], 27)) none)) (cond (Nat.ble pc 27) (cond (Nat.beq pc 27) (some (24, 1, 20, [2], 30)) none) (cond (Nat.beq pc 30) (some (44, 0, 0, [], 31)) none))))) none
def qc20 (pc : Nat) : Option qX := cond (Nat.ble pc 7) (cond (Nat.ble pc 1) (cond (Nat.ble pc 0) (cond (Nat.beq pc 0) (some (2, 0, 0, [], 1)) none) (cond (Nat.beq pc 1) (some (22, 0, 14, [2], 4)) none)) (cond (Nat.ble pc 4) (cond (Nat.beq pc 4) (some (40, 23, 40, [], 7)) none) (cond (Nat.beq pc 7) (some (41, 0, 0, [], 8)) none))) none
def qc21 (pc : Nat) : Option qX := cond (Nat.ble pc 16) (cond (Nat.ble pc 5) (cond (Nat.ble pc 1) (cond (Nat.ble pc 0) (cond (Nat.beq pc 0) (some (2, 0, 0, [], 1)) none) (cond (Nat.beq pc 1) (some (22, 0, 14, [2], 4)) none)) (cond (Nat.ble pc 4) (cond (Nat.beq pc 4) (some (1, 0, 1, [], 5)) none) (cond (Nat.beq pc 5) (some (40, 27, 44, [], 8)) none))) (cond (Nat.ble pc 9) (cond (Nat.ble pc 8) (cond (Nat.beq pc 8) (some (2, 0, 0, [], 9)) none) (cond (Nat.beq pc 9) (some (22, 1, 20, [2], 12)) none)) (cond (Nat.ble pc 12) (cond (Nat.beq pc 12) (some (1, 0, 1, [], 13)) none) (cond (Nat.ble pc 13) (cond (Nat.beq pc 13) (some (40, 27, 44, [], 16)) none) (cond (Nat.beq pc 16) (some (44, 0, 0, [], 17)) none))))) none
def qc22 (pc : Nat) : Option qX := cond (Nat.ble pc 8) (cond (Nat.ble pc 1) (cond (Nat.ble pc 0) (cond (Nat.beq pc 0) (some (2, 0, 0, [], 1)) none) (cond (Nat.beq pc 1) (some (22, 0, 14, [2], 4)) none)) (cond (Nat.ble pc 4) (cond (Nat.beq pc 4) (some (1, 0, 1, [], 5)) none) (cond (Nat.ble pc 5) (cond (Nat.beq pc 5) (some (40, 30, 41, [], 8)) none) (cond (Nat.beq pc 8) (some (41, 0, 0, [], 9)) none)))) none
def qc23 (pc : Nat) : Option qX := cond (Nat.ble pc 8) (cond (Nat.ble pc 1) (cond (Nat.ble pc 0) (cond (Nat.beq pc 0) (some (2, 0, 0, [], 1)) none) (cond (Nat.beq pc 1) (some (22, 1, 20, [2], 4)) none)) (cond (Nat.ble pc 4) (cond (Nat.beq pc 4) (some (1, 0, 1, [], 5)) none) (cond (Nat.ble pc 5) (cond (Nat.beq pc 5) (some (40, 30, 41, [], 8)) none) (cond (Nat.beq pc 8) (some (41, 0, 0, [], 9)) none)))) none
def qc24 (pc : Nat) : Option qX := cond (Nat.ble pc 70) (cond (Nat.ble pc 33) (cond (Nat.ble pc 14) (cond (Nat.ble pc 3) (cond (Nat.ble pc 1) (cond (Nat.ble pc 0) (cond (Nat.beq pc 0) (some (0, 0, 0, [], 1)) none) (cond (Nat.beq pc 1) (some (3, 0, 3, [], 2)) none)) (cond (Nat.ble pc 2) (cond (Nat.beq pc 2) (some (1, 0, 3, [], 3)) none) (cond (Nat.beq pc 3) (some (2, 0, 0, [], 4)) none))) (cond (Nat.ble pc 7) (cond (Nat.ble pc 4) (cond (Nat.beq pc 4) (some (22, 0, 14, [2], 7)) none) (cond (Nat.beq pc 7) (some (40, 23, 40, [], 10)) none)) (cond (Nat.ble pc 10) (cond (Nat.beq pc 10) (some (16, 3, 45, [], 13)) none) (cond (Nat.ble pc 13) (cond (Nat.beq pc 13) (some (2, 0, 0, [], 14)) none) (cond (Nat.beq pc 14) (some (22, 0, 14, [2], 17)) none))))) (cond (Nat.ble pc 22) (cond (Nat.ble pc 18) (cond (Nat.ble pc 17) (cond (Nat.beq pc 17) (some (1, 0, 3, [], 18)) none) (cond (Nat.beq pc 18) (some (40, 30, 41, [], 21)) none)) (cond (Nat.ble pc 21) (cond (Nat.beq pc 21) (some (1, 0, 1, [], 22)) none) (cond (Nat.beq pc 22) (some (16, 1, 39, [], 25)) none))) (cond (Nat.ble pc 26) (cond (Nat.ble pc 25) (cond (Nat.beq pc 25) (some (2, 0, 0, [], 26)) none) (cond (Nat.beq pc 26) (some (22, 1, 20, [2], 29)) none)) (cond (Nat.ble pc 29) (cond (Nat.beq pc 29) (some (1, 0, 3, [], 30)) none) (cond (Nat.ble pc 30) (cond (Nat.beq pc 30) (some (40, 30, 41, [], 33)) none) (cond (Nat.beq pc 33) (some (1, 0, 2, [], 34)) none)))))) (cond (Nat.ble pc 50) (cond (Nat.ble pc 39) (cond (Nat.ble pc 37) (cond (Nat.ble pc 34) (cond (Nat.beq pc 34) (some (16, 1, 39, [], 37)) none) (cond (Nat.beq pc 37) (some (1, 0, 3, [], 38)) none)) (cond (Nat.ble pc 38) (cond (Nat.beq pc 38) (some (41, 0, 0, [], 39)) none) (cond (Nat.beq pc 39) (some (5, 1, 3, [], 42)) none))) (cond (Nat.ble pc 45) (cond (Nat.ble pc 42) (cond (Nat.beq pc 42) (some (15, 0, 2, [], 45)) none) (cond (Nat.beq pc 45) (some (2, 0, 0, [], 46)) none)) (cond (Nat.ble pc 46) (cond (Nat.beq pc 46) (some (22, 0, 14, [2], 49)) none) (cond (Nat.ble pc 49) (cond (Nat.beq pc 49) (some (1, 0, 1, [], 50)) none) (cond (Nat.beq pc 50) (some (40, 34, 43, [], 53)) none))))) (cond (Nat.ble pc 61) (cond (Nat.ble pc 54) (cond (Nat.ble pc 53) (cond (Nat.beq pc 53) (some (2, 0, 0, [], 54)) none) (cond (Nat.beq pc 54) (some (22, 1, 20, [2], 57)) none)) (cond (Nat.ble pc 57) (cond (Nat.beq pc 57) (some (1, 0, 2, [], 58)) none) (cond (Nat.ble pc 58) (cond (Nat.beq pc 58) (some (40, 34, 43, [], 61)) none) (cond (Nat.beq pc 61) (some (2, 0, 0, [], 62)) none)))) (cond (Nat.ble pc 65) (cond (Nat.ble pc 62) (cond (Nat.beq pc 62) (some (22, 0, 14, [2], 65)) none) (cond (Nat.beq pc 65) (some (40, 23, 40, [], 68)) none)) (cond (Nat.ble pc 68) (cond (Nat.beq pc 68) (some (0, 1, 0, [], 69)) none) (cond (Nat.ble pc 69) (cond (Nat.beq pc 69) (some (7, 0, 0, [], 70)) none) (cond (Nat.beq pc 70) (some (41, 0, 0, [], 71)) none))))))) none
def qc25 (pc : Nat) : Option qX := cond (Nat.ble pc 40) (cond (Nat.ble pc 18) (cond (Nat.ble pc 7) (cond (Nat.ble pc 2) (cond (Nat.ble pc 0) (cond (Nat.beq pc 0) (some (1, 0, 1, [], 1)) none) (cond (Nat.ble pc 1) (cond (Nat.beq pc 1) (some (3, 0, 3, [], 2)) none) (cond (Nat.beq pc 2) (some (0, 0, 0, [], 3)) none))) (cond (Nat.ble pc 3) (cond (Nat.beq pc 3) (some (3, 0, 4, [], 5)) none) (cond (Nat.ble pc 5) (cond (Nat.beq pc 5) (some (1, 0, 4, [], 7)) none) (cond (Nat.beq pc 7) (some (0, 4, 0, [], 8)) none)))) (cond (Nat.ble pc 12) (cond (Nat.ble pc 8) (cond (Nat.beq pc 8) (some (16, 3, 39, [], 11)) none) (cond (Nat.ble pc 11) (cond (Nat.beq pc 11) (some (1, 0, 3, [], 12)) none) (cond (Nat.beq pc 12) (some (0, (-9), 0, [], 14)) none))) (cond (Nat.ble pc 14) (cond (Nat.beq pc 14) (some (16, 0, 39, [], 17)) none) (cond (Nat.ble pc 17) (cond (Nat.beq pc 17) (some (1, 0, 3, [], 18)) none) (cond (Nat.beq pc 18) (some (1, 0, 2, [], 19)) none))))) (cond (Nat.ble pc 28) (cond (Nat.ble pc 23) (cond (Nat.ble pc 19) (cond (Nat.beq pc 19) (some (16, 1, 24, [], 22)) none) (cond (Nat.ble pc 22) (cond (Nat.beq pc 22) (some (0, 1, 0, [], 23)) none) (cond (Nat.beq pc 23) (some (42, 0, 0, [], 24)) none))) (cond (Nat.ble pc 24) (cond (Nat.beq pc 24) (some (2, 0, 0, [], 25)) none) (cond (Nat.ble pc 25) (cond (Nat.beq pc 25) (some (22, 1, 20, [2], 28)) none) (cond (Nat.beq pc 28) (some (1, 0, 3, [], 29)) none)))) (cond (Nat.ble pc 33) (cond (Nat.ble pc 29) (cond (Nat.beq pc 29) (some (40, 30, 41, [], 32)) none) (cond (Nat.ble pc 32) (cond (Nat.beq pc 32) (some (3, 0, 3, [], 33)) none) (cond (Nat.beq pc 33) (some (5, 1, 4, [], 36)) none))) (cond (Nat.ble pc 36) (cond (Nat.beq pc 36) (some (15, 0, 5, [], 39)) none) (cond (Nat.ble pc 39) (cond (Nat.beq pc 39) (some (0, 0, 0, [], 40)) none) (cond (Nat.beq pc 40) (some (42, 0, 0, [], 41)) none)))))) none
def qc26 (pc : Nat) : Option qX := cond (Nat.ble pc 61) (cond (Nat.ble pc 30) (cond (Nat.ble pc 12) (cond (Nat.ble pc 4) (cond (Nat.ble pc 0) (cond (Nat.beq pc 0) (some (2, 0, 0, [], 1)) none) (cond (Nat.ble pc 1) (cond (Nat.beq pc 1) (some (34, 0, 3, [], 4)) none) (cond (Nat.beq pc 4) (some (2, 0, 0, [], 5)) none))) (cond (Nat.ble pc 8) (cond (Nat.ble pc 5) (cond (Nat.beq pc 5) (some (32, 0, 9, [2], 8)) none) (cond (Nat.beq pc 8) (some (12, 0, 0, [], 9)) none)) (cond (Nat.ble pc 9) (cond (Nat.beq pc 9) (some (40, 11, 19, [], 12)) none) (cond (Nat.beq pc 12) (some (24, 0, 12, [3], 15)) none)))) (cond (Nat.ble pc 20) (cond (Nat.ble pc 16) (cond (Nat.ble pc 15) (cond (Nat.beq pc 15) (some (2, 0, 0, [], 16)) none) (cond (Nat.beq pc 16) (some (32, 0, 18, [0], 19)) none)) (cond (Nat.ble pc 19) (cond (Nat.beq pc 19) (some (12, 0, 0, [], 20)) none) (cond (Nat.beq pc 20) (some (40, 20, 0, [], 23)) none))) (cond (Nat.ble pc 26) (cond (Nat.ble pc 23) (cond (Nat.beq pc 23) (some (24, 1, 21, [3], 26)) none) (cond (Nat.beq pc 26) (some (2, 0, 0, [], 27)) none)) (cond (Nat.ble pc 27) (cond (Nat.beq pc 27) (some (32, 0, 25, [4], 30)) none) (cond (Nat.beq pc 30) (some (12, 0, 0, [], 31)) none))))) (cond (Nat.ble pc 45) (cond (Nat.ble pc 39) (cond (Nat.ble pc 33) (cond (Nat.ble pc 31) (cond (Nat.beq pc 31) (some (0, 10, 0, [], 33)) none) (cond (Nat.beq pc 33) (some (40, 27, 39, [], 36)) none)) (cond (Nat.ble pc 36) (cond (Nat.beq pc 36) (some (24, 2, 30, [3], 39)) none) (cond (Nat.beq pc 39) (some (2, 0, 0, [], 40)) none))) (cond (Nat.ble pc 41) (cond (Nat.ble pc 40) (cond (Nat.beq pc 40) (some (0, 0, 0, [], 41)) none) (cond (Nat.beq pc 41) (some (23, 3, 34, [3], 44)) none)) (cond (Nat.ble pc 44) (cond (Nat.beq pc 44) (some (2, 0, 0, [], 45)) none) (cond (Nat.beq pc 45) (some (0, 0, 0, [], 46)) none)))) (cond (Nat.ble pc 52) (cond (Nat.ble pc 49) (cond (Nat.ble pc 46) (cond (Nat.beq pc 46) (some (23, 4, 38, [3], 49)) none) (cond (Nat.beq pc 49) (some (2, 0, 0, [], 50)) none)) (cond (Nat.ble pc 50) (cond (Nat.beq pc 50) (some (0, (-9), 0, [], 52)) none) (cond (Nat.beq pc 52) (some (23, 5, 41, [3], 55)) none))) (cond (Nat.ble pc 56) (cond (Nat.ble pc 55) (cond (Nat.beq pc 55) (some (2, 0, 0, [], 56)) none) (cond (Nat.beq pc 56) (some (0, (-9), 0, [], 58)) none)) (cond (Nat.ble pc 58) (cond (Nat.beq pc 58) (some (23, 6, 44, [3], 61)) none) (cond (Nat.beq pc 61) (some (44, 0, 0, [], 62)) none)))))) none
def qc27 (pc : Nat) : Option qX := cond (Nat.ble pc 45) (cond (Nat.ble pc 23) (cond (Nat.ble pc 9) (cond (Nat.ble pc 4) (cond (Nat.ble pc 0) (cond (Nat.beq pc 0) (some (2, 0, 0, [], 1)) none) (cond (Nat.ble pc 1) (cond (Nat.beq pc 1) (some (22, 0, 12, [3], 4)) none) (cond (Nat.beq pc 4) (some (1, 0, 1, [], 5)) none))) (cond (Nat.ble pc 5) (cond (Nat.beq pc 5) (some (40, 47, 21, [], 8)) none) (cond (Nat.ble pc 8) (cond (Nat.beq pc 8) (some (2, 0, 0, [], 9)) none) (cond (Nat.beq pc 9) (some (22, 1, 21, [3], 12)) none)))) (cond (Nat.ble pc 16) (cond (Nat.ble pc 12) (cond (Nat.beq pc 12) (some (40, 50, 1, [], 15)) none) (cond (Nat.ble pc 15) (cond (Nat.beq pc 15) (some (2, 0, 0, [], 16)) none) (cond (Nat.beq pc 16) (some (22, 2, 30, [3], 19)) none))) (cond (Nat.ble pc 19) (cond (Nat.beq pc 19) (some (0, 0, 0, [], 20)) none) (cond (Nat.ble pc 20) (cond (Nat.beq pc 20) (some (40, 53, 44, [], 23)) none) (cond (Nat.beq pc 23) (some (2, 0, 0, [], 24)) none))))) (cond (Nat.ble pc 33) (cond (Nat.ble pc 28) (cond (Nat.ble pc 24) (cond (Nat.beq pc 24) (some (0, 0, 0, [], 25)) none) (cond (Nat.ble pc 25) (cond (Nat.beq pc 25) (some (23, 3, 34, [3], 28)) none) (cond (Nat.beq pc 28) (some (2, 0, 0, [], 29)) none))) (cond (Nat.ble pc 29) (cond (Nat.beq pc 29) (some (0, 0, 0, [], 30)) none) (cond (Nat.ble pc 30) (cond (Nat.beq pc 30) (some (23, 4, 38, [3], 33)) none) (cond (Nat.beq pc 33) (some (2, 0, 0, [], 34)) none)))) (cond (Nat.ble pc 39) (cond (Nat.ble pc 34) (cond (Nat.beq pc 34) (some (0, (-9), 0, [], 36)) none) (cond (Nat.ble pc 36) (cond (Nat.beq pc 36) (some (23, 5, 41, [3], 39)) none) (cond (Nat.beq pc 39) (some (2, 0, 0, [], 40)) none))) (cond (Nat.ble pc 40) (cond (Nat.beq pc 40) (some (0, (-9), 0, [], 42)) none) (cond (Nat.ble pc 42) (cond (Nat.beq pc 42) (some (23, 6, 44, [3], 45)) none) (cond (Nat.beq pc 45) (some (44, 0, 0, [], 46)) none)))))) none
def qc28 (pc : Nat) : Option qX := cond (Nat.ble pc 14) (cond (Nat.ble pc 6) (cond (Nat.ble pc 1) (cond (Nat.ble pc 0) (cond (Nat.beq pc 0) (some (2, 0, 0, [], 1)) none) (cond (Nat.beq pc 1) (some (21, 3, 34, [3], 4)) none)) (cond (Nat.ble pc 4) (cond (Nat.beq pc 4) (some (0, 7, 0, [], 6)) none) (cond (Nat.beq pc 6) (some (16, 1, 13, [], 9)) none))) (cond (Nat.ble pc 10) (cond (Nat.ble pc 9) (cond (Nat.beq pc 9) (some (0, 1, 0, [], 10)) none) (cond (Nat.beq pc 10) (some (15, 0, 14, [], 13)) none)) (cond (Nat.ble pc 13) (cond (Nat.beq pc 13) (some (0, 0, 0, [], 14)) none) (cond (Nat.beq pc 14) (some (42, 0, 0, [], 15)) none)))) none
def qc29 (pc : Nat) : Option qX := cond (Nat.ble pc 152) (cond (Nat.ble pc 94) (cond (Nat.ble pc 67) (cond (Nat.ble pc 11) (cond (Nat.ble pc 3) (cond (Nat.ble pc 0) (cond (Nat.beq pc 0) (some (1, 0, 1, [], 1)) none) (cond (Nat.ble pc 1) (cond (Nat.beq pc 1) (some (0, 32, 0, [], 3)) none) (cond (Nat.beq pc 3) (some (16, 1, 12, [], 6)) none))) (cond (Nat.ble pc 7) (cond (Nat.ble pc 6) (cond (Nat.beq pc 6) (some (2, 0, 0, [], 7)) none) (cond (Nat.beq pc 7) (some (40, 54, 31, [], 10)) none)) (cond (Nat.ble pc 10) (cond (Nat.beq pc 10) (some (0, 1, 0, [], 11)) none) (cond (Nat.beq pc 11) (some (42, 0, 0, [], 12)) none)))) (cond (Nat.ble pc 60) (cond (Nat.ble pc 13) (cond (Nat.ble pc 12) (cond (Nat.beq pc 12) (some (2, 0, 0, [], 13)) none) (cond (Nat.beq pc 13) (some (21, 3, 34, [3], 16)) none)) (cond (Nat.ble pc 16) (cond (Nat.beq pc 16) (some (20, 0, 151, [60, 68, 87, 93, 99, 124, 145], 60)) none) (cond (Nat.beq pc 60) (some (2, 0, 0, [], 61)) none))) (cond (Nat.ble pc 62) (cond (Nat.ble pc 61) (cond (Nat.beq pc 61) (some (1, 0, 1, [], 62)) none) (cond (Nat.beq pc 62) (some (0, (-9), 0, [], 64)) none)) (cond (Nat.ble pc 64) (cond (Nat.beq pc 64) (some (40, 57, 32, [], 67)) none) (cond (Nat.beq pc 67) (some (42, 0, 0, [], 68)) none))))) (cond (Nat.ble pc 82) (cond (Nat.ble pc 74) (cond (Nat.ble pc 69) (cond (Nat.ble pc 68) (cond (Nat.beq pc 68) (some (1, 0, 1, [], 69)) none) (cond (Nat.beq pc 69) (some (0, 125, 0, [], 71)) none)) (cond (Nat.ble pc 71) (cond (Nat.beq pc 71) (some (16, 1, 81, [], 74)) none) (cond (Nat.beq pc 74) (some (2, 0, 0, [], 75)) none))) (cond (Nat.ble pc 78) (cond (Nat.ble pc 75) (cond (Nat.beq pc 75) (some (40, 61, 33, [], 78)) none) (cond (Nat.beq pc 78) (some (15, 0, 86, [], 81)) none)) (cond (Nat.ble pc 81) (cond (Nat.beq pc 81) (some (2, 0, 0, [], 82)) none) (cond (Nat.beq pc 82) (some (1, 0, 1, [], 83)) none)))) (cond (Nat.ble pc 88) (cond (Nat.ble pc 86) (cond (Nat.ble pc 83) (cond (Nat.beq pc 83) (some (40, 65, 34, [], 86)) none) (cond (Nat.beq pc 86) (some (42, 0, 0, [], 87)) none)) (cond (Nat.ble pc 87) (cond (Nat.beq pc 87) (some (2, 0, 0, [], 88)) none) (cond (Nat.beq pc 88) (some (1, 0, 1, [], 89)) none))) (cond (Nat.ble pc 92) (cond (Nat.ble pc 89) (cond (Nat.beq pc 89) (some (40, 65, 34, [], 92)) none) (cond (Nat.beq pc 92) (some (42, 0, 0, [], 93)) none)) (cond (Nat.ble pc 93) (cond (Nat.beq pc 93) (some (2, 0, 0, [], 94)) none) (cond (Nat.beq pc 94) (some (1, 0, 1, [], 95)) none)))))) (cond (Nat.ble pc 124) (cond (Nat.ble pc 108) (cond (Nat.ble pc 100) (cond (Nat.ble pc 98) (cond (Nat.ble pc 95) (cond (Nat.beq pc 95) (some (40, 69, 35, [], 98)) none) (cond (Nat.beq pc 98) (some (42, 0, 0, [], 99)) none)) (cond (Nat.ble pc 99) (cond (Nat.beq pc 99) (some (1, 0, 1, [], 100)) none) (cond (Nat.beq pc 100) (some (40, 72, 30, [], 103)) none))) (cond (Nat.ble pc 106) (cond (Nat.ble pc 103) (cond (Nat.beq pc 103) (some (17, 0, 114, [], 106)) none) (cond (Nat.beq pc 106) (some (2, 0, 0, [], 107)) none)) (cond (Nat.ble pc 107) (cond (Nat.beq pc 107) (some (1, 0, 1, [], 108)) none) (cond (Nat.beq pc 108) (some (40, 75, 36, [], 111)) none)))) (cond (Nat.ble pc 116) (cond (Nat.ble pc 114) (cond (Nat.ble pc 111) (cond (Nat.beq pc 111) (some (15, 0, 123, [], 114)) none) (cond (Nat.beq pc 114) (some (2, 0, 0, [], 115)) none)) (cond (Nat.ble pc 115) (cond (Nat.beq pc 115) (some (1, 0, 1, [], 116)) none) (cond (Nat.beq pc 116) (some (2, 0, 0, [], 117)) none))) (cond (Nat.ble pc 120) (cond (Nat.ble pc 117) (cond (Nat.beq pc 117) (some (21, 6, 44, [3], 120)) none) (cond (Nat.beq pc 120) (some (40, 57, 32, [], 123)) none)) (cond (Nat.ble pc 123) (cond (Nat.beq pc 123) (some (42, 0, 0, [], 124)) none) (cond (Nat.beq pc 124) (some (1, 0, 1, [], 125)) none))))) (cond (Nat.ble pc 140) (cond (Nat.ble pc 132) (cond (Nat.ble pc 128) (cond (Nat.ble pc 125) (cond (Nat.beq pc 125) (some (40, 72, 30, [], 128)) none) (cond (Nat.beq pc 128) (some (17, 0, 139, [], 131)) none)) (cond (Nat.ble pc 131) (cond (Nat.beq pc 131) (some (2, 0, 0, [], 132)) none) (cond (Nat.beq pc 132) (some (1, 0, 1, [], 133)) none))) (cond (Nat.ble pc 136) (cond (Nat.ble pc 133) (cond (Nat.beq pc 133) (some (40, 78, 37, [], 136)) none) (cond (Nat.beq pc 136) (some (15, 0, 144, [], 139)) none)) (cond (Nat.ble pc 139) (cond (Nat.beq pc 139) (some (2, 0, 0, [], 140)) none) (cond (Nat.beq pc 140) (some (1, 0, 1, [], 141)) none)))) (cond (Nat.ble pc 146) (cond (Nat.ble pc 144) (cond (Nat.ble pc 141) (cond (Nat.beq pc 141) (some (40, 81, 38, [], 144)) none) (cond (Nat.beq pc 144) (some (42, 0, 0, [], 145)) none)) (cond (Nat.ble pc 145) (cond (Nat.beq pc 145) (some (2, 0, 0, [], 146)) none) (cond (Nat.beq pc 146) (some (1, 0, 1, [], 147)) none))) (cond (Nat.ble pc 150) (cond (Nat.ble pc 147) (cond (Nat.beq pc 147) (some (40, 81, 38, [], 150)) none) (cond (Nat.beq pc 150) (some (42, 0, 0, [], 151)) none)) (cond (Nat.ble pc 151) (cond (Nat.beq pc 151) (some (0, 0, 0, [], 152)) none) (cond (Nat.beq pc 152) (some (42, 0, 0, [], 153)) none))))))) none
def qc30 (pc : Nat) : Option qX := cond (Nat.ble pc 17) (cond (Nat.ble pc 7) (cond (Nat.ble pc 1) (cond (Nat.ble pc 0) (cond (Nat.beq pc 0) (some (1, 0, 0, [], 1)) none) (cond (Nat.beq pc 1) (some (0, 48, 0, [], 3)) none)) (cond (Nat.ble pc 3) (cond (Nat.beq pc 3) (some (16, 2, 16, [], 6)) none) (cond (Nat.ble pc 6) (cond (Nat.beq pc 6) (some (1, 0, 0, [], 7)) none) (cond (Nat.beq pc 7) (some (0, 57, 0, [], 9)) none)))) (cond (Nat.ble pc 12) (cond (Nat.ble pc 9) (cond (Nat.beq pc 9) (some (16, 4, 16, [], 12)) none) (cond (Nat.beq pc 12) (some (0, 1, 0, [], 13)) none)) (cond (Nat.ble pc 13) (cond (Nat.beq pc 13) (some (15, 0, 17, [], 16)) none) (cond (Nat.ble pc 16) (cond (Nat.beq pc 16) (some (0, 0, 0, [], 17)) none) (cond (Nat.beq pc 17) (some (42, 0, 0, [], 18)) none))))) none
def qc31 (pc : Nat) : Option qX := cond (Nat.ble pc 14) (cond (Nat.ble pc 5) (cond (Nat.ble pc 1) (cond (Nat.ble pc 0) (cond (Nat.beq pc 0) (some (2, 0, 0, [], 1)) none) (cond (Nat.beq pc 1) (some (21, 3, 34, [3], 4)) none)) (cond (Nat.ble pc 4) (cond (Nat.beq pc 4) (some (0, 5, 0, [], 5)) none) (cond (Nat.beq pc 5) (some (16, 1, 14, [], 8)) none))) (cond (Nat.ble pc 9) (cond (Nat.ble pc 8) (cond (Nat.beq pc 8) (some (2, 0, 0, [], 9)) none) (cond (Nat.beq pc 9) (some (0, 6, 0, [], 11)) none)) (cond (Nat.ble pc 11) (cond (Nat.beq pc 11) (some (23, 3, 34, [3], 14)) none) (cond (Nat.beq pc 14) (some (44, 0, 0, [], 15)) none)))) none
def qc32 (pc : Nat) : Option qX := cond (Nat.ble pc 54) (cond (Nat.ble pc 28) (cond (Nat.ble pc 14) (cond (Nat.ble pc 6) (cond (Nat.ble pc 1) (cond (Nat.ble pc 0) (cond (Nat.beq pc 0) (some (1, 0, 1, [], 1)) none) (cond (Nat.beq pc 1) (some (0, 123, 0, [], 3)) none)) (cond (Nat.ble pc 3) (cond (Nat.beq pc 3) (some (16, 1, 14, [], 6)) none) (cond (Nat.beq pc 6) (some (2, 0, 0, [], 7)) none))) (cond (Nat.ble pc 10) (cond (Nat.ble pc 7) (cond (Nat.beq pc 7) (some (21, 4, 38, [3], 10)) none) (cond (Nat.beq pc 10) (some (0, 4, 0, [], 11)) none)) (cond (Nat.ble pc 11) (cond (Nat.beq pc 11) (some (16, 2, 16, [], 14)) none) (cond (Nat.beq pc 14) (some (0, 0, 0, [], 15)) none)))) (cond (Nat.ble pc 19) (cond (Nat.ble pc 16) (cond (Nat.ble pc 15) (cond (Nat.beq pc 15) (some (42, 0, 0, [], 16)) none) (cond (Nat.beq pc 16) (some (1, 0, 2, [], 17)) none)) (cond (Nat.ble pc 17) (cond (Nat.beq pc 17) (some (0, (-9), 0, [], 19)) none) (cond (Nat.beq pc 19) (some (16, 0, 33, [], 22)) none))) (cond (Nat.ble pc 23) (cond (Nat.ble pc 22) (cond (Nat.beq pc 22) (some (2, 0, 0, [], 23)) none) (cond (Nat.beq pc 23) (some (22, 1, 21, [3], 26)) none)) (cond (Nat.ble pc 26) (cond (Nat.beq pc 26) (some (0, 100, 0, [], 28)) none) (cond (Nat.beq pc 28) (some (1, 0, 2, [], 29)) none))))) (cond (Nat.ble pc 40) (cond (Nat.ble pc 34) (cond (Nat.ble pc 30) (cond (Nat.ble pc 29) (cond (Nat.beq pc 29) (some (6, 0, 0, [], 30)) none) (cond (Nat.beq pc 30) (some (40, 84, 2, [], 33)) none)) (cond (Nat.ble pc 33) (cond (Nat.beq pc 33) (some (2, 0, 0, [], 34)) none) (cond (Nat.beq pc 34) (some (1, 0, 2, [], 35)) none))) (cond (Nat.ble pc 38) (cond (Nat.ble pc 35) (cond (Nat.beq pc 35) (some (23, 5, 41, [3], 38)) none) (cond (Nat.beq pc 38) (some (2, 0, 0, [], 39)) none)) (cond (Nat.ble pc 39) (cond (Nat.beq pc 39) (some (12, 0, 0, [], 40)) none) (cond (Nat.beq pc 40) (some (21, 4, 38, [3], 43)) none)))) (cond (Nat.ble pc 48) (cond (Nat.ble pc 44) (cond (Nat.ble pc 43) (cond (Nat.beq pc 43) (some (0, 1, 0, [], 44)) none) (cond (Nat.beq pc 44) (some (6, 0, 0, [], 45)) none)) (cond (Nat.ble pc 45) (cond (Nat.beq pc 45) (some (23, 4, 38, [3], 48)) none) (cond (Nat.beq pc 48) (some (2, 0, 0, [], 49)) none))) (cond (Nat.ble pc 50) (cond (Nat.ble pc 49) (cond (Nat.beq pc 49) (some (0, 1, 0, [], 50)) none) (cond (Nat.beq pc 50) (some (23, 3, 34, [3], 53)) none)) (cond (Nat.ble pc 53) (cond (Nat.beq pc 53) (some (0, 1, 0, [], 54)) none) (cond (Nat.beq pc 54) (some (42, 0, 0, [], 55)) none)))))) none
def qc33 (pc : Nat) : Option qX := cond (Nat.ble pc 44) (cond (Nat.ble pc 20) (cond (Nat.ble pc 6) (cond (Nat.ble pc 1) (cond (Nat.ble pc 0) (cond (Nat.beq pc 0) (some (2, 0, 0, [], 1)) none) (cond (Nat.beq pc 1) (some (2, 0, 0, [], 2)) none)) (cond (Nat.ble pc 2) (cond (Nat.beq pc 2) (some (22, 0, 12, [3], 5)) none) (cond (Nat.ble pc 5) (cond (Nat.beq pc 5) (some (2, 0, 0, [], 6)) none) (cond (Nat.beq pc 6) (some (21, 5, 41, [3], 9)) none)))) (cond (Nat.ble pc 15) (cond (Nat.ble pc 9) (cond (Nat.beq pc 9) (some (40, 87, 23, [], 12)) none) (cond (Nat.ble pc 12) (cond (Nat.beq pc 12) (some (23, 5, 41, [3], 15)) none) (cond (Nat.beq pc 15) (some (2, 0, 0, [], 16)) none))) (cond (Nat.ble pc 16) (cond (Nat.beq pc 16) (some (12, 0, 0, [], 17)) none) (cond (Nat.ble pc 17) (cond (Nat.beq pc 17) (some (21, 4, 38, [3], 20)) none) (cond (Nat.beq pc 20) (some (0, 1, 0, [], 21)) none))))) (cond (Nat.ble pc 30) (cond (Nat.ble pc 25) (cond (Nat.ble pc 21) (cond (Nat.beq pc 21) (some (7, 0, 0, [], 22)) none) (cond (Nat.ble pc 22) (cond (Nat.beq pc 22) (some (23, 4, 38, [3], 25)) none) (cond (Nat.beq pc 25) (some (2, 0, 0, [], 26)) none))) (cond (Nat.ble pc 26) (cond (Nat.beq pc 26) (some (2, 0, 0, [], 27)) none) (cond (Nat.ble pc 27) (cond (Nat.beq pc 27) (some (21, 4, 38, [3], 30)) none) (cond (Nat.beq pc 30) (some (17, 1, 38, [], 33)) none)))) (cond (Nat.ble pc 38) (cond (Nat.ble pc 33) (cond (Nat.beq pc 33) (some (0, 7, 0, [], 35)) none) (cond (Nat.ble pc 35) (cond (Nat.beq pc 35) (some (15, 0, 40, [], 38)) none) (cond (Nat.beq pc 38) (some (0, 6, 0, [], 40)) none))) (cond (Nat.ble pc 40) (cond (Nat.beq pc 40) (some (23, 3, 34, [3], 43)) none) (cond (Nat.ble pc 43) (cond (Nat.beq pc 43) (some (0, 1, 0, [], 44)) none) (cond (Nat.beq pc 44) (some (42, 0, 0, [], 45)) none)))))) none
def qc34 (pc : Nat) : Option qX := cond (Nat.ble pc 71) (cond (Nat.ble pc 31) (cond (Nat.ble pc 14) (cond (Nat.ble pc 6) (cond (Nat.ble pc 1) (cond (Nat.ble pc 0) (cond (Nat.beq pc 0) (some (1, 0, 1, [], 1)) none) (cond (Nat.beq pc 1) (some (0, 97, 0, [], 3)) none)) (cond (Nat.ble pc 3) (cond (Nat.beq pc 3) (some (16, 2, 12, [], 6)) none) (cond (Nat.beq pc 6) (some (1, 0, 1, [], 7)) none))) (cond (Nat.ble pc 9) (cond (Nat.ble pc 7) (cond (Nat.beq pc 7) (some (0, 122, 0, [], 9)) none) (cond (Nat.beq pc 9) (some (16, 5, 14, [], 12)) none)) (cond (Nat.ble pc 12) (cond (Nat.beq pc 12) (some (0, 0, 0, [], 13)) none) (cond (Nat.ble pc 13) (cond (Nat.beq pc 13) (some (42, 0, 0, [], 14)) none) (cond (Nat.beq pc 14) (some (2, 0, 0, [], 15)) none))))) (cond (Nat.ble pc 20) (cond (Nat.ble pc 16) (cond (Nat.ble pc 15) (cond (Nat.beq pc 15) (some (2, 0, 0, [], 16)) none) (cond (Nat.beq pc 16) (some (22, 0, 12, [3], 19)) none)) (cond (Nat.ble pc 19) (cond (Nat.beq pc 19) (some (1, 0, 1, [], 20)) none) (cond (Nat.beq pc 20) (some (2, 0, 0, [], 21)) none))) (cond (Nat.ble pc 24) (cond (Nat.ble pc 21) (cond (Nat.beq pc 21) (some (21, 5, 41, [3], 24)) none) (cond (Nat.beq pc 24) (some (40, 91, 24, [], 27)) none)) (cond (Nat.ble pc 27) (cond (Nat.beq pc 27) (some (23, 6, 44, [3], 30)) none) (cond (Nat.ble pc 30) (cond (Nat.beq pc 30) (some (2, 0, 0, [], 31)) none) (cond (Nat.beq pc 31) (some (0, 3, 0, [], 32)) none)))))) (cond (Nat.ble pc 50) (cond (Nat.ble pc 39) (cond (Nat.ble pc 35) (cond (Nat.ble pc 32) (cond (Nat.beq pc 32) (some (23, 3, 34, [3], 35)) none) (cond (Nat.beq pc 35) (some (2, 0, 0, [], 36)) none)) (cond (Nat.ble pc 36) (cond (Nat.beq pc 36) (some (22, 1, 21, [3], 39)) none) (cond (Nat.beq pc 39) (some (2, 0, 0, [], 40)) none))) (cond (Nat.ble pc 43) (cond (Nat.ble pc 40) (cond (Nat.beq pc 40) (some (21, 6, 44, [3], 43)) none) (cond (Nat.beq pc 43) (some (40, 95, 10, [], 46)) none)) (cond (Nat.ble pc 46) (cond (Nat.beq pc 46) (some (17, 1, 70, [], 49)) none) (cond (Nat.ble pc 49) (cond (Nat.beq pc 49) (some (2, 0, 0, [], 50)) none) (cond (Nat.beq pc 50) (some (22, 1, 21, [3], 53)) none))))) (cond (Nat.ble pc 60) (cond (Nat.ble pc 55) (cond (Nat.ble pc 53) (cond (Nat.beq pc 53) (some (0, 100, 0, [], 55)) none) (cond (Nat.beq pc 55) (some (2, 0, 0, [], 56)) none)) (cond (Nat.ble pc 56) (cond (Nat.beq pc 56) (some (21, 6, 44, [3], 59)) none) (cond (Nat.ble pc 59) (cond (Nat.beq pc 59) (some (6, 0, 0, [], 60)) none) (cond (Nat.beq pc 60) (some (40, 95, 10, [], 63)) none)))) (cond (Nat.ble pc 66) (cond (Nat.ble pc 63) (cond (Nat.beq pc 63) (some (17, 1, 70, [], 66)) none) (cond (Nat.beq pc 66) (some (0, 1, 0, [], 67)) none)) (cond (Nat.ble pc 67) (cond (Nat.beq pc 67) (some (15, 0, 71, [], 70)) none) (cond (Nat.ble pc 70) (cond (Nat.beq pc 70) (some (0, 0, 0, [], 71)) none) (cond (Nat.beq pc 71) (some (42, 0, 0, [], 72)) none))))))) none
def qc35 (pc : Nat) : Option qX := cond (Nat.ble pc 16) (cond (Nat.ble pc 6) (cond (Nat.ble pc 1) (cond (Nat.ble pc 0) (cond (Nat.beq pc 0) (some (2, 0, 0, [], 1)) none) (cond (Nat.beq pc 1) (some (0, 4, 0, [], 2)) none)) (cond (Nat.ble pc 2) (cond (Nat.beq pc 2) (some (23, 3, 34, [3], 5)) none) (cond (Nat.ble pc 5) (cond (Nat.beq pc 5) (some (1, 0, 1, [], 6)) none) (cond (Nat.beq pc 6) (some (0, 58, 0, [], 8)) none)))) (cond (Nat.ble pc 11) (cond (Nat.ble pc 8) (cond (Nat.beq pc 8) (some (16, 1, 15, [], 11)) none) (cond (Nat.beq pc 11) (some (0, 1, 0, [], 12)) none)) (cond (Nat.ble pc 12) (cond (Nat.beq pc 12) (some (15, 0, 16, [], 15)) none) (cond (Nat.ble pc 15) (cond (Nat.beq pc 15) (some (0, 0, 0, [], 16)) none) (cond (Nat.beq pc 16) (some (42, 0, 0, [], 17)) none))))) none
def qc36 (pc : Nat) : Option qX := cond (Nat.ble pc 42) (cond (Nat.ble pc 19) (cond (Nat.ble pc 9) (cond (Nat.ble pc 1) (cond (Nat.ble pc 0) (cond (Nat.beq pc 0) (some (2, 0, 0, [], 1)) none) (cond (Nat.beq pc 1) (some (22, 2, 30, [3], 4)) none)) (cond (Nat.ble pc 4) (cond (Nat.beq pc 4) (some (40, 98, 40, [], 7)) none) (cond (Nat.ble pc 7) (cond (Nat.beq pc 7) (some (0, 10, 0, [], 9)) none) (cond (Nat.beq pc 9) (some (16, 2, 14, [], 12)) none)))) (cond (Nat.ble pc 14) (cond (Nat.ble pc 12) (cond (Nat.beq pc 12) (some (0, 0, 0, [], 13)) none) (cond (Nat.ble pc 13) (cond (Nat.beq pc 13) (some (42, 0, 0, [], 14)) none) (cond (Nat.beq pc 14) (some (2, 0, 0, [], 15)) none))) (cond (Nat.ble pc 15) (cond (Nat.beq pc 15) (some (22, 1, 21, [3], 18)) none) (cond (Nat.ble pc 18) (cond (Nat.beq pc 18) (some (2, 0, 0, [], 19)) none) (cond (Nat.beq pc 19) (some (21, 6, 44, [3], 22)) none))))) (cond (Nat.ble pc 32) (cond (Nat.ble pc 26) (cond (Nat.ble pc 22) (cond (Nat.beq pc 22) (some (40, 84, 2, [], 25)) none) (cond (Nat.ble pc 25) (cond (Nat.beq pc 25) (some (2, 0, 0, [], 26)) none) (cond (Nat.beq pc 26) (some (22, 2, 30, [3], 29)) none))) (cond (Nat.ble pc 29) (cond (Nat.beq pc 29) (some (1, 0, 1, [], 30)) none) (cond (Nat.ble pc 30) (cond (Nat.beq pc 30) (some (0, 48, 0, [], 32)) none) (cond (Nat.beq pc 32) (some (7, 0, 0, [], 33)) none)))) (cond (Nat.ble pc 37) (cond (Nat.ble pc 33) (cond (Nat.beq pc 33) (some (40, 102, 43, [], 36)) none) (cond (Nat.ble pc 36) (cond (Nat.beq pc 36) (some (2, 0, 0, [], 37)) none) (cond (Nat.beq pc 37) (some (0, 5, 0, [], 38)) none))) (cond (Nat.ble pc 38) (cond (Nat.beq pc 38) (some (23, 3, 34, [3], 41)) none) (cond (Nat.ble pc 41) (cond (Nat.beq pc 41) (some (0, 1, 0, [], 42)) none) (cond (Nat.beq pc 42) (some (42, 0, 0, [], 43)) none)))))) none
def qc37 (pc : Nat) : Option qX := cond (Nat.ble pc 49) (cond (Nat.ble pc 24) (cond (Nat.ble pc 10) (cond (Nat.ble pc 4) (cond (Nat.ble pc 0) (cond (Nat.beq pc 0) (some (2, 0, 0, [], 1)) none) (cond (Nat.ble pc 1) (cond (Nat.beq pc 1) (some (22, 2, 30, [3], 4)) none) (cond (Nat.beq pc 4) (some (40, 98, 40, [], 7)) none))) (cond (Nat.ble pc 8) (cond (Nat.ble pc 7) (cond (Nat.beq pc 7) (some (0, 1, 0, [], 8)) none) (cond (Nat.beq pc 8) (some (7, 0, 0, [], 9)) none)) (cond (Nat.ble pc 9) (cond (Nat.beq pc 9) (some (3, 0, 2, [], 10)) none) (cond (Nat.beq pc 10) (some (2, 0, 0, [], 11)) none)))) (cond (Nat.ble pc 18) (cond (Nat.ble pc 14) (cond (Nat.ble pc 11) (cond (Nat.beq pc 11) (some (22, 2, 30, [3], 14)) none) (cond (Nat.beq pc 14) (some (1, 0, 2, [], 15)) none)) (cond (Nat.ble pc 15) (cond (Nat.beq pc 15) (some (40, 103, 41, [], 18)) none) (cond (Nat.beq pc 18) (some (3, 0, 3, [], 19)) none))) (cond (Nat.ble pc 20) (cond (Nat.ble pc 19) (cond (Nat.beq pc 19) (some (1, 0, 3, [], 20)) none) (cond (Nat.beq pc 20) (some (17, 5, 29, [], 23)) none)) (cond (Nat.ble pc 23) (cond (Nat.beq pc 23) (some (1, 0, 3, [], 24)) none) (cond (Nat.beq pc 24) (some (0, 99, 0, [], 26)) none))))) (cond (Nat.ble pc 37) (cond (Nat.ble pc 31) (cond (Nat.ble pc 29) (cond (Nat.ble pc 26) (cond (Nat.beq pc 26) (some (16, 5, 31, [], 29)) none) (cond (Nat.beq pc 29) (some (0, 0, 0, [], 30)) none)) (cond (Nat.ble pc 30) (cond (Nat.beq pc 30) (some (42, 0, 0, [], 31)) none) (cond (Nat.beq pc 31) (some (2, 0, 0, [], 32)) none))) (cond (Nat.ble pc 35) (cond (Nat.ble pc 32) (cond (Nat.beq pc 32) (some (22, 2, 30, [3], 35)) none) (cond (Nat.beq pc 35) (some (1, 0, 2, [], 36)) none)) (cond (Nat.ble pc 36) (cond (Nat.beq pc 36) (some (1, 0, 3, [], 37)) none) (cond (Nat.beq pc 37) (some (0, 10, 0, [], 39)) none)))) (cond (Nat.ble pc 42) (cond (Nat.ble pc 40) (cond (Nat.ble pc 39) (cond (Nat.beq pc 39) (some (8, 0, 0, [], 40)) none) (cond (Nat.beq pc 40) (some (1, 0, 1, [], 41)) none)) (cond (Nat.ble pc 41) (cond (Nat.beq pc 41) (some (6, 0, 0, [], 42)) none) (cond (Nat.beq pc 42) (some (0, 48, 0, [], 44)) none))) (cond (Nat.ble pc 45) (cond (Nat.ble pc 44) (cond (Nat.beq pc 44) (some (7, 0, 0, [], 45)) none) (cond (Nat.beq pc 45) (some (40, 106, 42, [], 48)) none)) (cond (Nat.ble pc 48) (cond (Nat.beq pc 48) (some (0, 1, 0, [], 49)) none) (cond (Nat.beq pc 49) (some (42, 0, 0, [], 50)) none)))))) none
def qc38 (pc : Nat) : Option qX := cond (Nat.ble pc 27) (cond (Nat.ble pc 12) (cond (Nat.ble pc 6) (cond (Nat.ble pc 1) (cond (Nat.ble pc 0) (cond (Nat.beq pc 0) (some (1, 0, 1, [], 1)) none) (cond (Nat.beq pc 1) (some (0, 125, 0, [], 3)) none)) (cond (Nat.ble pc 3) (cond (Nat.beq pc 3) (some (16, 1, 11, [], 6)) none) (cond (Nat.beq pc 6) (some (2, 0, 0, [], 7)) none))) (cond (Nat.ble pc 10) (cond (Nat.ble pc 7) (cond (Nat.beq pc 7) (some (40, 61, 33, [], 10)) none) (cond (Nat.beq pc 10) (some (42, 0, 0, [], 11)) none)) (cond (Nat.ble pc 11) (cond (Nat.beq pc 11) (some (2, 0, 0, [], 12)) none) (cond (Nat.beq pc 12) (some (0, 2, 0, [], 13)) none)))) (cond (Nat.ble pc 19) (cond (Nat.ble pc 16) (cond (Nat.ble pc 13) (cond (Nat.beq pc 13) (some (23, 3, 34, [3], 16)) none) (cond (Nat.beq pc 16) (some (1, 0, 1, [], 17)) none)) (cond (Nat.ble pc 17) (cond (Nat.beq pc 17) (some (0, 44, 0, [], 19)) none) (cond (Nat.beq pc 19) (some (16, 1, 26, [], 22)) none))) (cond (Nat.ble pc 23) (cond (Nat.ble pc 22) (cond (Nat.beq pc 22) (some (0, 1, 0, [], 23)) none) (cond (Nat.beq pc 23) (some (15, 0, 27, [], 26)) none)) (cond (Nat.ble pc 26) (cond (Nat.beq pc 26) (some (0, 0, 0, [], 27)) none) (cond (Nat.beq pc 27) (some (42, 0, 0, [], 28)) none))))) none
def qc39 (pc : Nat) : Option qX := cond (Nat.ble pc 20) (cond (Nat.ble pc 7) (cond (Nat.ble pc 4) (cond (Nat.ble pc 0) (cond (Nat.beq pc 0) (some (2, 0, 0, [], 1)) none) (cond (Nat.ble pc 1) (cond (Nat.beq pc 1) (some (34, 0, 3, [], 4)) none) (cond (Nat.beq pc 4) (some (2, 0, 0, [], 5)) none))) (cond (Nat.ble pc 5) (cond (Nat.beq pc 5) (some (0, 0, 0, [], 6)) none) (cond (Nat.ble pc 6) (cond (Nat.beq pc 6) (some (1, 0, 1, [], 7)) none) (cond (Nat.beq pc 7) (some (33, 0, 9, [], 10)) none)))) (cond (Nat.ble pc 15) (cond (Nat.ble pc 10) (cond (Nat.beq pc 10) (some (30, 0, 0, [], 12)) none) (cond (Nat.ble pc 12) (cond (Nat.beq pc 12) (some (24, 0, 15, [4], 15)) none) (cond (Nat.beq pc 15) (some (2, 0, 0, [], 16)) none))) (cond (Nat.ble pc 16) (cond (Nat.beq pc 16) (some (0, 0, 0, [], 17)) none) (cond (Nat.ble pc 17) (cond (Nat.beq pc 17) (some (23, 1, 21, [4], 20)) none) (cond (Nat.beq pc 20) (some (44, 0, 0, [], 21)) none))))) none
def qc40 (pc : Nat) : Option qX := cond (Nat.ble pc 4) (cond (Nat.ble pc 0) (cond (Nat.beq pc 0) (some (2, 0, 0, [], 1)) none) (cond (Nat.ble pc 1) (cond (Nat.beq pc 1) (some (21, 1, 21, [4], 4)) none) (cond (Nat.beq pc 4) (some (41, 0, 0, [], 5)) none))) none
def qc41 (pc : Nat) : Option qX := cond (Nat.ble pc 32) (cond (Nat.ble pc 14) (cond (Nat.ble pc 5) (cond (Nat.ble pc 1) (cond (Nat.ble pc 0) (cond (Nat.beq pc 0) (some (1, 0, 1, [], 1)) none) (cond (Nat.beq pc 1) (some (17, 2, 30, [], 4)) none)) (cond (Nat.ble pc 4) (cond (Nat.beq pc 4) (some (1, 0, 1, [], 5)) none) (cond (Nat.beq pc 5) (some (2, 0, 0, [], 6)) none))) (cond (Nat.ble pc 9) (cond (Nat.ble pc 6) (cond (Nat.beq pc 6) (some (21, 1, 21, [4], 9)) none) (cond (Nat.beq pc 9) (some (16, 3, 30, [], 12)) none)) (cond (Nat.ble pc 12) (cond (Nat.beq pc 12) (some (1, 0, 1, [], 13)) none) (cond (Nat.ble pc 13) (cond (Nat.beq pc 13) (some (2, 0, 0, [], 14)) none) (cond (Nat.beq pc 14) (some (22, 0, 15, [4], 17)) none))))) (cond (Nat.ble pc 22) (cond (Nat.ble pc 18) (cond (Nat.ble pc 17) (cond (Nat.beq pc 17) (some (29, 0, 0, [], 18)) none) (cond (Nat.beq pc 18) (some (16, 3, 30, [], 21)) none)) (cond (Nat.ble pc 21) (cond (Nat.beq pc 21) (some (2, 0, 0, [], 22)) none) (cond (Nat.beq pc 22) (some (22, 0, 15, [4], 25)) none))) (cond (Nat.ble pc 26) (cond (Nat.ble pc 25) (cond (Nat.beq pc 25) (some (1, 0, 1, [], 26)) none) (cond (Nat.beq pc 26) (some (25, 0, 0, [], 27)) none)) (cond (Nat.ble pc 27) (cond (Nat.beq pc 27) (some (15, 0, 32, [], 30)) none) (cond (Nat.ble pc 30) (cond (Nat.beq pc 30) (some (0, (-9), 0, [], 32)) none) (cond (Nat.beq pc 32) (some (41, 0, 0, [], 33)) none)))))) none
def qc42 (pc : Nat) : Option qX := cond (Nat.ble pc 28) (cond (Nat.ble pc 13) (cond (Nat.ble pc 5) (cond (Nat.ble pc 1) (cond (Nat.ble pc 0) (cond (Nat.beq pc 0) (some (1, 0, 1, [], 1)) none) (cond (Nat.beq pc 1) (some (17, 2, 28, [], 4)) none)) (cond (Nat.ble pc 4) (cond (Nat.beq pc 4) (some (1, 0, 1, [], 5)) none) (cond (Nat.beq pc 5) (some (2, 0, 0, [], 6)) none))) (cond (Nat.ble pc 9) (cond (Nat.ble pc 6) (cond (Nat.beq pc 6) (some (21, 1, 21, [4], 9)) none) (cond (Nat.beq pc 9) (some (16, 3, 28, [], 12)) none)) (cond (Nat.ble pc 12) (cond (Nat.beq pc 12) (some (1, 0, 1, [], 13)) none) (cond (Nat.beq pc 13) (some (2, 0, 0, [], 14)) none)))) (cond (Nat.ble pc 21) (cond (Nat.ble pc 17) (cond (Nat.ble pc 14) (cond (Nat.beq pc 14) (some (22, 0, 15, [4], 17)) none) (cond (Nat.beq pc 17) (some (29, 0, 0, [], 18)) none)) (cond (Nat.ble pc 18) (cond (Nat.beq pc 18) (some (16, 3, 28, [], 21)) none) (cond (Nat.beq pc 21) (some (2, 0, 0, [], 22)) none))) (cond (Nat.ble pc 25) (cond (Nat.ble pc 22) (cond (Nat.beq pc 22) (some (22, 0, 15, [4], 25)) none) (cond (Nat.beq pc 25) (some (1, 0, 1, [], 26)) none)) (cond (Nat.ble pc 26) (cond (Nat.beq pc 26) (some (1, 0, 2, [], 27)) none) (cond (Nat.ble pc 27) (cond (Nat.beq pc 27) (some (26, 0, 0, [], 28)) none) (cond (Nat.beq pc 28) (some (44, 0, 0, [], 29)) none)))))) none
def qc43 (pc : Nat) : Option qX := cond (Nat.ble pc 39) (cond (Nat.ble pc 20) (cond (Nat.ble pc 8) (cond (Nat.ble pc 1) (cond (Nat.ble pc 0) (cond (Nat.beq pc 0) (some (2, 0, 0, [], 1)) none) (cond (Nat.beq pc 1) (some (21, 1, 21, [4], 4)) none)) (cond (Nat.ble pc 4) (cond (Nat.beq pc 4) (some (17, 2, 39, [], 7)) none) (cond (Nat.ble pc 7) (cond (Nat.beq pc 7) (some (2, 0, 0, [], 8)) none) (cond (Nat.beq pc 8) (some (21, 1, 21, [4], 11)) none)))) (cond (Nat.ble pc 15) (cond (Nat.ble pc 11) (cond (Nat.beq pc 11) (some (2, 0, 0, [], 12)) none) (cond (Nat.ble pc 12) (cond (Nat.beq pc 12) (some (22, 0, 15, [4], 15)) none) (cond (Nat.beq pc 15) (some (29, 0, 0, [], 16)) none))) (cond (Nat.ble pc 16) (cond (Nat.beq pc 16) (some (16, 3, 39, [], 19)) none) (cond (Nat.ble pc 19) (cond (Nat.beq pc 19) (some (2, 0, 0, [], 20)) none) (cond (Nat.beq pc 20) (some (22, 0, 15, [4], 23)) none))))) (cond (Nat.ble pc 29) (cond (Nat.ble pc 24) (cond (Nat.ble pc 23) (cond (Nat.beq pc 23) (some (2, 0, 0, [], 24)) none) (cond (Nat.beq pc 24) (some (21, 1, 21, [4], 27)) none)) (cond (Nat.ble pc 27) (cond (Nat.beq pc 27) (some (1, 0, 1, [], 28)) none) (cond (Nat.ble pc 28) (cond (Nat.beq pc 28) (some (26, 0, 0, [], 29)) none) (cond (Nat.beq pc 29) (some (2, 0, 0, [], 30)) none)))) (cond (Nat.ble pc 34) (cond (Nat.ble pc 30) (cond (Nat.beq pc 30) (some (12, 0, 0, [], 31)) none) (cond (Nat.ble pc 31) (cond (Nat.beq pc 31) (some (21, 1, 21, [4], 34)) none) (cond (Nat.beq pc 34) (some (0, 1, 0, [], 35)) none))) (cond (Nat.ble pc 35) (cond (Nat.beq pc 35) (some (6, 0, 0, [], 36)) none) (cond (Nat.ble pc 36) (cond (Nat.beq pc 36) (some (23, 1, 21, [4], 39)) none) (cond (Nat.beq pc 39) (some (44, 0, 0, [], 40)) none)))))) none
def qc44 (pc : Nat) : Option qX := cond (Nat.ble pc 17) (cond (Nat.ble pc 6) (cond (Nat.ble pc 1) (cond (Nat.ble pc 0) (cond (Nat.beq pc 0) (some (1, 0, 1, [], 1)) none) (cond (Nat.beq pc 1) (some (17, 2, 17, [], 4)) none)) (cond (Nat.ble pc 4) (cond (Nat.beq pc 4) (some (1, 0, 1, [], 5)) none) (cond (Nat.ble pc 5) (cond (Nat.beq pc 5) (some (2, 0, 0, [], 6)) none) (cond (Nat.beq pc 6) (some (21, 1, 21, [4], 9)) none)))) (cond (Nat.ble pc 12) (cond (Nat.ble pc 9) (cond (Nat.beq pc 9) (some (16, 3, 17, [], 12)) none) (cond (Nat.beq pc 12) (some (2, 0, 0, [], 13)) none)) (cond (Nat.ble pc 13) (cond (Nat.beq pc 13) (some (1, 0, 1, [], 14)) none) (cond (Nat.ble pc 14) (cond (Nat.beq pc 14) (some (23, 1, 21, [4], 17)) none) (cond (Nat.beq pc 17) (some (44, 0, 0, [], 18)) none))))) none
def qc45 (pc : Nat) : Option qX := cond (Nat.ble pc 30) (cond (Nat.ble pc 9) (cond (Nat.ble pc 5) (cond (Nat.ble pc 1) (cond (Nat.ble pc 0) (cond (Nat.beq pc 0) (some (2, 0, 0, [], 1)) none) (cond (Nat.beq pc 1) (some (0, 0, 0, [], 2)) none)) (cond (Nat.ble pc 2) (cond (Nat.beq pc 2) (some (23, 1, 21, [4], 5)) none) (cond (Nat.beq pc 5) (some (0, 0, 0, [], 6)) none))) (cond (Nat.ble pc 7) (cond (Nat.ble pc 6) (cond (Nat.beq pc 6) (some (3, 0, 2, [], 7)) none) (cond (Nat.beq pc 7) (some (1, 0, 2, [], 8)) none)) (cond (Nat.ble pc 8) (cond (Nat.beq pc 8) (some (2, 0, 1, [], 9)) none) (cond (Nat.beq pc 9) (some (40, 25, 40, [], 12)) none)))) (cond (Nat.ble pc 17) (cond (Nat.ble pc 15) (cond (Nat.ble pc 12) (cond (Nat.beq pc 12) (some (16, 3, 30, [], 15)) none) (cond (Nat.beq pc 15) (some (2, 0, 0, [], 16)) none)) (cond (Nat.ble pc 16) (cond (Nat.beq pc 16) (some (2, 0, 1, [], 17)) none) (cond (Nat.beq pc 17) (some (1, 0, 2, [], 18)) none))) (cond (Nat.ble pc 21) (cond (Nat.ble pc 18) (cond (Nat.beq pc 18) (some (40, 28, 41, [], 21)) none) (cond (Nat.beq pc 21) (some (40, 32, 43, [], 24)) none)) (cond (Nat.ble pc 24) (cond (Nat.beq pc 24) (some (5, 1, 2, [], 27)) none) (cond (Nat.ble pc 27) (cond (Nat.beq pc 27) (some (15, 0, 7, [], 30)) none) (cond (Nat.beq pc 30) (some (44, 0, 0, [], 31)) none)))))) none
def qc46 (pc : Nat) : Option qX := cond (Nat.ble pc 54) (cond (Nat.ble pc 24) (cond (Nat.ble pc 13) (cond (Nat.ble pc 4) (cond (Nat.ble pc 0) (cond (Nat.beq pc 0) (some (2, 0, 0, [], 1)) none) (cond (Nat.ble pc 1) (cond (Nat.beq pc 1) (some (34, 0, 3, [], 4)) none) (cond (Nat.beq pc 4) (some (2, 0, 0, [], 5)) none))) (cond (Nat.ble pc 7) (cond (Nat.ble pc 5) (cond (Nat.beq pc 5) (some (0, 40, 0, [], 7)) none) (cond (Nat.beq pc 7) (some (31, 0, 9, [0], 10)) none)) (cond (Nat.ble pc 10) (cond (Nat.beq pc 10) (some (24, 0, 11, [5], 13)) none) (cond (Nat.beq pc 13) (some (0, 0, 0, [], 14)) none)))) (cond (Nat.ble pc 16) (cond (Nat.ble pc 14) (cond (Nat.beq pc 14) (some (3, 0, 1, [], 15)) none) (cond (Nat.ble pc 15) (cond (Nat.beq pc 15) (some (1, 0, 1, [], 16)) none) (cond (Nat.beq pc 16) (some (2, 0, 0, [], 17)) none))) (cond (Nat.ble pc 20) (cond (Nat.ble pc 17) (cond (Nat.beq pc 17) (some (22, 0, 11, [5], 20)) none) (cond (Nat.beq pc 20) (some (29, 0, 0, [], 21)) none)) (cond (Nat.ble pc 21) (cond (Nat.beq pc 21) (some (16, 3, 43, [], 24)) none) (cond (Nat.beq pc 24) (some (2, 0, 0, [], 25)) none))))) (cond (Nat.ble pc 37) (cond (Nat.ble pc 29) (cond (Nat.ble pc 25) (cond (Nat.beq pc 25) (some (22, 0, 11, [5], 28)) none) (cond (Nat.ble pc 28) (cond (Nat.beq pc 28) (some (1, 0, 1, [], 29)) none) (cond (Nat.beq pc 29) (some (32, 0, 9, [0], 32)) none))) (cond (Nat.ble pc 33) (cond (Nat.ble pc 32) (cond (Nat.beq pc 32) (some (12, 0, 0, [], 33)) none) (cond (Nat.beq pc 33) (some (40, 17, 0, [], 36)) none)) (cond (Nat.ble pc 36) (cond (Nat.beq pc 36) (some (28, 0, 0, [], 37)) none) (cond (Nat.beq pc 37) (some (5, 1, 1, [], 40)) none)))) (cond (Nat.ble pc 44) (cond (Nat.ble pc 40) (cond (Nat.beq pc 40) (some (15, 0, 15, [], 43)) none) (cond (Nat.ble pc 43) (cond (Nat.beq pc 43) (some (2, 0, 0, [], 44)) none) (cond (Nat.beq pc 44) (some (32, 0, 9, [0], 47)) none))) (cond (Nat.ble pc 48) (cond (Nat.ble pc 47) (cond (Nat.beq pc 47) (some (12, 0, 0, [], 48)) none) (cond (Nat.beq pc 48) (some (40, 17, 0, [], 51)) none)) (cond (Nat.ble pc 51) (cond (Nat.beq pc 51) (some (24, 1, 18, [5], 54)) none) (cond (Nat.beq pc 54) (some (44, 0, 0, [], 55)) none)))))) none
def qc47 (pc : Nat) : Option qX := cond (Nat.ble pc 37) (cond (Nat.ble pc 18) (cond (Nat.ble pc 6) (cond (Nat.ble pc 1) (cond (Nat.ble pc 0) (cond (Nat.beq pc 0) (some (1, 0, 1, [], 1)) none) (cond (Nat.beq pc 1) (some (17, 2, 13, [], 4)) none)) (cond (Nat.ble pc 4) (cond (Nat.beq pc 4) (some (1, 0, 1, [], 5)) none) (cond (Nat.ble pc 5) (cond (Nat.beq pc 5) (some (2, 0, 0, [], 6)) none) (cond (Nat.beq pc 6) (some (22, 0, 11, [5], 9)) none)))) (cond (Nat.ble pc 13) (cond (Nat.ble pc 9) (cond (Nat.beq pc 9) (some (29, 0, 0, [], 10)) none) (cond (Nat.ble pc 10) (cond (Nat.beq pc 10) (some (16, 2, 18, [], 13)) none) (cond (Nat.beq pc 13) (some (2, 0, 0, [], 14)) none))) (cond (Nat.ble pc 14) (cond (Nat.beq pc 14) (some (22, 1, 18, [5], 17)) none) (cond (Nat.ble pc 17) (cond (Nat.beq pc 17) (some (43, 0, 0, [], 18)) none) (cond (Nat.beq pc 18) (some (2, 0, 0, [], 19)) none))))) (cond (Nat.ble pc 25) (cond (Nat.ble pc 22) (cond (Nat.ble pc 19) (cond (Nat.beq pc 19) (some (22, 0, 11, [5], 22)) none) (cond (Nat.beq pc 22) (some (1, 0, 1, [], 23)) none)) (cond (Nat.ble pc 23) (cond (Nat.beq pc 23) (some (27, 0, 0, [], 24)) none) (cond (Nat.ble pc 24) (cond (Nat.beq pc 24) (some (4, 0, 2, [], 25)) none) (cond (Nat.beq pc 25) (some (2, 0, 2, [], 26)) none)))) (cond (Nat.ble pc 30) (cond (Nat.ble pc 26) (cond (Nat.beq pc 26) (some (19, 0, 36, [], 29)) none) (cond (Nat.ble pc 29) (cond (Nat.beq pc 29) (some (2, 0, 0, [], 30)) none) (cond (Nat.beq pc 30) (some (22, 1, 18, [5], 33)) none))) (cond (Nat.ble pc 33) (cond (Nat.beq pc 33) (some (15, 0, 37, [], 36)) none) (cond (Nat.ble pc 36) (cond (Nat.beq pc 36) (some (2, 0, 2, [], 37)) none) (cond (Nat.beq pc 37) (some (43, 0, 0, [], 38)) none)))))) none
def qc48 (pc : Nat) : Option qX := cond (Nat.ble pc 28) (cond (Nat.ble pc 9) (cond (Nat.ble pc 3) (cond (Nat.ble pc 1) (cond (Nat.ble pc 0) (cond (Nat.beq pc 0) (some (0, 0, 0, [], 1)) none) (cond (Nat.beq pc 1) (some (3, 0, 3, [], 2)) none)) (cond (Nat.ble pc 2) (cond (Nat.beq pc 2) (some (1, 0, 3, [], 3)) none) (cond (Nat.beq pc 3) (some (1, 0, 2, [], 4)) none))) (cond (Nat.ble pc 7) (cond (Nat.ble pc 4) (cond (Nat.beq pc 4) (some (16, 3, 27, [], 7)) none) (cond (Nat.beq pc 7) (some (2, 0, 0, [], 8)) none)) (cond (Nat.ble pc 8) (cond (Nat.beq pc 8) (some (1, 0, 3, [], 9)) none) (cond (Nat.beq pc 9) (some (40, 22, 47, [], 12)) none)))) (cond (Nat.ble pc 19) (cond (Nat.ble pc 13) (cond (Nat.ble pc 12) (cond (Nat.beq pc 12) (some (2, 0, 1, [], 13)) none) (cond (Nat.beq pc 13) (some (40, 26, 12, [], 16)) none)) (cond (Nat.ble pc 16) (cond (Nat.beq pc 16) (some (17, 0, 21, [], 19)) none) (cond (Nat.beq pc 19) (some (1, 0, 3, [], 20)) none))) (cond (Nat.ble pc 21) (cond (Nat.ble pc 20) (cond (Nat.beq pc 20) (some (41, 0, 0, [], 21)) none) (cond (Nat.beq pc 21) (some (5, 1, 3, [], 24)) none)) (cond (Nat.ble pc 24) (cond (Nat.beq pc 24) (some (15, 0, 2, [], 27)) none) (cond (Nat.ble pc 27) (cond (Nat.beq pc 27) (some (1, 0, 2, [], 28)) none) (cond (Nat.beq pc 28) (some (41, 0, 0, [], 29)) none)))))) none
def qc49 (pc : Nat) : Option qX := cond (Nat.ble pc 22) (cond (Nat.ble pc 9) (cond (Nat.ble pc 4) (cond (Nat.ble pc 0) (cond (Nat.beq pc 0) (some (1, 0, 1, [], 1)) none) (cond (Nat.ble pc 1) (cond (Nat.beq pc 1) (some (17, 2, 22, [], 4)) none) (cond (Nat.beq pc 4) (some (1, 0, 1, [], 5)) none))) (cond (Nat.ble pc 5) (cond (Nat.beq pc 5) (some (2, 0, 0, [], 6)) none) (cond (Nat.ble pc 6) (cond (Nat.beq pc 6) (some (22, 0, 11, [5], 9)) none) (cond (Nat.beq pc 9) (some (29, 0, 0, [], 10)) none)))) (cond (Nat.ble pc 14) (cond (Nat.ble pc 10) (cond (Nat.beq pc 10) (some (16, 3, 22, [], 13)) none) (cond (Nat.ble pc 13) (cond (Nat.beq pc 13) (some (2, 0, 0, [], 14)) none) (cond (Nat.beq pc 14) (some (1, 0, 1, [], 15)) none))) (cond (Nat.ble pc 18) (cond (Nat.ble pc 15) (cond (Nat.beq pc 15) (some (40, 22, 47, [], 18)) none) (cond (Nat.beq pc 18) (some (2, 0, 2, [], 19)) none)) (cond (Nat.ble pc 19) (cond (Nat.beq pc 19) (some (40, 30, 3, [], 22)) none) (cond (Nat.beq pc 22) (some (44, 0, 0, [], 23)) none))))) none
def qc50 (pc : Nat) : Option qX := cond (Nat.ble pc 46) (cond (Nat.ble pc 22) (cond (Nat.ble pc 9) (cond (Nat.ble pc 4) (cond (Nat.ble pc 0) (cond (Nat.beq pc 0) (some (2, 0, 0, [], 1)) none) (cond (Nat.ble pc 1) (cond (Nat.beq pc 1) (some (34, 0, 3, [], 4)) none) (cond (Nat.beq pc 4) (some (2, 0, 0, [], 5)) none))) (cond (Nat.ble pc 5) (cond (Nat.beq pc 5) (some (32, 0, 9, [4], 8)) none) (cond (Nat.ble pc 8) (cond (Nat.beq pc 8) (some (12, 0, 0, [], 9)) none) (cond (Nat.beq pc 9) (some (0, 30, 0, [], 11)) none)))) (cond (Nat.ble pc 17) (cond (Nat.ble pc 11) (cond (Nat.beq pc 11) (some (40, 11, 39, [], 14)) none) (cond (Nat.ble pc 14) (cond (Nat.beq pc 14) (some (24, 0, 14, [6], 17)) none) (cond (Nat.beq pc 17) (some (2, 0, 0, [], 18)) none))) (cond (Nat.ble pc 18) (cond (Nat.beq pc 18) (some (32, 0, 9, [4], 21)) none) (cond (Nat.ble pc 21) (cond (Nat.beq pc 21) (some (12, 0, 0, [], 22)) none) (cond (Nat.beq pc 22) (some (0, 300, 0, [], 25)) none))))) (cond (Nat.ble pc 36) (cond (Nat.ble pc 31) (cond (Nat.ble pc 25) (cond (Nat.beq pc 25) (some (40, 11, 39, [], 28)) none) (cond (Nat.ble pc 28) (cond (Nat.beq pc 28) (some (24, 1, 20, [6], 31)) none) (cond (Nat.beq pc 31) (some (2, 0, 0, [], 32)) none))) (cond (Nat.ble pc 32) (cond (Nat.beq pc 32) (some (0, 0, 0, [], 33)) none) (cond (Nat.ble pc 33) (cond (Nat.beq pc 33) (some (23, 2, 23, [6], 36)) none) (cond (Nat.beq pc 36) (some (2, 0, 0, [], 37)) none)))) (cond (Nat.ble pc 41) (cond (Nat.ble pc 37) (cond (Nat.beq pc 37) (some (0, 0, 0, [], 38)) none) (cond (Nat.ble pc 38) (cond (Nat.beq pc 38) (some (23, 3, 27, [6], 41)) none) (cond (Nat.beq pc 41) (some (2, 0, 0, [], 42)) none))) (cond (Nat.ble pc 42) (cond (Nat.beq pc 42) (some (0, 2, 0, [], 43)) none) (cond (Nat.ble pc 43) (cond (Nat.beq pc 43) (some (23, 4, 30, [6], 46)) none) (cond (Nat.beq pc 46) (some (44, 0, 0, [], 47)) none)))))) none
def qc51 (pc : Nat) : Option qX := cond (Nat.ble pc 46) (cond (Nat.ble pc 22) (cond (Nat.ble pc 8) (cond (Nat.ble pc 1) (cond (Nat.ble pc 0) (cond (Nat.beq pc 0) (some (2, 0, 0, [], 1)) none) (cond (Nat.beq pc 1) (some (22, 0, 14, [6], 4)) none)) (cond (Nat.ble pc 4) (cond (Nat.beq pc 4) (some (2, 0, 1, [], 5)) none) (cond (Nat.ble pc 5) (cond (Nat.beq pc 5) (some (22, 0, 14, [6], 8)) none) (cond (Nat.beq pc 8) (some (40, 33, 45, [], 11)) none)))) (cond (Nat.ble pc 15) (cond (Nat.ble pc 11) (cond (Nat.beq pc 11) (some (2, 0, 0, [], 12)) none) (cond (Nat.ble pc 12) (cond (Nat.beq pc 12) (some (22, 1, 20, [6], 15)) none) (cond (Nat.beq pc 15) (some (2, 0, 1, [], 16)) none))) (cond (Nat.ble pc 16) (cond (Nat.beq pc 16) (some (22, 1, 20, [6], 19)) none) (cond (Nat.ble pc 19) (cond (Nat.beq pc 19) (some (40, 33, 45, [], 22)) none) (cond (Nat.beq pc 22) (some (2, 0, 0, [], 23)) none))))) (cond (Nat.ble pc 32) (cond (Nat.ble pc 27) (cond (Nat.ble pc 23) (cond (Nat.beq pc 23) (some (2, 0, 1, [], 24)) none) (cond (Nat.ble pc 24) (cond (Nat.beq pc 24) (some (21, 2, 23, [6], 27)) none) (cond (Nat.beq pc 27) (some (23, 2, 23, [6], 30)) none))) (cond (Nat.ble pc 30) (cond (Nat.beq pc 30) (some (2, 0, 0, [], 31)) none) (cond (Nat.ble pc 31) (cond (Nat.beq pc 31) (some (2, 0, 1, [], 32)) none) (cond (Nat.beq pc 32) (some (21, 3, 27, [6], 35)) none)))) (cond (Nat.ble pc 39) (cond (Nat.ble pc 35) (cond (Nat.beq pc 35) (some (23, 3, 27, [6], 38)) none) (cond (Nat.ble pc 38) (cond (Nat.beq pc 38) (some (2, 0, 0, [], 39)) none) (cond (Nat.beq pc 39) (some (2, 0, 1, [], 40)) none))) (cond (Nat.ble pc 40) (cond (Nat.beq pc 40) (some (21, 4, 30, [6], 43)) none) (cond (Nat.ble pc 43) (cond (Nat.beq pc 43) (some (23, 4, 30, [6], 46)) none) (cond (Nat.beq pc 46) (some (44, 0, 0, [], 47)) none)))))) none
def qc52 (pc : Nat) : Option qX := cond (Nat.ble pc 43) (cond (Nat.ble pc 17) (cond (Nat.ble pc 8) (cond (Nat.ble pc 1) (cond (Nat.ble pc 0) (cond (Nat.beq pc 0) (some (2, 0, 0, [], 1)) none) (cond (Nat.beq pc 1) (some (22, 0, 14, [6], 4)) none)) (cond (Nat.ble pc 4) (cond (Nat.beq pc 4) (some (1, 0, 1, [], 5)) none) (cond (Nat.ble pc 5) (cond (Nat.beq pc 5) (some (40, 37, 43, [], 8)) none) (cond (Nat.beq pc 8) (some (0, 0, 0, [], 9)) none)))) (cond (Nat.ble pc 11) (cond (Nat.ble pc 9) (cond (Nat.beq pc 9) (some (3, 0, 3, [], 10)) none) (cond (Nat.ble pc 10) (cond (Nat.beq pc 10) (some (1, 0, 3, [], 11)) none) (cond (Nat.beq pc 11) (some (0, 10, 0, [], 13)) none))) (cond (Nat.ble pc 13) (cond (Nat.beq pc 13) (some (16, 3, 34, [], 16)) none) (cond (Nat.ble pc 16) (cond (Nat.beq pc 16) (some (2, 0, 0, [], 17)) none) (cond (Nat.beq pc 17) (some (22, 1, 20, [6], 20)) none))))) (cond (Nat.ble pc 31) (cond (Nat.ble pc 22) (cond (Nat.ble pc 20) (cond (Nat.beq pc 20) (some (2, 0, 2, [], 21)) none) (cond (Nat.ble pc 21) (cond (Nat.beq pc 21) (some (1, 0, 3, [], 22)) none) (cond (Nat.beq pc 22) (some (40, 40, 41, [], 25)) none))) (cond (Nat.ble pc 25) (cond (Nat.beq pc 25) (some (40, 37, 43, [], 28)) none) (cond (Nat.ble pc 28) (cond (Nat.beq pc 28) (some (5, 1, 3, [], 31)) none) (cond (Nat.beq pc 31) (some (15, 0, 10, [], 34)) none)))) (cond (Nat.ble pc 38) (cond (Nat.ble pc 34) (cond (Nat.beq pc 34) (some (2, 0, 0, [], 35)) none) (cond (Nat.ble pc 35) (cond (Nat.beq pc 35) (some (22, 0, 14, [6], 38)) none) (cond (Nat.beq pc 38) (some (40, 44, 40, [], 41)) none))) (cond (Nat.ble pc 41) (cond (Nat.beq pc 41) (some (0, 1, 0, [], 42)) none) (cond (Nat.ble pc 42) (cond (Nat.beq pc 42) (some (7, 0, 0, [], 43)) none) (cond (Nat.beq pc 43) (some (41, 0, 0, [], 44)) none)))))) none
def qc53 (pc : Nat) : Option qX := cond (Nat.ble pc 8) (cond (Nat.ble pc 1) (cond (Nat.ble pc 0) (cond (Nat.beq pc 0) (some (2, 0, 0, [], 1)) none) (cond (Nat.beq pc 1) (some (22, 0, 14, [6], 4)) none)) (cond (Nat.ble pc 4) (cond (Nat.beq pc 4) (some (1, 0, 1, [], 5)) none) (cond (Nat.ble pc 5) (cond (Nat.beq pc 5) (some (40, 40, 41, [], 8)) none) (cond (Nat.beq pc 8) (some (41, 0, 0, [], 9)) none)))) none
def qc54 (pc : Nat) : Option qX := cond (Nat.ble pc 9) (cond (Nat.ble pc 4) (cond (Nat.ble pc 0) (cond (Nat.beq pc 0) (some (2, 0, 0, [], 1)) none) (cond (Nat.ble pc 1) (cond (Nat.beq pc 1) (some (22, 0, 14, [6], 4)) none) (cond (Nat.beq pc 4) (some (1, 0, 1, [], 5)) none))) (cond (Nat.ble pc 5) (cond (Nat.beq pc 5) (some (1, 0, 2, [], 6)) none) (cond (Nat.ble pc 6) (cond (Nat.beq pc 6) (some (40, 48, 42, [], 9)) none) (cond (Nat.beq pc 9) (some (44, 0, 0, [], 10)) none)))) none
def qc55 (pc : Nat) : Option qX := cond (Nat.ble pc 18) (cond (Nat.ble pc 8) (cond (Nat.ble pc 1) (cond (Nat.ble pc 0) (cond (Nat.beq pc 0) (some (2, 0, 0, [], 1)) none) (cond (Nat.beq pc 1) (some (22, 0, 14, [6], 4)) none)) (cond (Nat.ble pc 4) (cond (Nat.beq pc 4) (some (1, 0, 1, [], 5)) none) (cond (Nat.ble pc 5) (cond (Nat.beq pc 5) (some (40, 40, 41, [], 8)) none) (cond (Nat.beq pc 8) (some (0, (-9), 0, [], 10)) none)))) (cond (Nat.ble pc 13) (cond (Nat.ble pc 10) (cond (Nat.beq pc 10) (some (16, 0, 17, [], 13)) none) (cond (Nat.beq pc 13) (some (0, 1, 0, [], 14)) none)) (cond (Nat.ble pc 14) (cond (Nat.beq pc 14) (some (15, 0, 18, [], 17)) none) (cond (Nat.ble pc 17) (cond (Nat.beq pc 17) (some (0, 0, 0, [], 18)) none) (cond (Nat.beq pc 18) (some (42, 0, 0, [], 19)) none))))) none
def qc56 (pc : Nat) : Option qX := cond (Nat.ble pc 7) (cond (Nat.ble pc 1) (cond (Nat.ble pc 0) (cond (Nat.beq pc 0) (some (2, 0, 0, [], 1)) none) (cond (Nat.beq pc 1) (some (22, 0, 14, [6], 4)) none)) (cond (Nat.ble pc 4) (cond (Nat.beq pc 4) (some (40, 44, 40, [], 7)) none) (cond (Nat.beq pc 7) (some (41, 0, 0, [], 8)) none))) none
def qc57 (pc : Nat) : Option qX := cond (Nat.ble pc 33) (cond (Nat.ble pc 12) (cond (Nat.ble pc 3) (cond (Nat.ble pc 1) (cond (Nat.ble pc 0) (cond (Nat.beq pc 0) (some (0, 0, 0, [], 1)) none) (cond (Nat.beq pc 1) (some (3, 0, 1, [], 2)) none)) (cond (Nat.ble pc 2) (cond (Nat.beq pc 2) (some (0, 0, 0, [], 3)) none) (cond (Nat.beq pc 3) (some (3, 0, 2, [], 4)) none))) (cond (Nat.ble pc 5) (cond (Nat.ble pc 4) (cond (Nat.beq pc 4) (some (1, 0, 2, [], 5)) none) (cond (Nat.beq pc 5) (some (2, 0, 0, [], 6)) none)) (cond (Nat.ble pc 6) (cond (Nat.beq pc 6) (some (22, 0, 14, [6], 9)) none) (cond (Nat.ble pc 9) (cond (Nat.beq pc 9) (some (40, 44, 40, [], 12)) none) (cond (Nat.beq pc 12) (some (16, 3, 32, [], 15)) none))))) (cond (Nat.ble pc 20) (cond (Nat.ble pc 16) (cond (Nat.ble pc 15) (cond (Nat.beq pc 15) (some (2, 0, 0, [], 16)) none) (cond (Nat.beq pc 16) (some (1, 0, 2, [], 17)) none)) (cond (Nat.ble pc 17) (cond (Nat.beq pc 17) (some (40, 52, 55, [], 20)) none) (cond (Nat.beq pc 20) (some (17, 0, 26, [], 23)) none))) (cond (Nat.ble pc 26) (cond (Nat.ble pc 23) (cond (Nat.beq pc 23) (some (5, 1, 1, [], 26)) none) (cond (Nat.beq pc 26) (some (5, 1, 2, [], 29)) none)) (cond (Nat.ble pc 29) (cond (Nat.beq pc 29) (some (15, 0, 4, [], 32)) none) (cond (Nat.ble pc 32) (cond (Nat.beq pc 32) (some (1, 0, 1, [], 33)) none) (cond (Nat.beq pc 33) (some (41, 0, 0, [], 34)) none)))))) none
def qc58 (pc : Nat) : Option qX := cond (Nat.ble pc 37) (cond (Nat.ble pc 15) (cond (Nat.ble pc 4) (cond (Nat.ble pc 1) (cond (Nat.ble pc 0) (cond (Nat.beq pc 0) (some (0, 0, 0, [], 1)) none) (cond (Nat.beq pc 1) (some (3, 0, 2, [], 2)) none)) (cond (Nat.ble pc 2) (cond (Nat.beq pc 2) (some (0, 0, 0, [], 3)) none) (cond (Nat.ble pc 3) (cond (Nat.beq pc 3) (some (3, 0, 3, [], 4)) none) (cond (Nat.beq pc 4) (some (1, 0, 3, [], 5)) none)))) (cond (Nat.ble pc 6) (cond (Nat.ble pc 5) (cond (Nat.beq pc 5) (some (2, 0, 0, [], 6)) none) (cond (Nat.beq pc 6) (some (22, 0, 14, [6], 9)) none)) (cond (Nat.ble pc 9) (cond (Nat.beq pc 9) (some (40, 44, 40, [], 12)) none) (cond (Nat.ble pc 12) (cond (Nat.beq pc 12) (some (16, 3, 36, [], 15)) none) (cond (Nat.beq pc 15) (some (2, 0, 0, [], 16)) none))))) (cond (Nat.ble pc 24) (cond (Nat.ble pc 19) (cond (Nat.ble pc 16) (cond (Nat.beq pc 16) (some (22, 0, 14, [6], 19)) none) (cond (Nat.beq pc 19) (some (1, 0, 3, [], 20)) none)) (cond (Nat.ble pc 20) (cond (Nat.beq pc 20) (some (40, 40, 41, [], 23)) none) (cond (Nat.ble pc 23) (cond (Nat.beq pc 23) (some (1, 0, 1, [], 24)) none) (cond (Nat.beq pc 24) (some (16, 1, 30, [], 27)) none)))) (cond (Nat.ble pc 30) (cond (Nat.ble pc 27) (cond (Nat.beq pc 27) (some (5, 1, 2, [], 30)) none) (cond (Nat.beq pc 30) (some (5, 1, 3, [], 33)) none)) (cond (Nat.ble pc 33) (cond (Nat.beq pc 33) (some (15, 0, 4, [], 36)) none) (cond (Nat.ble pc 36) (cond (Nat.beq pc 36) (some (1, 0, 2, [], 37)) none) (cond (Nat.beq pc 37) (some (41, 0, 0, [], 38)) none)))))) none
def qc59 (pc : Nat) : Option qX := cond (Nat.ble pc 49) (cond (Nat.ble pc 21) (cond (Nat.ble pc 7) (cond (Nat.ble pc 2) (cond (Nat.ble pc 0) (cond (Nat.beq pc 0) (some (0, 0, 0, [], 1)) none) (cond (Nat.ble pc 1) (cond (Nat.beq pc 1) (some (3, 0, 3, [], 2)) none) (cond (Nat.beq pc 2) (some (0, 0, 0, [], 3)) none))) (cond (Nat.ble pc 3) (cond (Nat.beq pc 3) (some (3, 0, 4, [], 5)) none) (cond (Nat.ble pc 5) (cond (Nat.beq pc 5) (some (1, 0, 4, [], 7)) none) (cond (Nat.beq pc 7) (some (2, 0, 0, [], 8)) none)))) (cond (Nat.ble pc 14) (cond (Nat.ble pc 8) (cond (Nat.beq pc 8) (some (22, 0, 14, [6], 11)) none) (cond (Nat.ble pc 11) (cond (Nat.beq pc 11) (some (40, 44, 40, [], 14)) none) (cond (Nat.beq pc 14) (some (16, 3, 47, [], 17)) none))) (cond (Nat.ble pc 17) (cond (Nat.beq pc 17) (some (2, 0, 0, [], 18)) none) (cond (Nat.ble pc 18) (cond (Nat.beq pc 18) (some (22, 0, 14, [6], 21)) none) (cond (Nat.beq pc 21) (some (1, 0, 4, [], 23)) none))))) (cond (Nat.ble pc 32) (cond (Nat.ble pc 27) (cond (Nat.ble pc 23) (cond (Nat.beq pc 23) (some (40, 40, 41, [], 26)) none) (cond (Nat.ble pc 26) (cond (Nat.beq pc 26) (some (1, 0, 1, [], 27)) none) (cond (Nat.beq pc 27) (some (16, 1, 41, [], 30)) none))) (cond (Nat.ble pc 30) (cond (Nat.beq pc 30) (some (1, 0, 3, [], 31)) none) (cond (Nat.ble pc 31) (cond (Nat.beq pc 31) (some (1, 0, 2, [], 32)) none) (cond (Nat.beq pc 32) (some (16, 1, 38, [], 35)) none)))) (cond (Nat.ble pc 38) (cond (Nat.ble pc 35) (cond (Nat.beq pc 35) (some (1, 0, 4, [], 37)) none) (cond (Nat.ble pc 37) (cond (Nat.beq pc 37) (some (41, 0, 0, [], 38)) none) (cond (Nat.beq pc 38) (some (5, 1, 3, [], 41)) none))) (cond (Nat.ble pc 44) (cond (Nat.ble pc 41) (cond (Nat.beq pc 41) (some (5, 1, 4, [], 44)) none) (cond (Nat.beq pc 44) (some (15, 0, 5, [], 47)) none)) (cond (Nat.ble pc 47) (cond (Nat.beq pc 47) (some (0, (-9), 0, [], 49)) none) (cond (Nat.beq pc 49) (some (41, 0, 0, [], 50)) none)))))) none
def qc60 (pc : Nat) : Option qX := cond (Nat.ble pc 13) (cond (Nat.ble pc 5) (cond (Nat.ble pc 1) (cond (Nat.ble pc 0) (cond (Nat.beq pc 0) (some (2, 0, 0, [], 1)) none) (cond (Nat.beq pc 1) (some (22, 1, 20, [6], 4)) none)) (cond (Nat.ble pc 4) (cond (Nat.beq pc 4) (some (1, 0, 1, [], 5)) none) (cond (Nat.beq pc 5) (some (0, 10, 0, [], 7)) none))) (cond (Nat.ble pc 8) (cond (Nat.ble pc 7) (cond (Nat.beq pc 7) (some (8, 0, 0, [], 8)) none) (cond (Nat.beq pc 8) (some (1, 0, 2, [], 9)) none)) (cond (Nat.ble pc 9) (cond (Nat.beq pc 9) (some (6, 0, 0, [], 10)) none) (cond (Nat.ble pc 10) (cond (Nat.beq pc 10) (some (40, 40, 41, [], 13)) none) (cond (Nat.beq pc 13) (some (41, 0, 0, [], 14)) none))))) none
def qc61 (pc : Nat) : Option qX := cond (Nat.ble pc 14) (cond (Nat.ble pc 7) (cond (Nat.ble pc 1) (cond (Nat.ble pc 0) (cond (Nat.beq pc 0) (some (2, 0, 0, [], 1)) none) (cond (Nat.beq pc 1) (some (22, 1, 20, [6], 4)) none)) (cond (Nat.ble pc 4) (cond (Nat.beq pc 4) (some (1, 0, 1, [], 5)) none) (cond (Nat.ble pc 5) (cond (Nat.beq pc 5) (some (0, 10, 0, [], 7)) none) (cond (Nat.beq pc 7) (some (8, 0, 0, [], 8)) none)))) (cond (Nat.ble pc 9) (cond (Nat.ble pc 8) (cond (Nat.beq pc 8) (some (1, 0, 2, [], 9)) none) (cond (Nat.beq pc 9) (some (6, 0, 0, [], 10)) none)) (cond (Nat.ble pc 10) (cond (Nat.beq pc 10) (some (1, 0, 3, [], 11)) none) (cond (Nat.ble pc 11) (cond (Nat.beq pc 11) (some (40, 48, 42, [], 14)) none) (cond (Nat.beq pc 14) (some (44, 0, 0, [], 15)) none))))) none
def qc62 (pc : Nat) : Option qX := cond (Nat.ble pc 96) (cond (Nat.ble pc 43) (cond (Nat.ble pc 21) (cond (Nat.ble pc 8) (cond (Nat.ble pc 1) (cond (Nat.ble pc 0) (cond (Nat.beq pc 0) (some (2, 0, 0, [], 1)) none) (cond (Nat.beq pc 1) (some (34, 0, 3, [], 4)) none)) (cond (Nat.ble pc 4) (cond (Nat.beq pc 4) (some (2, 0, 0, [], 5)) none) (cond (Nat.ble pc 5) (cond (Nat.beq pc 5) (some (32, 0, 9, [4], 8)) none) (cond (Nat.beq pc 8) (some (12, 0, 0, [], 9)) none)))) (cond (Nat.ble pc 14) (cond (Nat.ble pc 9) (cond (Nat.beq pc 9) (some (0, 80, 0, [], 11)) none) (cond (Nat.ble pc 11) (cond (Nat.beq pc 11) (some (40, 11, 39, [], 14)) none) (cond (Nat.beq pc 14) (some (24, 0, 14, [7], 17)) none))) (cond (Nat.ble pc 17) (cond (Nat.beq pc 17) (some (2, 0, 0, [], 18)) none) (cond (Nat.ble pc 18) (cond (Nat.beq pc 18) (some (32, 0, 9, [4], 21)) none) (cond (Nat.beq pc 21) (some (12, 0, 0, [], 22)) none))))) (cond (Nat.ble pc 31) (cond (Nat.ble pc 24) (cond (Nat.ble pc 22) (cond (Nat.beq pc 22) (some (0, 100, 0, [], 24)) none) (cond (Nat.beq pc 24) (some (40, 11, 39, [], 27)) none)) (cond (Nat.ble pc 27) (cond (Nat.beq pc 27) (some (24, 1, 18, [7], 30)) none) (cond (Nat.ble pc 30) (cond (Nat.beq pc 30) (some (2, 0, 0, [], 31)) none) (cond (Nat.beq pc 31) (some (32, 0, 21, [3], 34)) none)))) (cond (Nat.ble pc 38) (cond (Nat.ble pc 34) (cond (Nat.beq pc 34) (some (12, 0, 0, [], 35)) none) (cond (Nat.ble pc 35) (cond (Nat.beq pc 35) (some (40, 23, 26, [], 38)) none) (cond (Nat.beq pc 38) (some (24, 2, 24, [7], 41)) none))) (cond (Nat.ble pc 41) (cond (Nat.beq pc 41) (some (2, 0, 0, [], 42)) none) (cond (Nat.ble pc 42) (cond (Nat.beq pc 42) (some (2, 0, 0, [], 43)) none) (cond (Nat.beq pc 43) (some (22, 2, 24, [7], 46)) none)))))) (cond (Nat.ble pc 68) (cond (Nat.ble pc 56) (cond (Nat.ble pc 49) (cond (Nat.ble pc 46) (cond (Nat.beq pc 46) (some (22, 0, 28, [3], 49)) none) (cond (Nat.beq pc 49) (some (24, 3, 32, [7], 52)) none)) (cond (Nat.ble pc 52) (cond (Nat.beq pc 52) (some (2, 0, 0, [], 53)) none) (cond (Nat.ble pc 53) (cond (Nat.beq pc 53) (some (32, 0, 33, [5], 56)) none) (cond (Nat.beq pc 56) (some (12, 0, 0, [], 57)) none)))) (cond (Nat.ble pc 63) (cond (Nat.ble pc 57) (cond (Nat.beq pc 57) (some (40, 35, 46, [], 60)) none) (cond (Nat.ble pc 60) (cond (Nat.beq pc 60) (some (24, 4, 36, [7], 63)) none) (cond (Nat.beq pc 63) (some (2, 0, 0, [], 64)) none))) (cond (Nat.ble pc 64) (cond (Nat.beq pc 64) (some (32, 0, 40, [0], 67)) none) (cond (Nat.ble pc 67) (cond (Nat.beq pc 67) (some (12, 0, 0, [], 68)) none) (cond (Nat.beq pc 68) (some (40, 42, 0, [], 71)) none))))) (cond (Nat.ble pc 82) (cond (Nat.ble pc 75) (cond (Nat.ble pc 71) (cond (Nat.beq pc 71) (some (24, 5, 43, [7], 74)) none) (cond (Nat.ble pc 74) (cond (Nat.beq pc 74) (some (2, 0, 0, [], 75)) none) (cond (Nat.beq pc 75) (some (32, 0, 47, [6], 78)) none))) (cond (Nat.ble pc 78) (cond (Nat.beq pc 78) (some (12, 0, 0, [], 79)) none) (cond (Nat.ble pc 79) (cond (Nat.beq pc 79) (some (40, 49, 50, [], 82)) none) (cond (Nat.beq pc 82) (some (24, 6, 50, [7], 85)) none)))) (cond (Nat.ble pc 89) (cond (Nat.ble pc 85) (cond (Nat.beq pc 85) (some (2, 0, 0, [], 86)) none) (cond (Nat.ble pc 86) (cond (Nat.beq pc 86) (some (32, 0, 54, [1], 89)) none) (cond (Nat.beq pc 89) (some (12, 0, 0, [], 90)) none))) (cond (Nat.ble pc 90) (cond (Nat.beq pc 90) (some (40, 56, 14, [], 93)) none) (cond (Nat.ble pc 93) (cond (Nat.beq pc 93) (some (24, 7, 57, [7], 96)) none) (cond (Nat.beq pc 96) (some (44, 0, 0, [], 97)) none))))))) none
def qc63 (pc : Nat) : Option qX := cond (Nat.ble pc 44) (cond (Nat.ble pc 18) (cond (Nat.ble pc 6) (cond (Nat.ble pc 1) (cond (Nat.ble pc 0) (cond (Nat.beq pc 0) (some (1, 0, 1, [], 1)) none) (cond (Nat.beq pc 1) (some (0, 1, 0, [], 2)) none)) (cond (Nat.ble pc 2) (cond (Nat.beq pc 2) (some (16, 2, 12, [], 5)) none) (cond (Nat.ble pc 5) (cond (Nat.beq pc 5) (some (1, 0, 1, [], 6)) none) (cond (Nat.beq pc 6) (some (0, 255, 0, [], 9)) none)))) (cond (Nat.ble pc 13) (cond (Nat.ble pc 9) (cond (Nat.beq pc 9) (some (16, 5, 14, [], 12)) none) (cond (Nat.ble pc 12) (cond (Nat.beq pc 12) (some (0, (-1), 0, [], 13)) none) (cond (Nat.beq pc 13) (some (41, 0, 0, [], 14)) none))) (cond (Nat.ble pc 14) (cond (Nat.beq pc 14) (some (2, 0, 0, [], 15)) none) (cond (Nat.ble pc 15) (cond (Nat.beq pc 15) (some (22, 0, 14, [7], 18)) none) (cond (Nat.beq pc 18) (some (40, 61, 40, [], 21)) none))))) (cond (Nat.ble pc 30) (cond (Nat.ble pc 26) (cond (Nat.ble pc 21) (cond (Nat.beq pc 21) (some (0, 80, 0, [], 23)) none) (cond (Nat.ble pc 23) (cond (Nat.beq pc 23) (some (16, 2, 29, [], 26)) none) (cond (Nat.beq pc 26) (some (0, (-3), 0, [], 28)) none))) (cond (Nat.ble pc 28) (cond (Nat.beq pc 28) (some (41, 0, 0, [], 29)) none) (cond (Nat.ble pc 29) (cond (Nat.beq pc 29) (some (2, 0, 0, [], 30)) none) (cond (Nat.beq pc 30) (some (22, 0, 14, [7], 33)) none)))) (cond (Nat.ble pc 37) (cond (Nat.ble pc 33) (cond (Nat.beq pc 33) (some (1, 0, 1, [], 34)) none) (cond (Nat.ble pc 34) (cond (Nat.beq pc 34) (some (40, 65, 43, [], 37)) none) (cond (Nat.beq pc 37) (some (2, 0, 0, [], 38)) none))) (cond (Nat.ble pc 38) (cond (Nat.beq pc 38) (some (22, 0, 14, [7], 41)) none) (cond (Nat.ble pc 41) (cond (Nat.beq pc 41) (some (40, 61, 40, [], 44)) none) (cond (Nat.beq pc 44) (some (41, 0, 0, [], 45)) none)))))) none
def qc64 (pc : Nat) : Option qX := cond (Nat.ble pc 17) (cond (Nat.ble pc 8) (cond (Nat.ble pc 1) (cond (Nat.ble pc 0) (cond (Nat.beq pc 0) (some (2, 0, 0, [], 1)) none) (cond (Nat.beq pc 1) (some (22, 0, 14, [7], 4)) none)) (cond (Nat.ble pc 4) (cond (Nat.beq pc 4) (some (40, 61, 40, [], 7)) none) (cond (Nat.ble pc 7) (cond (Nat.beq pc 7) (some (3, 0, 1, [], 8)) none) (cond (Nat.beq pc 8) (some (2, 0, 0, [], 9)) none)))) (cond (Nat.ble pc 12) (cond (Nat.ble pc 9) (cond (Nat.beq pc 9) (some (22, 0, 14, [7], 12)) none) (cond (Nat.beq pc 12) (some (0, 0, 0, [], 13)) none)) (cond (Nat.ble pc 13) (cond (Nat.beq pc 13) (some (40, 68, 44, [], 16)) none) (cond (Nat.ble pc 16) (cond (Nat.beq pc 16) (some (1, 0, 1, [], 17)) none) (cond (Nat.beq pc 17) (some (41, 0, 0, [], 18)) none))))) none
def qc65 (pc : Nat) : Option qX := cond (Nat.ble pc 161) (cond (Nat.ble pc 80) (cond (Nat.ble pc 40) (cond (Nat.ble pc 18) (cond (Nat.ble pc 5) (cond (Nat.ble pc 1) (cond (Nat.ble pc 0) (cond (Nat.beq pc 0) (some (2, 0, 0, [], 1)) none) (cond (Nat.beq pc 1) (some (22, 2, 24, [7], 4)) none)) (cond (Nat.ble pc 4) (cond (Nat.beq pc 4) (some (2, 0, 0, [], 5)) none) (cond (Nat.beq pc 5) (some (22, 6, 50, [7], 8)) none))) (cond (Nat.ble pc 11) (cond (Nat.ble pc 8) (cond (Nat.beq pc 8) (some (21, 2, 71, [6], 11)) none) (cond (Nat.beq pc 11) (some (40, 75, 27, [], 14)) none)) (cond (Nat.ble pc 14) (cond (Nat.beq pc 14) (some (2, 0, 0, [], 15)) none) (cond (Nat.ble pc 15) (cond (Nat.beq pc 15) (some (40, 78, 87, [], 18)) none) (cond (Nat.beq pc 18) (some (3, 0, 1, [], 19)) none))))) (cond (Nat.ble pc 27) (cond (Nat.ble pc 20) (cond (Nat.ble pc 19) (cond (Nat.beq pc 19) (some (1, 0, 1, [], 20)) none) (cond (Nat.beq pc 20) (some (2, 0, 0, [], 21)) none)) (cond (Nat.ble pc 21) (cond (Nat.beq pc 21) (some (22, 0, 14, [7], 24)) none) (cond (Nat.ble pc 24) (cond (Nat.beq pc 24) (some (40, 61, 40, [], 27)) none) (cond (Nat.beq pc 27) (some (16, 2, 40, [], 30)) none)))) (cond (Nat.ble pc 31) (cond (Nat.ble pc 30) (cond (Nat.beq pc 30) (some (2, 0, 0, [], 31)) none) (cond (Nat.beq pc 31) (some (22, 2, 24, [7], 34)) none)) (cond (Nat.ble pc 34) (cond (Nat.beq pc 34) (some (40, 81, 28, [], 37)) none) (cond (Nat.ble pc 37) (cond (Nat.beq pc 37) (some (17, 1, 46, [], 40)) none) (cond (Nat.beq pc 40) (some (0, (-1000), 0, [], 43)) none)))))) (cond (Nat.ble pc 57) (cond (Nat.ble pc 46) (cond (Nat.ble pc 44) (cond (Nat.ble pc 43) (cond (Nat.beq pc 43) (some (1, 0, 1, [], 44)) none) (cond (Nat.beq pc 44) (some (7, 0, 0, [], 45)) none)) (cond (Nat.ble pc 45) (cond (Nat.beq pc 45) (some (41, 0, 0, [], 46)) none) (cond (Nat.beq pc 46) (some (2, 0, 0, [], 47)) none))) (cond (Nat.ble pc 50) (cond (Nat.ble pc 47) (cond (Nat.beq pc 47) (some (22, 4, 36, [7], 50)) none) (cond (Nat.beq pc 50) (some (2, 0, 0, [], 51)) none)) (cond (Nat.ble pc 51) (cond (Nat.beq pc 51) (some (22, 2, 24, [7], 54)) none) (cond (Nat.ble pc 54) (cond (Nat.beq pc 54) (some (22, 1, 85, [3], 57)) none) (cond (Nat.beq pc 57) (some (2, 0, 0, [], 58)) none))))) (cond (Nat.ble pc 68) (cond (Nat.ble pc 61) (cond (Nat.ble pc 58) (cond (Nat.beq pc 58) (some (22, 6, 50, [7], 61)) none) (cond (Nat.beq pc 61) (some (21, 3, 88, [6], 64)) none)) (cond (Nat.ble pc 64) (cond (Nat.beq pc 64) (some (40, 91, 48, [], 67)) none) (cond (Nat.ble pc 67) (cond (Nat.beq pc 67) (some (3, 0, 2, [], 68)) none) (cond (Nat.beq pc 68) (some (2, 0, 0, [], 69)) none)))) (cond (Nat.ble pc 72) (cond (Nat.ble pc 69) (cond (Nat.beq pc 69) (some (22, 6, 50, [7], 72)) none) (cond (Nat.beq pc 72) (some (40, 95, 56, [], 75)) none)) (cond (Nat.ble pc 75) (cond (Nat.beq pc 75) (some (0, 30, 0, [], 77)) none) (cond (Nat.ble pc 77) (cond (Nat.beq pc 77) (some (16, 3, 98, [], 80)) none) (cond (Nat.beq pc 80) (some (2, 0, 0, [], 81)) none))))))) (cond (Nat.ble pc 120) (cond (Nat.ble pc 100) (cond (Nat.ble pc 89) (cond (Nat.ble pc 84) (cond (Nat.ble pc 81) (cond (Nat.beq pc 81) (some (22, 3, 32, [7], 84)) none) (cond (Nat.beq pc 84) (some (40, 98, 20, [], 87)) none)) (cond (Nat.ble pc 87) (cond (Nat.beq pc 87) (some (0, 60, 0, [], 89)) none) (cond (Nat.beq pc 89) (some (16, 4, 98, [], 92)) none))) (cond (Nat.ble pc 93) (cond (Nat.ble pc 92) (cond (Nat.beq pc 92) (some (1, 0, 2, [], 93)) none) (cond (Nat.beq pc 93) (some (0, 40, 0, [], 95)) none)) (cond (Nat.ble pc 95) (cond (Nat.beq pc 95) (some (16, 2, 101, [], 98)) none) (cond (Nat.ble pc 98) (cond (Nat.beq pc 98) (some (0, (-3), 0, [], 100)) none) (cond (Nat.beq pc 100) (some (41, 0, 0, [], 101)) none))))) (cond (Nat.ble pc 109) (cond (Nat.ble pc 102) (cond (Nat.ble pc 101) (cond (Nat.beq pc 101) (some (2, 0, 0, [], 102)) none) (cond (Nat.beq pc 102) (some (22, 7, 57, [7], 105)) none)) (cond (Nat.ble pc 105) (cond (Nat.beq pc 105) (some (2, 0, 0, [], 106)) none) (cond (Nat.ble pc 106) (cond (Nat.beq pc 106) (some (22, 6, 50, [7], 109)) none) (cond (Nat.beq pc 109) (some (40, 101, 16, [], 112)) none)))) (cond (Nat.ble pc 113) (cond (Nat.ble pc 112) (cond (Nat.beq pc 112) (some (2, 0, 0, [], 113)) none) (cond (Nat.beq pc 113) (some (22, 6, 50, [7], 116)) none)) (cond (Nat.ble pc 116) (cond (Nat.beq pc 116) (some (2, 0, 0, [], 117)) none) (cond (Nat.ble pc 117) (cond (Nat.beq pc 117) (some (22, 3, 32, [7], 120)) none) (cond (Nat.beq pc 120) (some (40, 98, 20, [], 123)) none)))))) (cond (Nat.ble pc 139) (cond (Nat.ble pc 128) (cond (Nat.ble pc 126) (cond (Nat.ble pc 123) (cond (Nat.beq pc 123) (some (23, 2, 71, [6], 126)) none) (cond (Nat.beq pc 126) (some (2, 0, 0, [], 127)) none)) (cond (Nat.ble pc 127) (cond (Nat.beq pc 127) (some (1, 0, 2, [], 128)) none) (cond (Nat.beq pc 128) (some (2, 0, 0, [], 129)) none))) (cond (Nat.ble pc 132) (cond (Nat.ble pc 129) (cond (Nat.beq pc 129) (some (22, 2, 24, [7], 132)) none) (cond (Nat.beq pc 132) (some (22, 1, 85, [3], 135)) none)) (cond (Nat.ble pc 135) (cond (Nat.beq pc 135) (some (40, 105, 88, [], 138)) none) (cond (Nat.ble pc 138) (cond (Nat.beq pc 138) (some (2, 0, 0, [], 139)) none) (cond (Nat.beq pc 139) (some (22, 0, 14, [7], 142)) none))))) (cond (Nat.ble pc 150) (cond (Nat.ble pc 143) (cond (Nat.ble pc 142) (cond (Nat.beq pc 142) (some (0, 0, 0, [], 143)) none) (cond (Nat.beq pc 143) (some (40, 68, 44, [], 146)) none)) (cond (Nat.ble pc 146) (cond (Nat.beq pc 146) (some (2, 0, 0, [], 147)) none) (cond (Nat.ble pc 147) (cond (Nat.beq pc 147) (some (22, 6, 50, [7], 150)) none) (cond (Nat.beq pc 150) (some (1, 0, 2, [], 151)) none)))) (cond (Nat.ble pc 152) (cond (Nat.ble pc 151) (cond (Nat.beq pc 151) (some (2, 0, 0, [], 152)) none) (cond (Nat.beq pc 152) (some (22, 2, 24, [7], 155)) none)) (cond (Nat.ble pc 155) (cond (Nat.beq pc 155) (some (22, 2, 109, [3], 158)) none) (cond (Nat.ble pc 158) (cond (Nat.beq pc 158) (some (40, 112, 52, [], 161)) none) (cond (Nat.beq pc 161) (some (41, 0, 0, [], 162)) none)))))))) none
def qc66 (pc : Nat) : Option qX := cond (Nat.ble pc 41) (cond (Nat.ble pc 17) (cond (Nat.ble pc 8) (cond (Nat.ble pc 1) (cond (Nat.ble pc 0) (cond (Nat.beq pc 0) (some (2, 0, 0, [], 1)) none) (cond (Nat.beq pc 1) (some (22, 6, 50, [7], 4)) none)) (cond (Nat.ble pc 4) (cond (Nat.beq pc 4) (some (1, 0, 1, [], 5)) none) (cond (Nat.ble pc 5) (cond (Nat.beq pc 5) (some (40, 116, 55, [], 8)) none) (cond (Nat.beq pc 8) (some (17, 1, 13, [], 11)) none)))) (cond (Nat.ble pc 12) (cond (Nat.ble pc 11) (cond (Nat.beq pc 11) (some (0, (-1), 0, [], 12)) none) (cond (Nat.beq pc 12) (some (41, 0, 0, [], 13)) none)) (cond (Nat.ble pc 13) (cond (Nat.beq pc 13) (some (2, 0, 0, [], 14)) none) (cond (Nat.ble pc 14) (cond (Nat.beq pc 14) (some (22, 7, 57, [7], 17)) none) (cond (Nat.beq pc 17) (some (2, 0, 0, [], 18)) none))))) (cond (Nat.ble pc 28) (cond (Nat.ble pc 21) (cond (Nat.ble pc 18) (cond (Nat.beq pc 18) (some (22, 6, 50, [7], 21)) none) (cond (Nat.beq pc 21) (some (40, 101, 16, [], 24)) none)) (cond (Nat.ble pc 24) (cond (Nat.beq pc 24) (some (2, 0, 0, [], 25)) none) (cond (Nat.ble pc 25) (cond (Nat.beq pc 25) (some (22, 6, 50, [7], 28)) none) (cond (Nat.beq pc 28) (some (1, 0, 1, [], 29)) none)))) (cond (Nat.ble pc 34) (cond (Nat.ble pc 29) (cond (Nat.beq pc 29) (some (0, (-9), 0, [], 31)) none) (cond (Nat.ble pc 31) (cond (Nat.beq pc 31) (some (40, 120, 54, [], 34)) none) (cond (Nat.beq pc 34) (some (2, 0, 0, [], 35)) none))) (cond (Nat.ble pc 35) (cond (Nat.beq pc 35) (some (22, 6, 50, [7], 38)) none) (cond (Nat.ble pc 38) (cond (Nat.beq pc 38) (some (40, 124, 57, [], 41)) none) (cond (Nat.beq pc 41) (some (41, 0, 0, [], 42)) none)))))) none
def qc67 (pc : Nat) : Option qX := cond (Nat.ble pc 89) (cond (Nat.ble pc 43) (cond (Nat.ble pc 20) (cond (Nat.ble pc 8) (cond (Nat.ble pc 1) (cond (Nat.ble pc 0) (cond (Nat.beq pc 0) (some (2, 0, 0, [], 1)) none) (cond (Nat.beq pc 1) (some (22, 6, 50, [7], 4)) none)) (cond (Nat.ble pc 4) (cond (Nat.beq pc 4) (some (1, 0, 1, [], 5)) none) (cond (Nat.ble pc 5) (cond (Nat.beq pc 5) (some (40, 116, 55, [], 8)) none) (cond (Nat.beq pc 8) (some (17, 0, 30, [], 11)) none)))) (cond (Nat.ble pc 13) (cond (Nat.ble pc 11) (cond (Nat.beq pc 11) (some (2, 0, 0, [], 12)) none) (cond (Nat.ble pc 12) (cond (Nat.beq pc 12) (some (1, 0, 2, [], 13)) none) (cond (Nat.beq pc 13) (some (40, 127, 82, [], 16)) none))) (cond (Nat.ble pc 16) (cond (Nat.beq pc 16) (some (17, 0, 30, [], 19)) none) (cond (Nat.ble pc 19) (cond (Nat.beq pc 19) (some (1, 0, 3, [], 20)) none) (cond (Nat.beq pc 20) (some (17, 2, 30, [], 23)) none))))) (cond (Nat.ble pc 32) (cond (Nat.ble pc 27) (cond (Nat.ble pc 23) (cond (Nat.beq pc 23) (some (1, 0, 3, [], 24)) none) (cond (Nat.ble pc 24) (cond (Nat.beq pc 24) (some (0, 999, 0, [], 27)) none) (cond (Nat.beq pc 27) (some (16, 5, 32, [], 30)) none))) (cond (Nat.ble pc 30) (cond (Nat.beq pc 30) (some (0, (-1), 0, [], 31)) none) (cond (Nat.ble pc 31) (cond (Nat.beq pc 31) (some (41, 0, 0, [], 32)) none) (cond (Nat.beq pc 32) (some (2, 0, 0, [], 33)) none)))) (cond (Nat.ble pc 37) (cond (Nat.ble pc 33) (cond (Nat.beq pc 33) (some (1, 0, 1, [], 34)) none) (cond (Nat.ble pc 34) (cond (Nat.beq pc 34) (some (40, 130, 86, [], 37)) none) (cond (Nat.beq pc 37) (some (1, 0, 2, [], 38)) none))) (cond (Nat.ble pc 38) (cond (Nat.beq pc 38) (some (40, 134, 11, [], 41)) none) (cond (Nat.ble pc 41) (cond (Nat.beq pc 41) (some (3, 0, 4, [], 43)) none) (cond (Nat.beq pc 43) (some (1, 0, 4, [], 45)) none)))))) (cond (Nat.ble pc 65) (cond (Nat.ble pc 53) (cond (Nat.ble pc 47) (cond (Nat.ble pc 45) (cond (Nat.beq pc 45) (some (0, (-9), 0, [], 47)) none) (cond (Nat.beq pc 47) (some (16, 1, 53, [], 50)) none)) (cond (Nat.ble pc 50) (cond (Nat.beq pc 50) (some (0, (-2), 0, [], 52)) none) (cond (Nat.ble pc 52) (cond (Nat.beq pc 52) (some (41, 0, 0, [], 53)) none) (cond (Nat.beq pc 53) (some (2, 0, 0, [], 54)) none)))) (cond (Nat.ble pc 58) (cond (Nat.ble pc 54) (cond (Nat.beq pc 54) (some (22, 7, 57, [7], 57)) none) (cond (Nat.ble pc 57) (cond (Nat.beq pc 57) (some (2, 0, 0, [], 58)) none) (cond (Nat.beq pc 58) (some (22, 6, 50, [7], 61)) none))) (cond (Nat.ble pc 61) (cond (Nat.beq pc 61) (some (40, 101, 16, [], 64)) none) (cond (Nat.ble pc 64) (cond (Nat.beq pc 64) (some (2, 0, 0, [], 65)) none) (cond (Nat.beq pc 65) (some (22, 6, 50, [7], 68)) none))))) (cond (Nat.ble pc 77) (cond (Nat.ble pc 71) (cond (Nat.ble pc 68) (cond (Nat.beq pc 68) (some (1, 0, 1, [], 69)) none) (cond (Nat.ble pc 69) (cond (Nat.beq pc 69) (some (1, 0, 4, [], 71)) none) (cond (Nat.beq pc 71) (some (40, 138, 60, [], 74)) none))) (cond (Nat.ble pc 74) (cond (Nat.beq pc 74) (some (3, 0, 5, [], 76)) none) (cond (Nat.ble pc 76) (cond (Nat.beq pc 76) (some (2, 0, 0, [], 77)) none) (cond (Nat.beq pc 77) (some (22, 6, 50, [7], 80)) none)))) (cond (Nat.ble pc 83) (cond (Nat.ble pc 80) (cond (Nat.beq pc 80) (some (1, 0, 1, [], 81)) none) (cond (Nat.ble pc 81) (cond (Nat.beq pc 81) (some (1, 0, 4, [], 83)) none) (cond (Nat.beq pc 83) (some (1, 0, 3, [], 84)) none))) (cond (Nat.ble pc 84) (cond (Nat.beq pc 84) (some (40, 142, 61, [], 87)) none) (cond (Nat.ble pc 87) (cond (Nat.beq pc 87) (some (1, 0, 5, [], 89)) none) (cond (Nat.beq pc 89) (some (41, 0, 0, [], 90)) none))))))) none
def qc68 (pc : Nat) : Option qX := cond (Nat.ble pc 125) (cond (Nat.ble pc 56) (cond (Nat.ble pc 27) (cond (Nat.ble pc 13) (cond (Nat.ble pc 5) (cond (Nat.ble pc 1) (cond (Nat.ble pc 0) (cond (Nat.beq pc 0) (some (2, 0, 0, [], 1)) none) (cond (Nat.beq pc 1) (some (22, 6, 50, [7], 4)) none)) (cond (Nat.ble pc 4) (cond (Nat.beq pc 4) (some (1, 0, 1, [], 5)) none) (cond (Nat.beq pc 5) (some (40, 116, 55, [], 8)) none))) (cond (Nat.ble pc 11) (cond (Nat.ble pc 8) (cond (Nat.beq pc 8) (some (17, 0, 19, [], 11)) none) (cond (Nat.beq pc 11) (some (2, 0, 0, [], 12)) none)) (cond (Nat.ble pc 12) (cond (Nat.beq pc 12) (some (1, 0, 2, [], 13)) none) (cond (Nat.beq pc 13) (some (40, 127, 82, [], 16)) none)))) (cond (Nat.ble pc 21) (cond (Nat.ble pc 19) (cond (Nat.ble pc 16) (cond (Nat.beq pc 16) (some (17, 1, 21, [], 19)) none) (cond (Nat.beq pc 19) (some (0, (-1), 0, [], 20)) none)) (cond (Nat.ble pc 20) (cond (Nat.beq pc 20) (some (41, 0, 0, [], 21)) none) (cond (Nat.beq pc 21) (some (2, 0, 0, [], 22)) none))) (cond (Nat.ble pc 23) (cond (Nat.ble pc 22) (cond (Nat.beq pc 22) (some (1, 0, 1, [], 23)) none) (cond (Nat.beq pc 23) (some (40, 130, 86, [], 26)) none)) (cond (Nat.ble pc 26) (cond (Nat.beq pc 26) (some (4, 0, 3, [], 27)) none) (cond (Nat.beq pc 27) (some (2, 0, 3, [], 28)) none))))) (cond (Nat.ble pc 40) (cond (Nat.ble pc 35) (cond (Nat.ble pc 29) (cond (Nat.ble pc 28) (cond (Nat.beq pc 28) (some (1, 0, 2, [], 29)) none) (cond (Nat.beq pc 29) (some (40, 146, 10, [], 32)) none)) (cond (Nat.ble pc 32) (cond (Nat.beq pc 32) (some (17, 1, 49, [], 35)) none) (cond (Nat.beq pc 35) (some (2, 0, 3, [], 36)) none))) (cond (Nat.ble pc 38) (cond (Nat.ble pc 36) (cond (Nat.beq pc 36) (some (0, 100, 0, [], 38)) none) (cond (Nat.beq pc 38) (some (1, 0, 2, [], 39)) none)) (cond (Nat.ble pc 39) (cond (Nat.beq pc 39) (some (6, 0, 0, [], 40)) none) (cond (Nat.beq pc 40) (some (40, 146, 10, [], 43)) none)))) (cond (Nat.ble pc 49) (cond (Nat.ble pc 46) (cond (Nat.ble pc 43) (cond (Nat.beq pc 43) (some (17, 1, 49, [], 46)) none) (cond (Nat.beq pc 46) (some (0, (-2), 0, [], 48)) none)) (cond (Nat.ble pc 48) (cond (Nat.beq pc 48) (some (41, 0, 0, [], 49)) none) (cond (Nat.beq pc 49) (some (2, 0, 0, [], 50)) none))) (cond (Nat.ble pc 51) (cond (Nat.ble pc 50) (cond (Nat.beq pc 50) (some (2, 0, 3, [], 51)) none) (cond (Nat.beq pc 51) (some (1, 0, 2, [], 52)) none)) (cond (Nat.ble pc 52) (cond (Nat.beq pc 52) (some (40, 149, 89, [], 55)) none) (cond (Nat.ble pc 55) (cond (Nat.beq pc 55) (some (2, 0, 0, [], 56)) none) (cond (Nat.beq pc 56) (some (22, 4, 36, [7], 59)) none))))))) (cond (Nat.ble pc 93) (cond (Nat.ble pc 75) (cond (Nat.ble pc 64) (cond (Nat.ble pc 60) (cond (Nat.ble pc 59) (cond (Nat.beq pc 59) (some (2, 0, 0, [], 60)) none) (cond (Nat.beq pc 60) (some (22, 5, 43, [7], 63)) none)) (cond (Nat.ble pc 63) (cond (Nat.beq pc 63) (some (2, 0, 0, [], 64)) none) (cond (Nat.beq pc 64) (some (22, 6, 50, [7], 67)) none))) (cond (Nat.ble pc 70) (cond (Nat.ble pc 67) (cond (Nat.beq pc 67) (some (21, 3, 88, [6], 70)) none) (cond (Nat.beq pc 70) (some (40, 91, 48, [], 73)) none)) (cond (Nat.ble pc 73) (cond (Nat.beq pc 73) (some (3, 0, 4, [], 75)) none) (cond (Nat.beq pc 75) (some (1, 0, 4, [], 77)) none)))) (cond (Nat.ble pc 84) (cond (Nat.ble pc 79) (cond (Nat.ble pc 77) (cond (Nat.beq pc 77) (some (0, 40, 0, [], 79)) none) (cond (Nat.beq pc 79) (some (16, 2, 85, [], 82)) none)) (cond (Nat.ble pc 82) (cond (Nat.beq pc 82) (some (0, (-3), 0, [], 84)) none) (cond (Nat.beq pc 84) (some (41, 0, 0, [], 85)) none))) (cond (Nat.ble pc 86) (cond (Nat.ble pc 85) (cond (Nat.beq pc 85) (some (2, 0, 0, [], 86)) none) (cond (Nat.beq pc 86) (some (22, 7, 57, [7], 89)) none)) (cond (Nat.ble pc 89) (cond (Nat.beq pc 89) (some (2, 0, 0, [], 90)) none) (cond (Nat.ble pc 90) (cond (Nat.beq pc 90) (some (22, 6, 50, [7], 93)) none) (cond (Nat.beq pc 93) (some (40, 101, 16, [], 96)) none)))))) (cond (Nat.ble pc 108) (cond (Nat.ble pc 100) (cond (Nat.ble pc 97) (cond (Nat.ble pc 96) (cond (Nat.beq pc 96) (some (2, 0, 0, [], 97)) none) (cond (Nat.beq pc 97) (some (1, 0, 4, [], 99)) none)) (cond (Nat.ble pc 99) (cond (Nat.beq pc 99) (some (2, 0, 0, [], 100)) none) (cond (Nat.beq pc 100) (some (22, 5, 43, [7], 103)) none))) (cond (Nat.ble pc 106) (cond (Nat.ble pc 103) (cond (Nat.beq pc 103) (some (40, 105, 88, [], 106)) none) (cond (Nat.beq pc 106) (some (2, 0, 0, [], 107)) none)) (cond (Nat.ble pc 107) (cond (Nat.beq pc 107) (some (1, 0, 1, [], 108)) none) (cond (Nat.beq pc 108) (some (2, 0, 3, [], 109)) none)))) (cond (Nat.ble pc 114) (cond (Nat.ble pc 110) (cond (Nat.ble pc 109) (cond (Nat.beq pc 109) (some (1, 0, 2, [], 110)) none) (cond (Nat.beq pc 110) (some (40, 153, 90, [], 113)) none)) (cond (Nat.ble pc 113) (cond (Nat.beq pc 113) (some (2, 0, 0, [], 114)) none) (cond (Nat.beq pc 114) (some (22, 6, 50, [7], 117)) none))) (cond (Nat.ble pc 118) (cond (Nat.ble pc 117) (cond (Nat.beq pc 117) (some (1, 0, 1, [], 118)) none) (cond (Nat.beq pc 118) (some (1, 0, 4, [], 120)) none)) (cond (Nat.ble pc 120) (cond (Nat.beq pc 120) (some (40, 120, 54, [], 123)) none) (cond (Nat.ble pc 123) (cond (Nat.beq pc 123) (some (1, 0, 4, [], 125)) none) (cond (Nat.beq pc 125) (some (41, 0, 0, [], 126)) none)))))))) none
def qc69 (pc : Nat) : Option qX := cond (Nat.ble pc 33) (cond (Nat.ble pc 14) (cond (Nat.ble pc 5) (cond (Nat.ble pc 1) (cond (Nat.ble pc 0) (cond (Nat.beq pc 0) (some (2, 0, 0, [], 1)) none) (cond (Nat.beq pc 1) (some (1, 0, 1, [], 2)) none)) (cond (Nat.ble pc 2) (cond (Nat.beq pc 2) (some (40, 157, 84, [], 5)) none) (cond (Nat.beq pc 5) (some (17, 1, 10, [], 8)) none))) (cond (Nat.ble pc 9) (cond (Nat.ble pc 8) (cond (Nat.beq pc 8) (some (0, (-1), 0, [], 9)) none) (cond (Nat.beq pc 9) (some (41, 0, 0, [], 10)) none)) (cond (Nat.ble pc 10) (cond (Nat.beq pc 10) (some (2, 0, 0, [], 11)) none) (cond (Nat.ble pc 11) (cond (Nat.beq pc 11) (some (22, 7, 57, [7], 14)) none) (cond (Nat.beq pc 14) (some (2, 0, 0, [], 15)) none))))) (cond (Nat.ble pc 22) (cond (Nat.ble pc 18) (cond (Nat.ble pc 15) (cond (Nat.beq pc 15) (some (22, 6, 50, [7], 18)) none) (cond (Nat.beq pc 18) (some (40, 101, 16, [], 21)) none)) (cond (Nat.ble pc 21) (cond (Nat.beq pc 21) (some (2, 0, 0, [], 22)) none) (cond (Nat.beq pc 22) (some (22, 6, 50, [7], 25)) none))) (cond (Nat.ble pc 26) (cond (Nat.ble pc 25) (cond (Nat.beq pc 25) (some (1, 0, 1, [], 26)) none) (cond (Nat.beq pc 26) (some (23, 4, 160, [6], 29)) none)) (cond (Nat.ble pc 29) (cond (Nat.beq pc 29) (some (2, 0, 0, [], 30)) none) (cond (Nat.ble pc 30) (cond (Nat.beq pc 30) (some (40, 163, 91, [], 33)) none) (cond (Nat.beq pc 33) (some (41, 0, 0, [], 34)) none)))))) none
def qc70 (pc : Nat) : Option qX := cond (Nat.ble pc 31) (cond (Nat.ble pc 13) (cond (Nat.ble pc 4) (cond (Nat.ble pc 0) (cond (Nat.beq pc 0) (some (2, 0, 0, [], 1)) none) (cond (Nat.ble pc 1) (cond (Nat.beq pc 1) (some (22, 7, 57, [7], 4)) none) (cond (Nat.beq pc 4) (some (40, 166, 15, [], 7)) none))) (cond (Nat.ble pc 10) (cond (Nat.ble pc 7) (cond (Nat.beq pc 7) (some (17, 1, 13, [], 10)) none) (cond (Nat.beq pc 10) (some (0, (-2), 0, [], 12)) none)) (cond (Nat.ble pc 12) (cond (Nat.beq pc 12) (some (41, 0, 0, [], 13)) none) (cond (Nat.beq pc 13) (some (2, 0, 0, [], 14)) none)))) (cond (Nat.ble pc 21) (cond (Nat.ble pc 17) (cond (Nat.ble pc 14) (cond (Nat.beq pc 14) (some (22, 7, 57, [7], 17)) none) (cond (Nat.beq pc 17) (some (2, 0, 0, [], 18)) none)) (cond (Nat.ble pc 18) (cond (Nat.beq pc 18) (some (22, 6, 50, [7], 21)) none) (cond (Nat.beq pc 21) (some (40, 167, 18, [], 24)) none))) (cond (Nat.ble pc 25) (cond (Nat.ble pc 24) (cond (Nat.beq pc 24) (some (2, 0, 0, [], 25)) none) (cond (Nat.beq pc 25) (some (22, 7, 57, [7], 28)) none)) (cond (Nat.ble pc 28) (cond (Nat.beq pc 28) (some (40, 166, 15, [], 31)) none) (cond (Nat.beq pc 31) (some (41, 0, 0, [], 32)) none))))) none
def qc71 (pc : Nat) : Option qX := cond (Nat.ble pc 135) (cond (Nat.ble pc 93) (cond (Nat.ble pc 72) (cond (Nat.ble pc 60) (cond (Nat.ble pc 1) (cond (Nat.ble pc 0) (cond (Nat.beq pc 0) (some (1, 0, 1, [], 1)) none) (cond (Nat.beq pc 1) (some (20, 0, 134, [56, 64, 72, 80, 88, 93, 98, 110, 118, 126], 56)) none)) (cond (Nat.ble pc 56) (cond (Nat.beq pc 56) (some (2, 0, 0, [], 57)) none) (cond (Nat.ble pc 57) (cond (Nat.beq pc 57) (some (22, 6, 50, [7], 60)) none) (cond (Nat.beq pc 60) (some (40, 124, 57, [], 63)) none)))) (cond (Nat.ble pc 65) (cond (Nat.ble pc 63) (cond (Nat.beq pc 63) (some (41, 0, 0, [], 64)) none) (cond (Nat.ble pc 64) (cond (Nat.beq pc 64) (some (2, 0, 0, [], 65)) none) (cond (Nat.beq pc 65) (some (22, 6, 50, [7], 68)) none))) (cond (Nat.ble pc 68) (cond (Nat.beq pc 68) (some (40, 95, 56, [], 71)) none) (cond (Nat.ble pc 71) (cond (Nat.beq pc 71) (some (41, 0, 0, [], 72)) none) (cond (Nat.beq pc 72) (some (2, 0, 0, [], 73)) none))))) (cond (Nat.ble pc 81) (cond (Nat.ble pc 76) (cond (Nat.ble pc 73) (cond (Nat.beq pc 73) (some (22, 6, 50, [7], 76)) none) (cond (Nat.beq pc 76) (some (21, 2, 71, [6], 79)) none)) (cond (Nat.ble pc 79) (cond (Nat.beq pc 79) (some (41, 0, 0, [], 80)) none) (cond (Nat.ble pc 80) (cond (Nat.beq pc 80) (some (2, 0, 0, [], 81)) none) (cond (Nat.beq pc 81) (some (22, 6, 50, [7], 84)) none)))) (cond (Nat.ble pc 88) (cond (Nat.ble pc 84) (cond (Nat.beq pc 84) (some (21, 3, 88, [6], 87)) none) (cond (Nat.ble pc 87) (cond (Nat.beq pc 87) (some (41, 0, 0, [], 88)) none) (cond (Nat.beq pc 88) (some (2, 0, 0, [], 89)) none))) (cond (Nat.ble pc 89) (cond (Nat.beq pc 89) (some (40, 163, 91, [], 92)) none) (cond (Nat.ble pc 92) (cond (Nat.beq pc 92) (some (41, 0, 0, [], 93)) none) (cond (Nat.beq pc 93) (some (2, 0, 0, [], 94)) none)))))) (cond (Nat.ble pc 114) (cond (Nat.ble pc 100) (cond (Nat.ble pc 97) (cond (Nat.ble pc 94) (cond (Nat.beq pc 94) (some (40, 170, 92, [], 97)) none) (cond (Nat.beq pc 97) (some (41, 0, 0, [], 98)) none)) (cond (Nat.ble pc 98) (cond (Nat.beq pc 98) (some (2, 0, 0, [], 99)) none) (cond (Nat.ble pc 99) (cond (Nat.beq pc 99) (some (2, 0, 0, [], 100)) none) (cond (Nat.beq pc 100) (some (22, 6, 50, [7], 103)) none)))) (cond (Nat.ble pc 109) (cond (Nat.ble pc 103) (cond (Nat.beq pc 103) (some (21, 4, 160, [6], 106)) none) (cond (Nat.ble pc 106) (cond (Nat.beq pc 106) (some (40, 173, 93, [], 109)) none) (cond (Nat.beq pc 109) (some (41, 0, 0, [], 110)) none))) (cond (Nat.ble pc 110) (cond (Nat.beq pc 110) (some (2, 0, 0, [], 111)) none) (cond (Nat.ble pc 111) (cond (Nat.beq pc 111) (some (22, 6, 50, [7], 114)) none) (cond (Nat.beq pc 114) (some (21, 4, 160, [6], 117)) none))))) (cond (Nat.ble pc 125) (cond (Nat.ble pc 118) (cond (Nat.ble pc 117) (cond (Nat.beq pc 117) (some (41, 0, 0, [], 118)) none) (cond (Nat.beq pc 118) (some (2, 0, 0, [], 119)) none)) (cond (Nat.ble pc 119) (cond (Nat.beq pc 119) (some (22, 7, 57, [7], 122)) none) (cond (Nat.ble pc 122) (cond (Nat.beq pc 122) (some (40, 166, 15, [], 125)) none) (cond (Nat.beq pc 125) (some (41, 0, 0, [], 126)) none)))) (cond (Nat.ble pc 130) (cond (Nat.ble pc 126) (cond (Nat.beq pc 126) (some (2, 0, 0, [], 127)) none) (cond (Nat.ble pc 127) (cond (Nat.beq pc 127) (some (22, 0, 14, [7], 130)) none) (cond (Nat.beq pc 130) (some (40, 61, 40, [], 133)) none))) (cond (Nat.ble pc 133) (cond (Nat.beq pc 133) (some (41, 0, 0, [], 134)) none) (cond (Nat.ble pc 134) (cond (Nat.beq pc 134) (some (0, (-1), 0, [], 135)) none) (cond (Nat.beq pc 135) (some (41, 0, 0, [], 136)) none))))))) none
def qc72 (pc : Nat) : Option qX := cond (Nat.ble pc 93) (cond (Nat.ble pc 64) (cond (Nat.ble pc 14) (cond (Nat.ble pc 5) (cond (Nat.ble pc 1) (cond (Nat.ble pc 0) (cond (Nat.beq pc 0) (some (2, 0, 0, [], 1)) none) (cond (Nat.beq pc 1) (some (22, 6, 50, [7], 4)) none)) (cond (Nat.ble pc 4) (cond (Nat.beq pc 4) (some (1, 0, 1, [], 5)) none) (cond (Nat.beq pc 5) (some (40, 116, 55, [], 8)) none))) (cond (Nat.ble pc 11) (cond (Nat.ble pc 8) (cond (Nat.beq pc 8) (some (17, 1, 13, [], 11)) none) (cond (Nat.beq pc 11) (some (0, (-1), 0, [], 12)) none)) (cond (Nat.ble pc 12) (cond (Nat.beq pc 12) (some (41, 0, 0, [], 13)) none) (cond (Nat.ble pc 13) (cond (Nat.beq pc 13) (some (2, 0, 0, [], 14)) none) (cond (Nat.beq pc 14) (some (1, 0, 1, [], 15)) none))))) (cond (Nat.ble pc 20) (cond (Nat.ble pc 18) (cond (Nat.ble pc 15) (cond (Nat.beq pc 15) (some (40, 130, 86, [], 18)) none) (cond (Nat.beq pc 18) (some (4, 0, 3, [], 19)) none)) (cond (Nat.ble pc 19) (cond (Nat.beq pc 19) (some (1, 0, 2, [], 20)) none) (cond (Nat.beq pc 20) (some (20, 0, 92, [56, 65, 70, 75, 82], 56)) none))) (cond (Nat.ble pc 57) (cond (Nat.ble pc 56) (cond (Nat.beq pc 56) (some (2, 0, 0, [], 57)) none) (cond (Nat.beq pc 57) (some (22, 6, 50, [7], 60)) none)) (cond (Nat.ble pc 60) (cond (Nat.beq pc 60) (some (1, 0, 1, [], 61)) none) (cond (Nat.ble pc 61) (cond (Nat.beq pc 61) (some (40, 176, 53, [], 64)) none) (cond (Nat.beq pc 64) (some (41, 0, 0, [], 65)) none)))))) (cond (Nat.ble pc 77) (cond (Nat.ble pc 70) (cond (Nat.ble pc 66) (cond (Nat.ble pc 65) (cond (Nat.beq pc 65) (some (2, 0, 3, [], 66)) none) (cond (Nat.beq pc 66) (some (40, 179, 5, [], 69)) none)) (cond (Nat.ble pc 69) (cond (Nat.beq pc 69) (some (41, 0, 0, [], 70)) none) (cond (Nat.beq pc 70) (some (2, 0, 3, [], 71)) none))) (cond (Nat.ble pc 74) (cond (Nat.ble pc 71) (cond (Nat.beq pc 71) (some (40, 182, 6, [], 74)) none) (cond (Nat.beq pc 74) (some (41, 0, 0, [], 75)) none)) (cond (Nat.ble pc 75) (cond (Nat.beq pc 75) (some (2, 0, 0, [], 76)) none) (cond (Nat.ble pc 76) (cond (Nat.beq pc 76) (some (2, 0, 3, [], 77)) none) (cond (Nat.beq pc 77) (some (1, 0, 1, [], 78)) none))))) (cond (Nat.ble pc 84) (cond (Nat.ble pc 81) (cond (Nat.ble pc 78) (cond (Nat.beq pc 78) (some (40, 185, 98, [], 81)) none) (cond (Nat.beq pc 81) (some (41, 0, 0, [], 82)) none)) (cond (Nat.ble pc 82) (cond (Nat.beq pc 82) (some (2, 0, 0, [], 83)) none) (cond (Nat.ble pc 83) (cond (Nat.beq pc 83) (some (1, 0, 1, [], 84)) none) (cond (Nat.beq pc 84) (some (2, 0, 3, [], 85)) none)))) (cond (Nat.ble pc 88) (cond (Nat.ble pc 85) (cond (Nat.beq pc 85) (some (40, 179, 5, [], 88)) none) (cond (Nat.beq pc 88) (some (40, 188, 97, [], 91)) none)) (cond (Nat.ble pc 91) (cond (Nat.beq pc 91) (some (41, 0, 0, [], 92)) none) (cond (Nat.ble pc 92) (cond (Nat.beq pc 92) (some (0, (-1), 0, [], 93)) none) (cond (Nat.beq pc 93) (some (41, 0, 0, [], 94)) none))))))) none
def qc73 (pc : Nat) : Option qX := cond (Nat.ble pc 46) (cond (Nat.ble pc 20) (cond (Nat.ble pc 11) (cond (Nat.ble pc 4) (cond (Nat.ble pc 0) (cond (Nat.beq pc 0) (some (2, 0, 0, [], 1)) none) (cond (Nat.ble pc 1) (cond (Nat.beq pc 1) (some (22, 6, 50, [7], 4)) none) (cond (Nat.beq pc 4) (some (1, 0, 1, [], 5)) none))) (cond (Nat.ble pc 5) (cond (Nat.beq pc 5) (some (40, 116, 55, [], 8)) none) (cond (Nat.ble pc 8) (cond (Nat.beq pc 8) (some (17, 0, 15, [], 11)) none) (cond (Nat.beq pc 11) (some (1, 0, 2, [], 12)) none)))) (cond (Nat.ble pc 16) (cond (Nat.ble pc 12) (cond (Nat.beq pc 12) (some (17, 3, 17, [], 15)) none) (cond (Nat.ble pc 15) (cond (Nat.beq pc 15) (some (0, (-1), 0, [], 16)) none) (cond (Nat.beq pc 16) (some (41, 0, 0, [], 17)) none))) (cond (Nat.ble pc 18) (cond (Nat.ble pc 17) (cond (Nat.beq pc 17) (some (2, 0, 0, [], 18)) none) (cond (Nat.beq pc 18) (some (2, 0, 0, [], 19)) none)) (cond (Nat.ble pc 19) (cond (Nat.beq pc 19) (some (1, 0, 1, [], 20)) none) (cond (Nat.beq pc 20) (some (40, 130, 86, [], 23)) none))))) (cond (Nat.ble pc 30) (cond (Nat.ble pc 27) (cond (Nat.ble pc 23) (cond (Nat.beq pc 23) (some (1, 0, 1, [], 24)) none) (cond (Nat.ble pc 24) (cond (Nat.beq pc 24) (some (40, 185, 98, [], 27)) none) (cond (Nat.beq pc 27) (some (3, 0, 3, [], 28)) none))) (cond (Nat.ble pc 28) (cond (Nat.beq pc 28) (some (1, 0, 2, [], 29)) none) (cond (Nat.ble pc 29) (cond (Nat.beq pc 29) (some (1, 0, 3, [], 30)) none) (cond (Nat.beq pc 30) (some (16, 3, 44, [], 33)) none)))) (cond (Nat.ble pc 37) (cond (Nat.ble pc 33) (cond (Nat.beq pc 33) (some (2, 0, 0, [], 34)) none) (cond (Nat.ble pc 34) (cond (Nat.beq pc 34) (some (22, 1, 18, [7], 37)) none) (cond (Nat.beq pc 37) (some (1, 0, 2, [], 38)) none))) (cond (Nat.ble pc 41) (cond (Nat.ble pc 38) (cond (Nat.beq pc 38) (some (40, 191, 41, [], 41)) none) (cond (Nat.beq pc 41) (some (15, 0, 46, [], 44)) none)) (cond (Nat.ble pc 44) (cond (Nat.beq pc 44) (some (0, (-9), 0, [], 46)) none) (cond (Nat.beq pc 46) (some (41, 0, 0, [], 47)) none)))))) none
def qc74 (pc : Nat) : Option qX := cond (Nat.ble pc 51) (cond (Nat.ble pc 23) (cond (Nat.ble pc 12) (cond (Nat.ble pc 4) (cond (Nat.ble pc 0) (cond (Nat.beq pc 0) (some (2, 0, 0, [], 1)) none) (cond (Nat.ble pc 1) (cond (Nat.beq pc 1) (some (22, 6, 50, [7], 4)) none) (cond (Nat.beq pc 4) (some (1, 0, 1, [], 5)) none))) (cond (Nat.ble pc 8) (cond (Nat.ble pc 5) (cond (Nat.beq pc 5) (some (40, 116, 55, [], 8)) none) (cond (Nat.beq pc 8) (some (17, 0, 19, [], 11)) none)) (cond (Nat.ble pc 11) (cond (Nat.beq pc 11) (some (2, 0, 0, [], 12)) none) (cond (Nat.beq pc 12) (some (1, 0, 2, [], 13)) none)))) (cond (Nat.ble pc 19) (cond (Nat.ble pc 13) (cond (Nat.beq pc 13) (some (40, 127, 82, [], 16)) none) (cond (Nat.ble pc 16) (cond (Nat.beq pc 16) (some (17, 1, 21, [], 19)) none) (cond (Nat.beq pc 19) (some (0, (-1), 0, [], 20)) none))) (cond (Nat.ble pc 21) (cond (Nat.ble pc 20) (cond (Nat.beq pc 20) (some (41, 0, 0, [], 21)) none) (cond (Nat.beq pc 21) (some (2, 0, 0, [], 22)) none)) (cond (Nat.ble pc 22) (cond (Nat.beq pc 22) (some (1, 0, 1, [], 23)) none) (cond (Nat.beq pc 23) (some (40, 130, 86, [], 26)) none))))) (cond (Nat.ble pc 37) (cond (Nat.ble pc 30) (cond (Nat.ble pc 26) (cond (Nat.beq pc 26) (some (1, 0, 2, [], 27)) none) (cond (Nat.ble pc 27) (cond (Nat.beq pc 27) (some (40, 134, 11, [], 30)) none) (cond (Nat.beq pc 30) (some (3, 0, 3, [], 31)) none))) (cond (Nat.ble pc 32) (cond (Nat.ble pc 31) (cond (Nat.beq pc 31) (some (1, 0, 3, [], 32)) none) (cond (Nat.beq pc 32) (some (0, (-9), 0, [], 34)) none)) (cond (Nat.ble pc 34) (cond (Nat.beq pc 34) (some (16, 1, 42, [], 37)) none) (cond (Nat.beq pc 37) (some (0, (-9), 0, [], 39)) none)))) (cond (Nat.ble pc 43) (cond (Nat.ble pc 39) (cond (Nat.beq pc 39) (some (15, 0, 51, [], 42)) none) (cond (Nat.ble pc 42) (cond (Nat.beq pc 42) (some (2, 0, 0, [], 43)) none) (cond (Nat.beq pc 43) (some (22, 6, 50, [7], 46)) none))) (cond (Nat.ble pc 47) (cond (Nat.ble pc 46) (cond (Nat.beq pc 46) (some (1, 0, 1, [], 47)) none) (cond (Nat.beq pc 47) (some (1, 0, 3, [], 48)) none)) (cond (Nat.ble pc 48) (cond (Nat.beq pc 48) (some (40, 138, 60, [], 51)) none) (cond (Nat.beq pc 51) (some (41, 0, 0, [], 52)) none)))))) none
def qc75 (pc : Nat) : Option qX := cond (Nat.ble pc 94) (cond (Nat.ble pc 66) (cond (Nat.ble pc 48) (cond (Nat.ble pc 5) (cond (Nat.ble pc 1) (cond (Nat.ble pc 0) (cond (Nat.beq pc 0) (some (2, 0, 0, [], 1)) none) (cond (Nat.beq pc 1) (some (1, 0, 1, [], 2)) none)) (cond (Nat.ble pc 2) (cond (Nat.beq pc 2) (some (40, 127, 82, [], 5)) none) (cond (Nat.beq pc 5) (some (17, 1, 10, [], 8)) none))) (cond (Nat.ble pc 9) (cond (Nat.ble pc 8) (cond (Nat.beq pc 8) (some (0, (-1), 0, [], 9)) none) (cond (Nat.beq pc 9) (some (41, 0, 0, [], 10)) none)) (cond (Nat.ble pc 10) (cond (Nat.beq pc 10) (some (1, 0, 2, [], 11)) none) (cond (Nat.ble pc 11) (cond (Nat.beq pc 11) (some (20, 0, 93, [48, 57, 66, 72, 81, 87], 48)) none) (cond (Nat.beq pc 48) (some (2, 0, 0, [], 49)) none))))) (cond (Nat.ble pc 57) (cond (Nat.ble pc 52) (cond (Nat.ble pc 49) (cond (Nat.beq pc 49) (some (22, 3, 32, [7], 52)) none) (cond (Nat.beq pc 52) (some (1, 0, 1, [], 53)) none)) (cond (Nat.ble pc 53) (cond (Nat.beq pc 53) (some (40, 194, 22, [], 56)) none) (cond (Nat.ble pc 56) (cond (Nat.beq pc 56) (some (41, 0, 0, [], 57)) none) (cond (Nat.beq pc 57) (some (2, 0, 0, [], 58)) none)))) (cond (Nat.ble pc 61) (cond (Nat.ble pc 58) (cond (Nat.beq pc 58) (some (22, 3, 32, [7], 61)) none) (cond (Nat.beq pc 61) (some (1, 0, 1, [], 62)) none)) (cond (Nat.ble pc 62) (cond (Nat.beq pc 62) (some (40, 197, 23, [], 65)) none) (cond (Nat.ble pc 65) (cond (Nat.beq pc 65) (some (41, 0, 0, [], 66)) none) (cond (Nat.beq pc 66) (some (2, 0, 0, [], 67)) none)))))) (cond (Nat.ble pc 80) (cond (Nat.ble pc 72) (cond (Nat.ble pc 68) (cond (Nat.ble pc 67) (cond (Nat.beq pc 67) (some (1, 0, 1, [], 68)) none) (cond (Nat.beq pc 68) (some (40, 200, 95, [], 71)) none)) (cond (Nat.ble pc 71) (cond (Nat.beq pc 71) (some (41, 0, 0, [], 72)) none) (cond (Nat.beq pc 72) (some (2, 0, 0, [], 73)) none))) (cond (Nat.ble pc 75) (cond (Nat.ble pc 73) (cond (Nat.beq pc 73) (some (0, 100, 0, [], 75)) none) (cond (Nat.beq pc 75) (some (1, 0, 1, [], 76)) none)) (cond (Nat.ble pc 76) (cond (Nat.beq pc 76) (some (6, 0, 0, [], 77)) none) (cond (Nat.ble pc 77) (cond (Nat.beq pc 77) (some (40, 200, 95, [], 80)) none) (cond (Nat.beq pc 80) (some (41, 0, 0, [], 81)) none))))) (cond (Nat.ble pc 87) (cond (Nat.ble pc 82) (cond (Nat.ble pc 81) (cond (Nat.beq pc 81) (some (2, 0, 0, [], 82)) none) (cond (Nat.beq pc 82) (some (1, 0, 1, [], 83)) none)) (cond (Nat.ble pc 83) (cond (Nat.beq pc 83) (some (40, 203, 96, [], 86)) none) (cond (Nat.ble pc 86) (cond (Nat.beq pc 86) (some (41, 0, 0, [], 87)) none) (cond (Nat.beq pc 87) (some (2, 0, 0, [], 88)) none)))) (cond (Nat.ble pc 89) (cond (Nat.ble pc 88) (cond (Nat.beq pc 88) (some (1, 0, 1, [], 89)) none) (cond (Nat.beq pc 89) (some (40, 206, 94, [], 92)) none)) (cond (Nat.ble pc 92) (cond (Nat.beq pc 92) (some (41, 0, 0, [], 93)) none) (cond (Nat.ble pc 93) (cond (Nat.beq pc 93) (some (0, (-1), 0, [], 94)) none) (cond (Nat.beq pc 94) (some (41, 0, 0, [], 95)) none))))))) none
def qc76 (pc : Nat) : Option qX := cond (Nat.ble pc 98) (cond (Nat.ble pc 65) (cond (Nat.ble pc 14) (cond (Nat.ble pc 5) (cond (Nat.ble pc 1) (cond (Nat.ble pc 0) (cond (Nat.beq pc 0) (some (2, 0, 0, [], 1)) none) (cond (Nat.beq pc 1) (some (1, 0, 1, [], 2)) none)) (cond (Nat.ble pc 2) (cond (Nat.beq pc 2) (some (40, 209, 83, [], 5)) none) (cond (Nat.beq pc 5) (some (17, 1, 10, [], 8)) none))) (cond (Nat.ble pc 9) (cond (Nat.ble pc 8) (cond (Nat.beq pc 8) (some (0, (-1), 0, [], 9)) none) (cond (Nat.beq pc 9) (some (41, 0, 0, [], 10)) none)) (cond (Nat.ble pc 10) (cond (Nat.beq pc 10) (some (2, 0, 0, [], 11)) none) (cond (Nat.ble pc 11) (cond (Nat.beq pc 11) (some (22, 4, 36, [7], 14)) none) (cond (Nat.beq pc 14) (some (1, 0, 1, [], 15)) none))))) (cond (Nat.ble pc 56) (cond (Nat.ble pc 18) (cond (Nat.ble pc 15) (cond (Nat.beq pc 15) (some (40, 212, 47, [], 18)) none) (cond (Nat.beq pc 18) (some (4, 0, 3, [], 19)) none)) (cond (Nat.ble pc 19) (cond (Nat.beq pc 19) (some (1, 0, 2, [], 20)) none) (cond (Nat.ble pc 20) (cond (Nat.beq pc 20) (some (20, 0, 97, [56, 65, 79, 84, 89], 56)) none) (cond (Nat.beq pc 56) (some (2, 0, 0, [], 57)) none)))) (cond (Nat.ble pc 60) (cond (Nat.ble pc 57) (cond (Nat.beq pc 57) (some (22, 6, 50, [7], 60)) none) (cond (Nat.beq pc 60) (some (1, 0, 1, [], 61)) none)) (cond (Nat.ble pc 61) (cond (Nat.beq pc 61) (some (40, 215, 58, [], 64)) none) (cond (Nat.ble pc 64) (cond (Nat.beq pc 64) (some (41, 0, 0, [], 65)) none) (cond (Nat.beq pc 65) (some (2, 0, 0, [], 66)) none)))))) (cond (Nat.ble pc 83) (cond (Nat.ble pc 74) (cond (Nat.ble pc 67) (cond (Nat.ble pc 66) (cond (Nat.beq pc 66) (some (1, 0, 1, [], 67)) none) (cond (Nat.beq pc 67) (some (40, 218, 85, [], 70)) none)) (cond (Nat.ble pc 70) (cond (Nat.beq pc 70) (some (17, 0, 77, [], 73)) none) (cond (Nat.ble pc 73) (cond (Nat.beq pc 73) (some (0, 1, 0, [], 74)) none) (cond (Nat.beq pc 74) (some (15, 0, 78, [], 77)) none)))) (cond (Nat.ble pc 78) (cond (Nat.ble pc 77) (cond (Nat.beq pc 77) (some (0, 0, 0, [], 78)) none) (cond (Nat.beq pc 78) (some (41, 0, 0, [], 79)) none)) (cond (Nat.ble pc 79) (cond (Nat.beq pc 79) (some (2, 0, 3, [], 80)) none) (cond (Nat.ble pc 80) (cond (Nat.beq pc 80) (some (40, 179, 5, [], 83)) none) (cond (Nat.beq pc 83) (some (41, 0, 0, [], 84)) none))))) (cond (Nat.ble pc 90) (cond (Nat.ble pc 85) (cond (Nat.ble pc 84) (cond (Nat.beq pc 84) (some (2, 0, 3, [], 85)) none) (cond (Nat.beq pc 85) (some (40, 182, 6, [], 88)) none)) (cond (Nat.ble pc 88) (cond (Nat.beq pc 88) (some (41, 0, 0, [], 89)) none) (cond (Nat.ble pc 89) (cond (Nat.beq pc 89) (some (2, 0, 0, [], 90)) none) (cond (Nat.beq pc 90) (some (2, 0, 3, [], 91)) none)))) (cond (Nat.ble pc 93) (cond (Nat.ble pc 91) (cond (Nat.beq pc 91) (some (0, (-9), 0, [], 93)) none) (cond (Nat.beq pc 93) (some (40, 185, 98, [], 96)) none)) (cond (Nat.ble pc 96) (cond (Nat.beq pc 96) (some (41, 0, 0, [], 97)) none) (cond (Nat.ble pc 97) (cond (Nat.beq pc 97) (some (0, (-1), 0, [], 98)) none) (cond (Nat.beq pc 98) (some (41, 0, 0, [], 99)) none))))))) none
def qc77 (pc : Nat) : Option qX := cond (Nat.ble pc 75) (cond (Nat.ble pc 34) (cond (Nat.ble pc 17) (cond (Nat.ble pc 8) (cond (Nat.ble pc 1) (cond (Nat.ble pc 0) (cond (Nat.beq pc 0) (some (2, 0, 0, [], 1)) none) (cond (Nat.beq pc 1) (some (1, 0, 1, [], 2)) none)) (cond (Nat.ble pc 2) (cond (Nat.beq pc 2) (some (40, 209, 83, [], 5)) none) (cond (Nat.ble pc 5) (cond (Nat.beq pc 5) (some (17, 0, 16, [], 8)) none) (cond (Nat.beq pc 8) (some (1, 0, 2, [], 9)) none)))) (cond (Nat.ble pc 12) (cond (Nat.ble pc 9) (cond (Nat.beq pc 9) (some (17, 2, 16, [], 12)) none) (cond (Nat.beq pc 12) (some (1, 0, 3, [], 13)) none)) (cond (Nat.ble pc 13) (cond (Nat.beq pc 13) (some (17, 3, 18, [], 16)) none) (cond (Nat.ble pc 16) (cond (Nat.beq pc 16) (some (0, (-1), 0, [], 17)) none) (cond (Nat.beq pc 17) (some (41, 0, 0, [], 18)) none))))) (cond (Nat.ble pc 26) (cond (Nat.ble pc 19) (cond (Nat.ble pc 18) (cond (Nat.beq pc 18) (some (2, 0, 0, [], 19)) none) (cond (Nat.beq pc 19) (some (1, 0, 1, [], 20)) none)) (cond (Nat.ble pc 20) (cond (Nat.beq pc 20) (some (40, 218, 85, [], 23)) none) (cond (Nat.ble pc 23) (cond (Nat.beq pc 23) (some (17, 1, 29, [], 26)) none) (cond (Nat.beq pc 26) (some (0, (-2), 0, [], 28)) none)))) (cond (Nat.ble pc 29) (cond (Nat.ble pc 28) (cond (Nat.beq pc 28) (some (41, 0, 0, [], 29)) none) (cond (Nat.beq pc 29) (some (2, 0, 0, [], 30)) none)) (cond (Nat.ble pc 30) (cond (Nat.beq pc 30) (some (22, 6, 50, [7], 33)) none) (cond (Nat.ble pc 33) (cond (Nat.beq pc 33) (some (1, 0, 1, [], 34)) none) (cond (Nat.beq pc 34) (some (1, 0, 3, [], 35)) none)))))) (cond (Nat.ble pc 53) (cond (Nat.ble pc 44) (cond (Nat.ble pc 38) (cond (Nat.ble pc 35) (cond (Nat.beq pc 35) (some (40, 221, 59, [], 38)) none) (cond (Nat.beq pc 38) (some (3, 0, 4, [], 40)) none)) (cond (Nat.ble pc 40) (cond (Nat.beq pc 40) (some (1, 0, 4, [], 42)) none) (cond (Nat.ble pc 42) (cond (Nat.beq pc 42) (some (0, (-9), 0, [], 44)) none) (cond (Nat.beq pc 44) (some (16, 0, 62, [], 47)) none)))) (cond (Nat.ble pc 48) (cond (Nat.ble pc 47) (cond (Nat.beq pc 47) (some (1, 0, 2, [], 48)) none) (cond (Nat.beq pc 48) (some (2, 0, 0, [], 49)) none)) (cond (Nat.ble pc 49) (cond (Nat.beq pc 49) (some (22, 4, 36, [7], 52)) none) (cond (Nat.ble pc 52) (cond (Nat.beq pc 52) (some (1, 0, 1, [], 53)) none) (cond (Nat.beq pc 53) (some (40, 212, 47, [], 56)) none))))) (cond (Nat.ble pc 65) (cond (Nat.ble pc 59) (cond (Nat.ble pc 56) (cond (Nat.beq pc 56) (some (40, 179, 5, [], 59)) none) (cond (Nat.beq pc 59) (some (16, 2, 65, [], 62)) none)) (cond (Nat.ble pc 62) (cond (Nat.beq pc 62) (some (0, (-9), 0, [], 64)) none) (cond (Nat.ble pc 64) (cond (Nat.beq pc 64) (some (41, 0, 0, [], 65)) none) (cond (Nat.beq pc 65) (some (2, 0, 0, [], 66)) none)))) (cond (Nat.ble pc 69) (cond (Nat.ble pc 66) (cond (Nat.beq pc 66) (some (22, 6, 50, [7], 69)) none) (cond (Nat.beq pc 69) (some (1, 0, 4, [], 71)) none)) (cond (Nat.ble pc 71) (cond (Nat.beq pc 71) (some (1, 0, 2, [], 72)) none) (cond (Nat.ble pc 72) (cond (Nat.beq pc 72) (some (40, 138, 60, [], 75)) none) (cond (Nat.beq pc 75) (some (41, 0, 0, [], 76)) none))))))) none
def qc78 (pc : Nat) : Option qX := cond (Nat.ble pc 41) (cond (Nat.ble pc 18) (cond (Nat.ble pc 8) (cond (Nat.ble pc 1) (cond (Nat.ble pc 0) (cond (Nat.beq pc 0) (some (2, 0, 0, [], 1)) none) (cond (Nat.beq pc 1) (some (1, 0, 1, [], 2)) none)) (cond (Nat.ble pc 2) (cond (Nat.beq pc 2) (some (40, 209, 83, [], 5)) none) (cond (Nat.ble pc 5) (cond (Nat.beq pc 5) (some (17, 0, 12, [], 8)) none) (cond (Nat.beq pc 8) (some (1, 0, 2, [], 9)) none)))) (cond (Nat.ble pc 13) (cond (Nat.ble pc 9) (cond (Nat.beq pc 9) (some (17, 3, 14, [], 12)) none) (cond (Nat.ble pc 12) (cond (Nat.beq pc 12) (some (0, (-1), 0, [], 13)) none) (cond (Nat.beq pc 13) (some (41, 0, 0, [], 14)) none))) (cond (Nat.ble pc 14) (cond (Nat.beq pc 14) (some (2, 0, 0, [], 15)) none) (cond (Nat.ble pc 15) (cond (Nat.beq pc 15) (some (22, 4, 36, [7], 18)) none) (cond (Nat.beq pc 18) (some (1, 0, 1, [], 19)) none))))) (cond (Nat.ble pc 28) (cond (Nat.ble pc 23) (cond (Nat.ble pc 19) (cond (Nat.beq pc 19) (some (40, 212, 47, [], 22)) none) (cond (Nat.ble pc 22) (cond (Nat.beq pc 22) (some (4, 0, 3, [], 23)) none) (cond (Nat.beq pc 23) (some (1, 0, 2, [], 24)) none))) (cond (Nat.ble pc 24) (cond (Nat.beq pc 24) (some (2, 0, 3, [], 25)) none) (cond (Nat.ble pc 25) (cond (Nat.beq pc 25) (some (40, 224, 4, [], 28)) none) (cond (Nat.beq pc 28) (some (16, 3, 39, [], 31)) none)))) (cond (Nat.ble pc 33) (cond (Nat.ble pc 31) (cond (Nat.beq pc 31) (some (2, 0, 3, [], 32)) none) (cond (Nat.ble pc 32) (cond (Nat.beq pc 32) (some (1, 0, 2, [], 33)) none) (cond (Nat.beq pc 33) (some (40, 225, 7, [], 36)) none))) (cond (Nat.ble pc 36) (cond (Nat.beq pc 36) (some (15, 0, 41, [], 39)) none) (cond (Nat.ble pc 39) (cond (Nat.beq pc 39) (some (0, (-9), 0, [], 41)) none) (cond (Nat.beq pc 41) (some (41, 0, 0, [], 42)) none)))))) none
def qc79 (pc : Nat) : Option qX := cond (Nat.ble pc 17) (cond (Nat.ble pc 8) (cond (Nat.ble pc 1) (cond (Nat.ble pc 0) (cond (Nat.beq pc 0) (some (2, 0, 0, [], 1)) none) (cond (Nat.beq pc 1) (some (1, 0, 1, [], 2)) none)) (cond (Nat.ble pc 2) (cond (Nat.beq pc 2) (some (40, 157, 84, [], 5)) none) (cond (Nat.ble pc 5) (cond (Nat.beq pc 5) (some (17, 0, 16, [], 8)) none) (cond (Nat.beq pc 8) (some (2, 0, 0, [], 9)) none)))) (cond (Nat.ble pc 10) (cond (Nat.ble pc 9) (cond (Nat.beq pc 9) (some (1, 0, 1, [], 10)) none) (cond (Nat.beq pc 10) (some (40, 173, 93, [], 13)) none)) (cond (Nat.ble pc 13) (cond (Nat.beq pc 13) (some (15, 0, 17, [], 16)) none) (cond (Nat.ble pc 16) (cond (Nat.beq pc 16) (some (0, (-1), 0, [], 17)) none) (cond (Nat.beq pc 17) (some (41, 0, 0, [], 18)) none))))) none
def qc80 (pc : Nat) : Option qX := cond (Nat.ble pc 41) (cond (Nat.ble pc 17) (cond (Nat.ble pc 7) (cond (Nat.ble pc 2) (cond (Nat.ble pc 0) (cond (Nat.beq pc 0) (some (0, 1, 0, [], 1)) none) (cond (Nat.ble pc 1) (cond (Nat.beq pc 1) (some (3, 0, 1, [], 2)) none) (cond (Nat.beq pc 2) (some (2, 0, 0, [], 3)) none))) (cond (Nat.ble pc 3) (cond (Nat.beq pc 3) (some (1, 0, 1, [], 4)) none) (cond (Nat.ble pc 4) (cond (Nat.beq pc 4) (some (40, 173, 93, [], 7)) none) (cond (Nat.beq pc 7) (some (3, 0, 2, [], 8)) none)))) (cond (Nat.ble pc 10) (cond (Nat.ble pc 8) (cond (Nat.beq pc 8) (some (0, 2, 0, [], 9)) none) (cond (Nat.ble pc 9) (cond (Nat.beq pc 9) (some (3, 0, 3, [], 10)) none) (cond (Nat.beq pc 10) (some (1, 0, 3, [], 11)) none))) (cond (Nat.ble pc 13) (cond (Nat.ble pc 11) (cond (Nat.beq pc 11) (some (0, 10, 0, [], 13)) none) (cond (Nat.beq pc 13) (some (16, 4, 40, [], 16)) none)) (cond (Nat.ble pc 16) (cond (Nat.beq pc 16) (some (2, 0, 0, [], 17)) none) (cond (Nat.beq pc 17) (some (1, 0, 3, [], 18)) none))))) (cond (Nat.ble pc 29) (cond (Nat.ble pc 23) (cond (Nat.ble pc 18) (cond (Nat.beq pc 18) (some (40, 173, 93, [], 21)) none) (cond (Nat.ble pc 21) (cond (Nat.beq pc 21) (some (3, 0, 4, [], 23)) none) (cond (Nat.beq pc 23) (some (1, 0, 4, [], 25)) none))) (cond (Nat.ble pc 25) (cond (Nat.beq pc 25) (some (1, 0, 2, [], 26)) none) (cond (Nat.ble pc 26) (cond (Nat.beq pc 26) (some (16, 3, 34, [], 29)) none) (cond (Nat.beq pc 29) (some (1, 0, 4, [], 31)) none)))) (cond (Nat.ble pc 33) (cond (Nat.ble pc 31) (cond (Nat.beq pc 31) (some (3, 0, 2, [], 32)) none) (cond (Nat.ble pc 32) (cond (Nat.beq pc 32) (some (1, 0, 3, [], 33)) none) (cond (Nat.beq pc 33) (some (3, 0, 1, [], 34)) none))) (cond (Nat.ble pc 37) (cond (Nat.ble pc 34) (cond (Nat.beq pc 34) (some (5, 1, 3, [], 37)) none) (cond (Nat.beq pc 37) (some (15, 0, 10, [], 40)) none)) (cond (Nat.ble pc 40) (cond (Nat.beq pc 40) (some (1, 0, 1, [], 41)) none) (cond (Nat.beq pc 41) (some (41, 0, 0, [], 42)) none)))))) none
def qc81 (pc : Nat) : Option qX := cond (Nat.ble pc 91) (cond (Nat.ble pc 40) (cond (Nat.ble pc 18) (cond (Nat.ble pc 8) (cond (Nat.ble pc 1) (cond (Nat.ble pc 0) (cond (Nat.beq pc 0) (some (2, 0, 0, [], 1)) none) (cond (Nat.beq pc 1) (some (22, 6, 50, [7], 4)) none)) (cond (Nat.ble pc 4) (cond (Nat.beq pc 4) (some (1, 0, 1, [], 5)) none) (cond (Nat.ble pc 5) (cond (Nat.beq pc 5) (some (40, 116, 55, [], 8)) none) (cond (Nat.beq pc 8) (some (17, 1, 13, [], 11)) none)))) (cond (Nat.ble pc 13) (cond (Nat.ble pc 11) (cond (Nat.beq pc 11) (some (0, (-1), 0, [], 12)) none) (cond (Nat.ble pc 12) (cond (Nat.beq pc 12) (some (41, 0, 0, [], 13)) none) (cond (Nat.beq pc 13) (some (2, 0, 0, [], 14)) none))) (cond (Nat.ble pc 14) (cond (Nat.beq pc 14) (some (1, 0, 1, [], 15)) none) (cond (Nat.ble pc 15) (cond (Nat.beq pc 15) (some (40, 130, 86, [], 18)) none) (cond (Nat.beq pc 18) (some (4, 0, 2, [], 19)) none))))) (cond (Nat.ble pc 26) (cond (Nat.ble pc 22) (cond (Nat.ble pc 19) (cond (Nat.beq pc 19) (some (0, (-9), 0, [], 21)) none) (cond (Nat.ble pc 21) (cond (Nat.beq pc 21) (some (3, 0, 3, [], 22)) none) (cond (Nat.beq pc 22) (some (0, (-1), 0, [], 23)) none))) (cond (Nat.ble pc 23) (cond (Nat.beq pc 23) (some (3, 0, 4, [], 25)) none) (cond (Nat.ble pc 25) (cond (Nat.beq pc 25) (some (0, 0, 0, [], 26)) none) (cond (Nat.beq pc 26) (some (3, 0, 5, [], 28)) none)))) (cond (Nat.ble pc 31) (cond (Nat.ble pc 28) (cond (Nat.beq pc 28) (some (1, 0, 5, [], 30)) none) (cond (Nat.ble pc 30) (cond (Nat.beq pc 30) (some (2, 0, 0, [], 31)) none) (cond (Nat.beq pc 31) (some (22, 6, 50, [7], 34)) none))) (cond (Nat.ble pc 34) (cond (Nat.beq pc 34) (some (40, 95, 56, [], 37)) none) (cond (Nat.ble pc 37) (cond (Nat.beq pc 37) (some (16, 3, 90, [], 40)) none) (cond (Nat.beq pc 40) (some (1, 0, 5, [], 42)) none)))))) (cond (Nat.ble pc 65) (cond (Nat.ble pc 52) (cond (Nat.ble pc 46) (cond (Nat.ble pc 42) (cond (Nat.beq pc 42) (some (1, 0, 1, [], 43)) none) (cond (Nat.ble pc 43) (cond (Nat.beq pc 43) (some (16, 0, 84, [], 46)) none) (cond (Nat.beq pc 46) (some (2, 0, 0, [], 47)) none))) (cond (Nat.ble pc 47) (cond (Nat.beq pc 47) (some (22, 6, 50, [7], 50)) none) (cond (Nat.ble pc 50) (cond (Nat.beq pc 50) (some (1, 0, 5, [], 52)) none) (cond (Nat.beq pc 52) (some (40, 116, 55, [], 55)) none)))) (cond (Nat.ble pc 59) (cond (Nat.ble pc 55) (cond (Nat.beq pc 55) (some (17, 0, 84, [], 58)) none) (cond (Nat.ble pc 58) (cond (Nat.beq pc 58) (some (2, 0, 2, [], 59)) none) (cond (Nat.beq pc 59) (some (2, 0, 0, [], 60)) none))) (cond (Nat.ble pc 60) (cond (Nat.beq pc 60) (some (1, 0, 5, [], 62)) none) (cond (Nat.ble pc 62) (cond (Nat.beq pc 62) (some (40, 130, 86, [], 65)) none) (cond (Nat.beq pc 65) (some (40, 226, 13, [], 68)) none))))) (cond (Nat.ble pc 79) (cond (Nat.ble pc 72) (cond (Nat.ble pc 68) (cond (Nat.beq pc 68) (some (3, 0, 6, [], 70)) none) (cond (Nat.ble pc 70) (cond (Nat.beq pc 70) (some (1, 0, 6, [], 72)) none) (cond (Nat.beq pc 72) (some (1, 0, 4, [], 74)) none))) (cond (Nat.ble pc 74) (cond (Nat.beq pc 74) (some (16, 5, 84, [], 77)) none) (cond (Nat.ble pc 77) (cond (Nat.beq pc 77) (some (1, 0, 6, [], 79)) none) (cond (Nat.beq pc 79) (some (3, 0, 4, [], 81)) none)))) (cond (Nat.ble pc 84) (cond (Nat.ble pc 81) (cond (Nat.beq pc 81) (some (1, 0, 5, [], 83)) none) (cond (Nat.ble pc 83) (cond (Nat.beq pc 83) (some (3, 0, 3, [], 84)) none) (cond (Nat.beq pc 84) (some (5, 1, 5, [], 87)) none))) (cond (Nat.ble pc 87) (cond (Nat.beq pc 87) (some (15, 0, 28, [], 90)) none) (cond (Nat.ble pc 90) (cond (Nat.beq pc 90) (some (1, 0, 3, [], 91)) none) (cond (Nat.beq pc 91) (some (41, 0, 0, [], 92)) none))))))) none
def qc82 (pc : Nat) : Option qX := cond (Nat.ble pc 20) (cond (Nat.ble pc 6) (cond (Nat.ble pc 1) (cond (Nat.ble pc 0) (cond (Nat.beq pc 0) (some (1, 0, 1, [], 1)) none) (cond (Nat.beq pc 1) (some (17, 2, 19, [], 4)) none)) (cond (Nat.ble pc 4) (cond (Nat.beq pc 4) (some (1, 0, 1, [], 5)) none) (cond (Nat.ble pc 5) (cond (Nat.beq pc 5) (some (2, 0, 0, [], 6)) none) (cond (Nat.beq pc 6) (some (22, 6, 50, [7], 9)) none)))) (cond (Nat.ble pc 15) (cond (Nat.ble pc 9) (cond (Nat.beq pc 9) (some (21, 2, 71, [6], 12)) none) (cond (Nat.ble pc 12) (cond (Nat.beq pc 12) (some (16, 3, 19, [], 15)) none) (cond (Nat.beq pc 15) (some (0, 1, 0, [], 16)) none))) (cond (Nat.ble pc 16) (cond (Nat.beq pc 16) (some (15, 0, 20, [], 19)) none) (cond (Nat.ble pc 19) (cond (Nat.beq pc 19) (some (0, 0, 0, [], 20)) none) (cond (Nat.beq pc 20) (some (42, 0, 0, [], 21)) none))))) none
def qc83 (pc : Nat) : Option qX := cond (Nat.ble pc 20) (cond (Nat.ble pc 6) (cond (Nat.ble pc 1) (cond (Nat.ble pc 0) (cond (Nat.beq pc 0) (some (1, 0, 1, [], 1)) none) (cond (Nat.beq pc 1) (some (17, 2, 19, [], 4)) none)) (cond (Nat.ble pc 4) (cond (Nat.beq pc 4) (some (1, 0, 1, [], 5)) none) (cond (Nat.ble pc 5) (cond (Nat.beq pc 5) (some (2, 0, 0, [], 6)) none) (cond (Nat.beq pc 6) (some (22, 6, 50, [7], 9)) none)))) (cond (Nat.ble pc 15) (cond (Nat.ble pc 9) (cond (Nat.beq pc 9) (some (21, 3, 88, [6], 12)) none) (cond (Nat.ble pc 12) (cond (Nat.beq pc 12) (some (16, 3, 19, [], 15)) none) (cond (Nat.beq pc 15) (some (0, 1, 0, [], 16)) none))) (cond (Nat.ble pc 16) (cond (Nat.beq pc 16) (some (15, 0, 20, [], 19)) none) (cond (Nat.ble pc 19) (cond (Nat.beq pc 19) (some (0, 0, 0, [], 20)) none) (cond (Nat.beq pc 20) (some (42, 0, 0, [], 21)) none))))) none
def qc84 (pc : Nat) : Option qX := cond (Nat.ble pc 16) (cond (Nat.ble pc 6) (cond (Nat.ble pc 1) (cond (Nat.ble pc 0) (cond (Nat.beq pc 0) (some (1, 0, 1, [], 1)) none) (cond (Nat.beq pc 1) (some (0, 1, 0, [], 2)) none)) (cond (Nat.ble pc 2) (cond (Nat.beq pc 2) (some (16, 2, 15, [], 5)) none) (cond (Nat.ble pc 5) (cond (Nat.beq pc 5) (some (1, 0, 1, [], 6)) none) (cond (Nat.beq pc 6) (some (0, 10, 0, [], 8)) none)))) (cond (Nat.ble pc 11) (cond (Nat.ble pc 8) (cond (Nat.beq pc 8) (some (16, 4, 15, [], 11)) none) (cond (Nat.beq pc 11) (some (0, 1, 0, [], 12)) none)) (cond (Nat.ble pc 12) (cond (Nat.beq pc 12) (some (15, 0, 16, [], 15)) none) (cond (Nat.ble pc 15) (cond (Nat.beq pc 15) (some (0, 0, 0, [], 16)) none) (cond (Nat.beq pc 16) (some (42, 0, 0, [], 17)) none))))) none
def qc85 (pc : Nat) : Option qX := cond (Nat.ble pc 23) (cond (Nat.ble pc 9) (cond (Nat.ble pc 4) (cond (Nat.ble pc 0) (cond (Nat.beq pc 0) (some (2, 0, 0, [], 1)) none) (cond (Nat.ble pc 1) (cond (Nat.beq pc 1) (some (22, 6, 50, [7], 4)) none) (cond (Nat.beq pc 4) (some (1, 0, 1, [], 5)) none))) (cond (Nat.ble pc 5) (cond (Nat.beq pc 5) (some (40, 215, 58, [], 8)) none) (cond (Nat.ble pc 8) (cond (Nat.beq pc 8) (some (2, 0, 0, [], 9)) none) (cond (Nat.beq pc 9) (some (22, 6, 50, [7], 12)) none)))) (cond (Nat.ble pc 18) (cond (Nat.ble pc 12) (cond (Nat.beq pc 12) (some (21, 4, 160, [6], 15)) none) (cond (Nat.ble pc 15) (cond (Nat.beq pc 15) (some (16, 2, 22, [], 18)) none) (cond (Nat.beq pc 18) (some (0, 1, 0, [], 19)) none))) (cond (Nat.ble pc 19) (cond (Nat.beq pc 19) (some (15, 0, 23, [], 22)) none) (cond (Nat.ble pc 22) (cond (Nat.beq pc 22) (some (0, 0, 0, [], 23)) none) (cond (Nat.beq pc 23) (some (42, 0, 0, [], 24)) none))))) none
def qc86 (pc : Nat) : Option qX := cond (Nat.ble pc 15) (cond (Nat.ble pc 5) (cond (Nat.ble pc 1) (cond (Nat.ble pc 0) (cond (Nat.beq pc 0) (some (2, 0, 0, [], 1)) none) (cond (Nat.beq pc 1) (some (22, 4, 36, [7], 4)) none)) (cond (Nat.ble pc 4) (cond (Nat.beq pc 4) (some (2, 0, 0, [], 5)) none) (cond (Nat.beq pc 5) (some (22, 6, 50, [7], 8)) none))) (cond (Nat.ble pc 9) (cond (Nat.ble pc 8) (cond (Nat.beq pc 8) (some (1, 0, 1, [], 9)) none) (cond (Nat.beq pc 9) (some (40, 176, 53, [], 12)) none)) (cond (Nat.ble pc 12) (cond (Nat.beq pc 12) (some (40, 212, 47, [], 15)) none) (cond (Nat.beq pc 15) (some (43, 0, 0, [], 16)) none)))) none
def qc87 (pc : Nat) : Option qX := cond (Nat.ble pc 46) (cond (Nat.ble pc 18) (cond (Nat.ble pc 4) (cond (Nat.ble pc 1) (cond (Nat.ble pc 0) (cond (Nat.beq pc 0) (some (0, 0, 0, [], 1)) none) (cond (Nat.beq pc 1) (some (3, 0, 1, [], 2)) none)) (cond (Nat.ble pc 2) (cond (Nat.beq pc 2) (some (1, 0, 1, [], 3)) none) (cond (Nat.ble pc 3) (cond (Nat.beq pc 3) (some (2, 0, 0, [], 4)) none) (cond (Nat.beq pc 4) (some (22, 0, 14, [7], 7)) none)))) (cond (Nat.ble pc 13) (cond (Nat.ble pc 7) (cond (Nat.beq pc 7) (some (40, 61, 40, [], 10)) none) (cond (Nat.ble pc 10) (cond (Nat.beq pc 10) (some (16, 3, 39, [], 13)) none) (cond (Nat.beq pc 13) (some (2, 0, 0, [], 14)) none))) (cond (Nat.ble pc 14) (cond (Nat.beq pc 14) (some (22, 2, 24, [7], 17)) none) (cond (Nat.ble pc 17) (cond (Nat.beq pc 17) (some (2, 0, 0, [], 18)) none) (cond (Nat.beq pc 18) (some (22, 0, 14, [7], 21)) none))))) (cond (Nat.ble pc 32) (cond (Nat.ble pc 25) (cond (Nat.ble pc 21) (cond (Nat.beq pc 21) (some (1, 0, 1, [], 22)) none) (cond (Nat.ble pc 22) (cond (Nat.beq pc 22) (some (40, 191, 41, [], 25)) none) (cond (Nat.beq pc 25) (some (40, 230, 29, [], 28)) none))) (cond (Nat.ble pc 28) (cond (Nat.beq pc 28) (some (17, 1, 33, [], 31)) none) (cond (Nat.ble pc 31) (cond (Nat.beq pc 31) (some (1, 0, 1, [], 32)) none) (cond (Nat.beq pc 32) (some (41, 0, 0, [], 33)) none)))) (cond (Nat.ble pc 39) (cond (Nat.ble pc 33) (cond (Nat.beq pc 33) (some (5, 1, 1, [], 36)) none) (cond (Nat.ble pc 36) (cond (Nat.beq pc 36) (some (15, 0, 2, [], 39)) none) (cond (Nat.beq pc 39) (some (2, 0, 0, [], 40)) none))) (cond (Nat.ble pc 40) (cond (Nat.beq pc 40) (some (22, 0, 14, [7], 43)) none) (cond (Nat.ble pc 43) (cond (Nat.beq pc 43) (some (40, 61, 40, [], 46)) none) (cond (Nat.beq pc 46) (some (41, 0, 0, [], 47)) none)))))) none
def qc88 (pc : Nat) : Option qX := cond (Nat.ble pc 33) (cond (Nat.ble pc 16) (cond (Nat.ble pc 5) (cond (Nat.ble pc 1) (cond (Nat.ble pc 0) (cond (Nat.beq pc 0) (some (1, 0, 1, [], 1)) none) (cond (Nat.beq pc 1) (some (2, 0, 0, [], 2)) none)) (cond (Nat.ble pc 2) (cond (Nat.beq pc 2) (some (22, 6, 50, [7], 5)) none) (cond (Nat.beq pc 5) (some (21, 3, 88, [6], 8)) none))) (cond (Nat.ble pc 11) (cond (Nat.ble pc 8) (cond (Nat.beq pc 8) (some (16, 1, 33, [], 11)) none) (cond (Nat.beq pc 11) (some (2, 0, 0, [], 12)) none)) (cond (Nat.ble pc 12) (cond (Nat.beq pc 12) (some (22, 4, 36, [7], 15)) none) (cond (Nat.ble pc 15) (cond (Nat.beq pc 15) (some (1, 0, 1, [], 16)) none) (cond (Nat.beq pc 16) (some (2, 0, 2, [], 17)) none))))) (cond (Nat.ble pc 24) (cond (Nat.ble pc 20) (cond (Nat.ble pc 17) (cond (Nat.beq pc 17) (some (40, 233, 49, [], 20)) none) (cond (Nat.beq pc 20) (some (2, 0, 0, [], 21)) none)) (cond (Nat.ble pc 21) (cond (Nat.beq pc 21) (some (22, 6, 50, [7], 24)) none) (cond (Nat.beq pc 24) (some (12, 0, 0, [], 25)) none))) (cond (Nat.ble pc 28) (cond (Nat.ble pc 25) (cond (Nat.beq pc 25) (some (21, 3, 88, [6], 28)) none) (cond (Nat.beq pc 28) (some (0, 1, 0, [], 29)) none)) (cond (Nat.ble pc 29) (cond (Nat.beq pc 29) (some (6, 0, 0, [], 30)) none) (cond (Nat.ble pc 30) (cond (Nat.beq pc 30) (some (23, 3, 88, [6], 33)) none) (cond (Nat.beq pc 33) (some (44, 0, 0, [], 34)) none)))))) none
def qc89 (pc : Nat) : Option qX := cond (Nat.ble pc 51) (cond (Nat.ble pc 22) (cond (Nat.ble pc 9) (cond (Nat.ble pc 4) (cond (Nat.ble pc 0) (cond (Nat.beq pc 0) (some (2, 0, 0, [], 1)) none) (cond (Nat.ble pc 1) (cond (Nat.beq pc 1) (some (22, 5, 43, [7], 4)) none) (cond (Nat.beq pc 4) (some (40, 235, 1, [], 7)) none))) (cond (Nat.ble pc 7) (cond (Nat.beq pc 7) (some (0, 0, 0, [], 8)) none) (cond (Nat.ble pc 8) (cond (Nat.beq pc 8) (some (3, 0, 3, [], 9)) none) (cond (Nat.beq pc 9) (some (1, 0, 3, [], 10)) none)))) (cond (Nat.ble pc 14) (cond (Nat.ble pc 10) (cond (Nat.beq pc 10) (some (2, 0, 1, [], 11)) none) (cond (Nat.ble pc 11) (cond (Nat.beq pc 11) (some (40, 224, 4, [], 14)) none) (cond (Nat.beq pc 14) (some (16, 3, 51, [], 17)) none))) (cond (Nat.ble pc 18) (cond (Nat.ble pc 17) (cond (Nat.beq pc 17) (some (2, 0, 0, [], 18)) none) (cond (Nat.beq pc 18) (some (22, 3, 32, [7], 21)) none)) (cond (Nat.ble pc 21) (cond (Nat.beq pc 21) (some (2, 0, 1, [], 22)) none) (cond (Nat.beq pc 22) (some (1, 0, 3, [], 23)) none))))) (cond (Nat.ble pc 34) (cond (Nat.ble pc 27) (cond (Nat.ble pc 23) (cond (Nat.beq pc 23) (some (40, 238, 9, [], 26)) none) (cond (Nat.ble pc 26) (cond (Nat.beq pc 26) (some (1, 0, 2, [], 27)) none) (cond (Nat.beq pc 27) (some (40, 241, 25, [], 30)) none))) (cond (Nat.ble pc 30) (cond (Nat.beq pc 30) (some (17, 1, 45, [], 33)) none) (cond (Nat.ble pc 33) (cond (Nat.beq pc 33) (some (2, 0, 0, [], 34)) none) (cond (Nat.beq pc 34) (some (22, 5, 43, [7], 37)) none)))) (cond (Nat.ble pc 39) (cond (Nat.ble pc 37) (cond (Nat.beq pc 37) (some (2, 0, 1, [], 38)) none) (cond (Nat.ble pc 38) (cond (Nat.beq pc 38) (some (1, 0, 3, [], 39)) none) (cond (Nat.beq pc 39) (some (40, 225, 7, [], 42)) none))) (cond (Nat.ble pc 45) (cond (Nat.ble pc 42) (cond (Nat.beq pc 42) (some (40, 245, 2, [], 45)) none) (cond (Nat.beq pc 45) (some (5, 1, 3, [], 48)) none)) (cond (Nat.ble pc 48) (cond (Nat.beq pc 48) (some (15, 0, 9, [], 51)) none) (cond (Nat.beq pc 51) (some (44, 0, 0, [], 52)) none)))))) none
def qc90 (pc : Nat) : Option qX := cond (Nat.ble pc 76) (cond (Nat.ble pc 32) (cond (Nat.ble pc 12) (cond (Nat.ble pc 4) (cond (Nat.ble pc 1) (cond (Nat.ble pc 0) (cond (Nat.beq pc 0) (some (0, 0, 0, [], 1)) none) (cond (Nat.beq pc 1) (some (3, 0, 4, [], 3)) none)) (cond (Nat.ble pc 3) (cond (Nat.beq pc 3) (some (0, 0, 0, [], 4)) none) (cond (Nat.beq pc 4) (some (3, 0, 5, [], 6)) none))) (cond (Nat.ble pc 7) (cond (Nat.ble pc 6) (cond (Nat.beq pc 6) (some (0, 0, 0, [], 7)) none) (cond (Nat.beq pc 7) (some (3, 0, 6, [], 9)) none)) (cond (Nat.ble pc 9) (cond (Nat.beq pc 9) (some (1, 0, 6, [], 11)) none) (cond (Nat.ble pc 11) (cond (Nat.beq pc 11) (some (2, 0, 2, [], 12)) none) (cond (Nat.beq pc 12) (some (40, 224, 4, [], 15)) none))))) (cond (Nat.ble pc 21) (cond (Nat.ble pc 18) (cond (Nat.ble pc 15) (cond (Nat.beq pc 15) (some (16, 3, 76, [], 18)) none) (cond (Nat.beq pc 18) (some (2, 0, 2, [], 19)) none)) (cond (Nat.ble pc 19) (cond (Nat.beq pc 19) (some (1, 0, 6, [], 21)) none) (cond (Nat.beq pc 21) (some (40, 246, 8, [], 24)) none))) (cond (Nat.ble pc 27) (cond (Nat.ble pc 24) (cond (Nat.beq pc 24) (some (17, 1, 70, [], 27)) none) (cond (Nat.beq pc 27) (some (2, 0, 0, [], 28)) none)) (cond (Nat.ble pc 28) (cond (Nat.beq pc 28) (some (22, 3, 32, [7], 31)) none) (cond (Nat.ble pc 31) (cond (Nat.beq pc 31) (some (2, 0, 2, [], 32)) none) (cond (Nat.beq pc 32) (some (1, 0, 6, [], 34)) none)))))) (cond (Nat.ble pc 51) (cond (Nat.ble pc 41) (cond (Nat.ble pc 37) (cond (Nat.ble pc 34) (cond (Nat.beq pc 34) (some (40, 238, 9, [], 37)) none) (cond (Nat.beq pc 37) (some (1, 0, 3, [], 38)) none)) (cond (Nat.ble pc 38) (cond (Nat.beq pc 38) (some (40, 241, 25, [], 41)) none) (cond (Nat.beq pc 41) (some (17, 1, 67, [], 44)) none))) (cond (Nat.ble pc 45) (cond (Nat.ble pc 44) (cond (Nat.beq pc 44) (some (2, 0, 0, [], 45)) none) (cond (Nat.beq pc 45) (some (22, 6, 50, [7], 48)) none)) (cond (Nat.ble pc 48) (cond (Nat.beq pc 48) (some (1, 0, 1, [], 49)) none) (cond (Nat.ble pc 49) (cond (Nat.beq pc 49) (some (1, 0, 5, [], 51)) none) (cond (Nat.beq pc 51) (some (2, 0, 0, [], 52)) none))))) (cond (Nat.ble pc 61) (cond (Nat.ble pc 55) (cond (Nat.ble pc 52) (cond (Nat.beq pc 52) (some (22, 6, 50, [7], 55)) none) (cond (Nat.beq pc 55) (some (1, 0, 1, [], 56)) none)) (cond (Nat.ble pc 56) (cond (Nat.beq pc 56) (some (1, 0, 4, [], 58)) none) (cond (Nat.ble pc 58) (cond (Nat.beq pc 58) (some (40, 138, 60, [], 61)) none) (cond (Nat.beq pc 61) (some (40, 142, 61, [], 64)) none)))) (cond (Nat.ble pc 67) (cond (Nat.ble pc 64) (cond (Nat.beq pc 64) (some (5, 1, 5, [], 67)) none) (cond (Nat.beq pc 67) (some (5, 1, 4, [], 70)) none)) (cond (Nat.ble pc 70) (cond (Nat.beq pc 70) (some (5, 1, 6, [], 73)) none) (cond (Nat.ble pc 73) (cond (Nat.beq pc 73) (some (15, 0, 9, [], 76)) none) (cond (Nat.beq pc 76) (some (44, 0, 0, [], 77)) none))))))) none
def qc91 (pc : Nat) : Option qX := cond (Nat.ble pc 33) (cond (Nat.ble pc 12) (cond (Nat.ble pc 3) (cond (Nat.ble pc 1) (cond (Nat.ble pc 0) (cond (Nat.beq pc 0) (some (0, 0, 0, [], 1)) none) (cond (Nat.beq pc 1) (some (3, 0, 1, [], 2)) none)) (cond (Nat.ble pc 2) (cond (Nat.beq pc 2) (some (0, 0, 0, [], 3)) none) (cond (Nat.beq pc 3) (some (3, 0, 2, [], 4)) none))) (cond (Nat.ble pc 5) (cond (Nat.ble pc 4) (cond (Nat.beq pc 4) (some (1, 0, 2, [], 5)) none) (cond (Nat.beq pc 5) (some (2, 0, 0, [], 6)) none)) (cond (Nat.ble pc 6) (cond (Nat.beq pc 6) (some (22, 6, 50, [7], 9)) none) (cond (Nat.ble pc 9) (cond (Nat.beq pc 9) (some (21, 3, 88, [6], 12)) none) (cond (Nat.beq pc 12) (some (16, 3, 32, [], 15)) none))))) (cond (Nat.ble pc 20) (cond (Nat.ble pc 16) (cond (Nat.ble pc 15) (cond (Nat.beq pc 15) (some (2, 0, 0, [], 16)) none) (cond (Nat.beq pc 16) (some (1, 0, 2, [], 17)) none)) (cond (Nat.ble pc 17) (cond (Nat.beq pc 17) (some (40, 218, 85, [], 20)) none) (cond (Nat.beq pc 20) (some (17, 0, 26, [], 23)) none))) (cond (Nat.ble pc 26) (cond (Nat.ble pc 23) (cond (Nat.beq pc 23) (some (5, 1, 1, [], 26)) none) (cond (Nat.beq pc 26) (some (5, 1, 2, [], 29)) none)) (cond (Nat.ble pc 29) (cond (Nat.beq pc 29) (some (15, 0, 4, [], 32)) none) (cond (Nat.ble pc 32) (cond (Nat.beq pc 32) (some (1, 0, 1, [], 33)) none) (cond (Nat.beq pc 33) (some (41, 0, 0, [], 34)) none)))))) none
def qc92 (pc : Nat) : Option qX := cond (Nat.ble pc 41) (cond (Nat.ble pc 17) (cond (Nat.ble pc 5) (cond (Nat.ble pc 2) (cond (Nat.ble pc 0) (cond (Nat.beq pc 0) (some (0, 0, 0, [], 1)) none) (cond (Nat.ble pc 1) (cond (Nat.beq pc 1) (some (3, 0, 1, [], 2)) none) (cond (Nat.beq pc 2) (some (0, 0, 0, [], 3)) none))) (cond (Nat.ble pc 3) (cond (Nat.beq pc 3) (some (3, 0, 2, [], 4)) none) (cond (Nat.ble pc 4) (cond (Nat.beq pc 4) (some (1, 0, 2, [], 5)) none) (cond (Nat.beq pc 5) (some (2, 0, 0, [], 6)) none)))) (cond (Nat.ble pc 12) (cond (Nat.ble pc 6) (cond (Nat.beq pc 6) (some (22, 6, 50, [7], 9)) none) (cond (Nat.ble pc 9) (cond (Nat.beq pc 9) (some (21, 3, 88, [6], 12)) none) (cond (Nat.beq pc 12) (some (16, 3, 40, [], 15)) none))) (cond (Nat.ble pc 15) (cond (Nat.beq pc 15) (some (2, 0, 0, [], 16)) none) (cond (Nat.ble pc 16) (cond (Nat.beq pc 16) (some (1, 0, 2, [], 17)) none) (cond (Nat.beq pc 17) (some (40, 218, 85, [], 20)) none))))) (cond (Nat.ble pc 29) (cond (Nat.ble pc 24) (cond (Nat.ble pc 20) (cond (Nat.beq pc 20) (some (17, 1, 34, [], 23)) none) (cond (Nat.ble pc 23) (cond (Nat.beq pc 23) (some (1, 0, 1, [], 24)) none) (cond (Nat.beq pc 24) (some (2, 0, 0, [], 25)) none))) (cond (Nat.ble pc 25) (cond (Nat.beq pc 25) (some (22, 6, 50, [7], 28)) none) (cond (Nat.ble pc 28) (cond (Nat.beq pc 28) (some (1, 0, 2, [], 29)) none) (cond (Nat.beq pc 29) (some (40, 215, 58, [], 32)) none)))) (cond (Nat.ble pc 34) (cond (Nat.ble pc 32) (cond (Nat.beq pc 32) (some (6, 0, 0, [], 33)) none) (cond (Nat.ble pc 33) (cond (Nat.beq pc 33) (some (3, 0, 1, [], 34)) none) (cond (Nat.beq pc 34) (some (5, 1, 2, [], 37)) none))) (cond (Nat.ble pc 37) (cond (Nat.beq pc 37) (some (15, 0, 4, [], 40)) none) (cond (Nat.ble pc 40) (cond (Nat.beq pc 40) (some (1, 0, 1, [], 41)) none) (cond (Nat.beq pc 41) (some (41, 0, 0, [], 42)) none)))))) none
def qc93 (pc : Nat) : Option qX := cond (Nat.ble pc 95) (cond (Nat.ble pc 48) (cond (Nat.ble pc 22) (cond (Nat.ble pc 9) (cond (Nat.ble pc 4) (cond (Nat.ble pc 0) (cond (Nat.beq pc 0) (some (2, 0, 0, [], 1)) none) (cond (Nat.ble pc 1) (cond (Nat.beq pc 1) (some (22, 6, 50, [7], 4)) none) (cond (Nat.beq pc 4) (some (40, 124, 57, [], 7)) none))) (cond (Nat.ble pc 7) (cond (Nat.beq pc 7) (some (3, 0, 2, [], 8)) none) (cond (Nat.ble pc 8) (cond (Nat.beq pc 8) (some (0, 0, 0, [], 9)) none) (cond (Nat.beq pc 9) (some (3, 0, 3, [], 10)) none)))) (cond (Nat.ble pc 12) (cond (Nat.ble pc 10) (cond (Nat.beq pc 10) (some (1, 0, 3, [], 11)) none) (cond (Nat.ble pc 11) (cond (Nat.beq pc 11) (some (2, 0, 0, [], 12)) none) (cond (Nat.beq pc 12) (some (22, 6, 50, [7], 15)) none))) (cond (Nat.ble pc 18) (cond (Nat.ble pc 15) (cond (Nat.beq pc 15) (some (21, 3, 88, [6], 18)) none) (cond (Nat.beq pc 18) (some (16, 3, 94, [], 21)) none)) (cond (Nat.ble pc 21) (cond (Nat.beq pc 21) (some (2, 0, 0, [], 22)) none) (cond (Nat.beq pc 22) (some (22, 4, 36, [7], 25)) none))))) (cond (Nat.ble pc 35) (cond (Nat.ble pc 29) (cond (Nat.ble pc 25) (cond (Nat.beq pc 25) (some (1, 0, 3, [], 26)) none) (cond (Nat.ble pc 26) (cond (Nat.beq pc 26) (some (40, 212, 47, [], 29)) none) (cond (Nat.beq pc 29) (some (4, 0, 4, [], 31)) none))) (cond (Nat.ble pc 31) (cond (Nat.beq pc 31) (some (2, 0, 0, [], 32)) none) (cond (Nat.ble pc 32) (cond (Nat.beq pc 32) (some (22, 6, 50, [7], 35)) none) (cond (Nat.beq pc 35) (some (1, 0, 3, [], 36)) none)))) (cond (Nat.ble pc 41) (cond (Nat.ble pc 36) (cond (Nat.beq pc 36) (some (40, 215, 58, [], 39)) none) (cond (Nat.ble pc 39) (cond (Nat.beq pc 39) (some (3, 0, 5, [], 41)) none) (cond (Nat.beq pc 41) (some (1, 0, 5, [], 43)) none))) (cond (Nat.ble pc 44) (cond (Nat.ble pc 43) (cond (Nat.beq pc 43) (some (1, 0, 1, [], 44)) none) (cond (Nat.beq pc 44) (some (16, 2, 69, [], 47)) none)) (cond (Nat.ble pc 47) (cond (Nat.beq pc 47) (some (1, 0, 2, [], 48)) none) (cond (Nat.beq pc 48) (some (0, 1, 0, [], 49)) none)))))) (cond (Nat.ble pc 70) (cond (Nat.ble pc 59) (cond (Nat.ble pc 54) (cond (Nat.ble pc 49) (cond (Nat.beq pc 49) (some (2, 0, 4, [], 51)) none) (cond (Nat.ble pc 51) (cond (Nat.beq pc 51) (some (40, 224, 4, [], 54)) none) (cond (Nat.beq pc 54) (some (6, 0, 0, [], 55)) none))) (cond (Nat.ble pc 55) (cond (Nat.beq pc 55) (some (1, 0, 5, [], 57)) none) (cond (Nat.ble pc 57) (cond (Nat.beq pc 57) (some (2, 0, 4, [], 59)) none) (cond (Nat.beq pc 59) (some (40, 179, 5, [], 62)) none)))) (cond (Nat.ble pc 64) (cond (Nat.ble pc 62) (cond (Nat.beq pc 62) (some (8, 0, 0, [], 63)) none) (cond (Nat.ble pc 63) (cond (Nat.beq pc 63) (some (6, 0, 0, [], 64)) none) (cond (Nat.beq pc 64) (some (6, 0, 0, [], 65)) none))) (cond (Nat.ble pc 66) (cond (Nat.ble pc 65) (cond (Nat.beq pc 65) (some (3, 0, 2, [], 66)) none) (cond (Nat.beq pc 66) (some (15, 0, 88, [], 69)) none)) (cond (Nat.ble pc 69) (cond (Nat.beq pc 69) (some (1, 0, 2, [], 70)) none) (cond (Nat.beq pc 70) (some (1, 0, 5, [], 72)) none))))) (cond (Nat.ble pc 84) (cond (Nat.ble pc 75) (cond (Nat.ble pc 72) (cond (Nat.beq pc 72) (some (0, 2, 0, [], 73)) none) (cond (Nat.ble pc 73) (cond (Nat.beq pc 73) (some (2, 0, 4, [], 75)) none) (cond (Nat.beq pc 75) (some (40, 179, 5, [], 78)) none))) (cond (Nat.ble pc 79) (cond (Nat.ble pc 78) (cond (Nat.beq pc 78) (some (8, 0, 0, [], 79)) none) (cond (Nat.beq pc 79) (some (2, 0, 4, [], 81)) none)) (cond (Nat.ble pc 81) (cond (Nat.beq pc 81) (some (40, 182, 6, [], 84)) none) (cond (Nat.beq pc 84) (some (6, 0, 0, [], 85)) none)))) (cond (Nat.ble pc 87) (cond (Nat.ble pc 85) (cond (Nat.beq pc 85) (some (8, 0, 0, [], 86)) none) (cond (Nat.ble pc 86) (cond (Nat.beq pc 86) (some (6, 0, 0, [], 87)) none) (cond (Nat.beq pc 87) (some (3, 0, 2, [], 88)) none))) (cond (Nat.ble pc 91) (cond (Nat.ble pc 88) (cond (Nat.beq pc 88) (some (5, 1, 3, [], 91)) none) (cond (Nat.beq pc 91) (some (15, 0, 10, [], 94)) none)) (cond (Nat.ble pc 94) (cond (Nat.beq pc 94) (some (1, 0, 2, [], 95)) none) (cond (Nat.beq pc 95) (some (41, 0, 0, [], 96)) none))))))) none
def qc94 (pc : Nat) : Option qX := cond (Nat.ble pc 80) (cond (Nat.ble pc 38) (cond (Nat.ble pc 16) (cond (Nat.ble pc 4) (cond (Nat.ble pc 1) (cond (Nat.ble pc 0) (cond (Nat.beq pc 0) (some (0, 0, 0, [], 1)) none) (cond (Nat.beq pc 1) (some (3, 0, 2, [], 2)) none)) (cond (Nat.ble pc 2) (cond (Nat.beq pc 2) (some (0, 0, 0, [], 3)) none) (cond (Nat.ble pc 3) (cond (Nat.beq pc 3) (some (3, 0, 3, [], 4)) none) (cond (Nat.beq pc 4) (some (1, 0, 3, [], 5)) none)))) (cond (Nat.ble pc 9) (cond (Nat.ble pc 5) (cond (Nat.beq pc 5) (some (2, 0, 0, [], 6)) none) (cond (Nat.ble pc 6) (cond (Nat.beq pc 6) (some (22, 6, 50, [7], 9)) none) (cond (Nat.beq pc 9) (some (21, 3, 88, [6], 12)) none))) (cond (Nat.ble pc 12) (cond (Nat.beq pc 12) (some (16, 3, 79, [], 15)) none) (cond (Nat.ble pc 15) (cond (Nat.beq pc 15) (some (2, 0, 0, [], 16)) none) (cond (Nat.beq pc 16) (some (22, 4, 36, [7], 19)) none))))) (cond (Nat.ble pc 26) (cond (Nat.ble pc 20) (cond (Nat.ble pc 19) (cond (Nat.beq pc 19) (some (1, 0, 3, [], 20)) none) (cond (Nat.beq pc 20) (some (40, 212, 47, [], 23)) none)) (cond (Nat.ble pc 23) (cond (Nat.beq pc 23) (some (4, 0, 4, [], 25)) none) (cond (Nat.ble pc 25) (cond (Nat.beq pc 25) (some (2, 0, 0, [], 26)) none) (cond (Nat.beq pc 26) (some (1, 0, 3, [], 27)) none)))) (cond (Nat.ble pc 33) (cond (Nat.ble pc 27) (cond (Nat.beq pc 27) (some (40, 218, 85, [], 30)) none) (cond (Nat.ble pc 30) (cond (Nat.beq pc 30) (some (17, 1, 53, [], 33)) none) (cond (Nat.beq pc 33) (some (1, 0, 2, [], 34)) none))) (cond (Nat.ble pc 34) (cond (Nat.beq pc 34) (some (2, 0, 0, [], 35)) none) (cond (Nat.ble pc 35) (cond (Nat.beq pc 35) (some (22, 6, 50, [7], 38)) none) (cond (Nat.beq pc 38) (some (1, 0, 3, [], 39)) none)))))) (cond (Nat.ble pc 59) (cond (Nat.ble pc 48) (cond (Nat.ble pc 42) (cond (Nat.ble pc 39) (cond (Nat.beq pc 39) (some (40, 215, 58, [], 42)) none) (cond (Nat.beq pc 42) (some (2, 0, 4, [], 44)) none)) (cond (Nat.ble pc 44) (cond (Nat.beq pc 44) (some (40, 224, 4, [], 47)) none) (cond (Nat.ble pc 47) (cond (Nat.beq pc 47) (some (8, 0, 0, [], 48)) none) (cond (Nat.beq pc 48) (some (6, 0, 0, [], 49)) none)))) (cond (Nat.ble pc 53) (cond (Nat.ble pc 49) (cond (Nat.beq pc 49) (some (3, 0, 2, [], 50)) none) (cond (Nat.ble pc 50) (cond (Nat.beq pc 50) (some (15, 0, 73, [], 53)) none) (cond (Nat.beq pc 53) (some (2, 0, 4, [], 55)) none))) (cond (Nat.ble pc 55) (cond (Nat.beq pc 55) (some (1, 0, 1, [], 56)) none) (cond (Nat.ble pc 56) (cond (Nat.beq pc 56) (some (40, 146, 10, [], 59)) none) (cond (Nat.beq pc 59) (some (17, 0, 73, [], 62)) none))))) (cond (Nat.ble pc 68) (cond (Nat.ble pc 63) (cond (Nat.ble pc 62) (cond (Nat.beq pc 62) (some (1, 0, 2, [], 63)) none) (cond (Nat.beq pc 63) (some (2, 0, 0, [], 64)) none)) (cond (Nat.ble pc 64) (cond (Nat.beq pc 64) (some (22, 6, 50, [7], 67)) none) (cond (Nat.ble pc 67) (cond (Nat.beq pc 67) (some (1, 0, 3, [], 68)) none) (cond (Nat.beq pc 68) (some (40, 215, 58, [], 71)) none)))) (cond (Nat.ble pc 73) (cond (Nat.ble pc 71) (cond (Nat.beq pc 71) (some (6, 0, 0, [], 72)) none) (cond (Nat.ble pc 72) (cond (Nat.beq pc 72) (some (3, 0, 2, [], 73)) none) (cond (Nat.beq pc 73) (some (5, 1, 3, [], 76)) none))) (cond (Nat.ble pc 76) (cond (Nat.beq pc 76) (some (15, 0, 4, [], 79)) none) (cond (Nat.ble pc 79) (cond (Nat.beq pc 79) (some (1, 0, 2, [], 80)) none) (cond (Nat.beq pc 80) (some (41, 0, 0, [], 81)) none))))))) none
def qc95 (pc : Nat) : Option qX := cond (Nat.ble pc 48) (cond (Nat.ble pc 20) (cond (Nat.ble pc 5) (cond (Nat.ble pc 2) (cond (Nat.ble pc 0) (cond (Nat.beq pc 0) (some (0, 0, 0, [], 1)) none) (cond (Nat.ble pc 1) (cond (Nat.beq pc 1) (some (3, 0, 2, [], 2)) none) (cond (Nat.beq pc 2) (some (0, 0, 0, [], 3)) none))) (cond (Nat.ble pc 3) (cond (Nat.beq pc 3) (some (3, 0, 3, [], 4)) none) (cond (Nat.ble pc 4) (cond (Nat.beq pc 4) (some (1, 0, 3, [], 5)) none) (cond (Nat.beq pc 5) (some (2, 0, 0, [], 6)) none)))) (cond (Nat.ble pc 12) (cond (Nat.ble pc 6) (cond (Nat.beq pc 6) (some (22, 6, 50, [7], 9)) none) (cond (Nat.ble pc 9) (cond (Nat.beq pc 9) (some (21, 3, 88, [6], 12)) none) (cond (Nat.beq pc 12) (some (16, 3, 47, [], 15)) none))) (cond (Nat.ble pc 16) (cond (Nat.ble pc 15) (cond (Nat.beq pc 15) (some (2, 0, 0, [], 16)) none) (cond (Nat.beq pc 16) (some (22, 4, 36, [7], 19)) none)) (cond (Nat.ble pc 19) (cond (Nat.beq pc 19) (some (1, 0, 3, [], 20)) none) (cond (Nat.beq pc 20) (some (40, 212, 47, [], 23)) none))))) (cond (Nat.ble pc 35) (cond (Nat.ble pc 27) (cond (Nat.ble pc 23) (cond (Nat.beq pc 23) (some (1, 0, 1, [], 24)) none) (cond (Nat.ble pc 24) (cond (Nat.beq pc 24) (some (40, 146, 10, [], 27)) none) (cond (Nat.beq pc 27) (some (17, 0, 41, [], 30)) none))) (cond (Nat.ble pc 31) (cond (Nat.ble pc 30) (cond (Nat.beq pc 30) (some (1, 0, 2, [], 31)) none) (cond (Nat.beq pc 31) (some (2, 0, 0, [], 32)) none)) (cond (Nat.ble pc 32) (cond (Nat.beq pc 32) (some (22, 6, 50, [7], 35)) none) (cond (Nat.beq pc 35) (some (1, 0, 3, [], 36)) none)))) (cond (Nat.ble pc 40) (cond (Nat.ble pc 36) (cond (Nat.beq pc 36) (some (40, 215, 58, [], 39)) none) (cond (Nat.ble pc 39) (cond (Nat.beq pc 39) (some (6, 0, 0, [], 40)) none) (cond (Nat.beq pc 40) (some (3, 0, 2, [], 41)) none))) (cond (Nat.ble pc 44) (cond (Nat.ble pc 41) (cond (Nat.beq pc 41) (some (5, 1, 3, [], 44)) none) (cond (Nat.beq pc 44) (some (15, 0, 4, [], 47)) none)) (cond (Nat.ble pc 47) (cond (Nat.beq pc 47) (some (1, 0, 2, [], 48)) none) (cond (Nat.beq pc 48) (some (41, 0, 0, [], 49)) none)))))) none
def qc96 (pc : Nat) : Option qX := cond (Nat.ble pc 53) (cond (Nat.ble pc 24) (cond (Nat.ble pc 6) (cond (Nat.ble pc 2) (cond (Nat.ble pc 0) (cond (Nat.beq pc 0) (some (0, 0, 0, [], 1)) none) (cond (Nat.ble pc 1) (cond (Nat.beq pc 1) (some (3, 0, 2, [], 2)) none) (cond (Nat.beq pc 2) (some (0, 0, 0, [], 3)) none))) (cond (Nat.ble pc 4) (cond (Nat.ble pc 3) (cond (Nat.beq pc 3) (some (3, 0, 3, [], 4)) none) (cond (Nat.beq pc 4) (some (1, 0, 3, [], 5)) none)) (cond (Nat.ble pc 5) (cond (Nat.beq pc 5) (some (2, 0, 0, [], 6)) none) (cond (Nat.beq pc 6) (some (22, 6, 50, [7], 9)) none)))) (cond (Nat.ble pc 16) (cond (Nat.ble pc 12) (cond (Nat.ble pc 9) (cond (Nat.beq pc 9) (some (40, 95, 56, [], 12)) none) (cond (Nat.beq pc 12) (some (16, 3, 52, [], 15)) none)) (cond (Nat.ble pc 15) (cond (Nat.beq pc 15) (some (2, 0, 0, [], 16)) none) (cond (Nat.beq pc 16) (some (1, 0, 3, [], 17)) none))) (cond (Nat.ble pc 20) (cond (Nat.ble pc 17) (cond (Nat.beq pc 17) (some (40, 130, 86, [], 20)) none) (cond (Nat.beq pc 20) (some (1, 0, 1, [], 21)) none)) (cond (Nat.ble pc 21) (cond (Nat.beq pc 21) (some (40, 134, 11, [], 24)) none) (cond (Nat.beq pc 24) (some (3, 0, 4, [], 26)) none))))) (cond (Nat.ble pc 38) (cond (Nat.ble pc 30) (cond (Nat.ble pc 26) (cond (Nat.beq pc 26) (some (1, 0, 4, [], 28)) none) (cond (Nat.ble pc 28) (cond (Nat.beq pc 28) (some (0, (-9), 0, [], 30)) none) (cond (Nat.beq pc 30) (some (16, 0, 46, [], 33)) none))) (cond (Nat.ble pc 34) (cond (Nat.ble pc 33) (cond (Nat.beq pc 33) (some (1, 0, 2, [], 34)) none) (cond (Nat.beq pc 34) (some (2, 0, 0, [], 35)) none)) (cond (Nat.ble pc 35) (cond (Nat.beq pc 35) (some (22, 6, 50, [7], 38)) none) (cond (Nat.beq pc 38) (some (1, 0, 3, [], 39)) none)))) (cond (Nat.ble pc 45) (cond (Nat.ble pc 41) (cond (Nat.ble pc 39) (cond (Nat.beq pc 39) (some (1, 0, 4, [], 41)) none) (cond (Nat.beq pc 41) (some (40, 138, 60, [], 44)) none)) (cond (Nat.ble pc 44) (cond (Nat.beq pc 44) (some (6, 0, 0, [], 45)) none) (cond (Nat.beq pc 45) (some (3, 0, 2, [], 46)) none))) (cond (Nat.ble pc 49) (cond (Nat.ble pc 46) (cond (Nat.beq pc 46) (some (5, 1, 3, [], 49)) none) (cond (Nat.beq pc 49) (some (15, 0, 4, [], 52)) none)) (cond (Nat.ble pc 52) (cond (Nat.beq pc 52) (some (1, 0, 2, [], 53)) none) (cond (Nat.beq pc 53) (some (41, 0, 0, [], 54)) none)))))) none
def qc97 (pc : Nat) : Option qX := cond (Nat.ble pc 31) (cond (Nat.ble pc 12) (cond (Nat.ble pc 3) (cond (Nat.ble pc 1) (cond (Nat.ble pc 0) (cond (Nat.beq pc 0) (some (0, 0, 0, [], 1)) none) (cond (Nat.beq pc 1) (some (3, 0, 3, [], 2)) none)) (cond (Nat.ble pc 2) (cond (Nat.beq pc 2) (some (0, 0, 0, [], 3)) none) (cond (Nat.beq pc 3) (some (3, 0, 4, [], 5)) none))) (cond (Nat.ble pc 7) (cond (Nat.ble pc 5) (cond (Nat.beq pc 5) (some (1, 0, 4, [], 7)) none) (cond (Nat.beq pc 7) (some (1, 0, 2, [], 8)) none)) (cond (Nat.ble pc 8) (cond (Nat.beq pc 8) (some (16, 3, 30, [], 11)) none) (cond (Nat.ble pc 11) (cond (Nat.beq pc 11) (some (1, 0, 3, [], 12)) none) (cond (Nat.beq pc 12) (some (2, 0, 0, [], 13)) none))))) (cond (Nat.ble pc 22) (cond (Nat.ble pc 16) (cond (Nat.ble pc 13) (cond (Nat.beq pc 13) (some (22, 6, 50, [7], 16)) none) (cond (Nat.beq pc 16) (some (1, 0, 1, [], 17)) none)) (cond (Nat.ble pc 17) (cond (Nat.beq pc 17) (some (1, 0, 4, [], 19)) none) (cond (Nat.ble pc 19) (cond (Nat.beq pc 19) (some (40, 138, 60, [], 22)) none) (cond (Nat.beq pc 22) (some (6, 0, 0, [], 23)) none)))) (cond (Nat.ble pc 24) (cond (Nat.ble pc 23) (cond (Nat.beq pc 23) (some (3, 0, 3, [], 24)) none) (cond (Nat.beq pc 24) (some (5, 1, 4, [], 27)) none)) (cond (Nat.ble pc 27) (cond (Nat.beq pc 27) (some (15, 0, 5, [], 30)) none) (cond (Nat.ble pc 30) (cond (Nat.beq pc 30) (some (1, 0, 3, [], 31)) none) (cond (Nat.beq pc 31) (some (41, 0, 0, [], 32)) none)))))) none
def qc98 (pc : Nat) : Option qX := cond (Nat.ble pc 141) (cond (Nat.ble pc 65) (cond (Nat.ble pc 29) (cond (Nat.ble pc 14) (cond (Nat.ble pc 5) (cond (Nat.ble pc 1) (cond (Nat.ble pc 0) (cond (Nat.beq pc 0) (some (2, 0, 0, [], 1)) none) (cond (Nat.beq pc 1) (some (22, 1, 18, [7], 4)) none)) (cond (Nat.ble pc 4) (cond (Nat.beq pc 4) (some (0, 0, 0, [], 5)) none) (cond (Nat.beq pc 5) (some (40, 68, 44, [], 8)) none))) (cond (Nat.ble pc 9) (cond (Nat.ble pc 8) (cond (Nat.beq pc 8) (some (2, 0, 0, [], 9)) none) (cond (Nat.beq pc 9) (some (22, 1, 18, [7], 12)) none)) (cond (Nat.ble pc 12) (cond (Nat.beq pc 12) (some (0, 123, 0, [], 14)) none) (cond (Nat.beq pc 14) (some (40, 65, 43, [], 17)) none)))) (cond (Nat.ble pc 21) (cond (Nat.ble pc 19) (cond (Nat.ble pc 17) (cond (Nat.beq pc 17) (some (0, (-9), 0, [], 19)) none) (cond (Nat.beq pc 19) (some (3, 0, 3, [], 20)) none)) (cond (Nat.ble pc 20) (cond (Nat.beq pc 20) (some (0, 0, 0, [], 21)) none) (cond (Nat.beq pc 21) (some (3, 0, 4, [], 23)) none))) (cond (Nat.ble pc 24) (cond (Nat.ble pc 23) (cond (Nat.beq pc 23) (some (0, 0, 0, [], 24)) none) (cond (Nat.beq pc 24) (some (3, 0, 5, [], 26)) none)) (cond (Nat.ble pc 26) (cond (Nat.beq pc 26) (some (1, 0, 5, [], 28)) none) (cond (Nat.ble pc 28) (cond (Nat.beq pc 28) (some (2, 0, 1, [], 29)) none) (cond (Nat.beq pc 29) (some (40, 224, 4, [], 32)) none)))))) (cond (Nat.ble pc 46) (cond (Nat.ble pc 38) (cond (Nat.ble pc 35) (cond (Nat.ble pc 32) (cond (Nat.beq pc 32) (some (16, 3, 117, [], 35)) none) (cond (Nat.beq pc 35) (some (2, 0, 1, [], 36)) none)) (cond (Nat.ble pc 36) (cond (Nat.beq pc 36) (some (1, 0, 5, [], 38)) none) (cond (Nat.beq pc 38) (some (40, 238, 9, [], 41)) none))) (cond (Nat.ble pc 43) (cond (Nat.ble pc 41) (cond (Nat.beq pc 41) (some (3, 0, 6, [], 43)) none) (cond (Nat.beq pc 43) (some (2, 0, 0, [], 44)) none)) (cond (Nat.ble pc 44) (cond (Nat.beq pc 44) (some (1, 0, 3, [], 45)) none) (cond (Nat.ble pc 45) (cond (Nat.beq pc 45) (some (2, 0, 0, [], 46)) none) (cond (Nat.beq pc 46) (some (22, 3, 32, [7], 49)) none))))) (cond (Nat.ble pc 57) (cond (Nat.ble pc 51) (cond (Nat.ble pc 49) (cond (Nat.beq pc 49) (some (1, 0, 6, [], 51)) none) (cond (Nat.beq pc 51) (some (40, 197, 23, [], 54)) none)) (cond (Nat.ble pc 54) (cond (Nat.beq pc 54) (some (40, 249, 99, [], 57)) none) (cond (Nat.beq pc 57) (some (3, 0, 3, [], 58)) none))) (cond (Nat.ble pc 59) (cond (Nat.ble pc 58) (cond (Nat.beq pc 58) (some (2, 0, 0, [], 59)) none) (cond (Nat.beq pc 59) (some (1, 0, 6, [], 61)) none)) (cond (Nat.ble pc 61) (cond (Nat.beq pc 61) (some (40, 252, 100, [], 64)) none) (cond (Nat.ble pc 64) (cond (Nat.beq pc 64) (some (2, 0, 1, [], 65)) none) (cond (Nat.beq pc 65) (some (1, 0, 5, [], 67)) none))))))) (cond (Nat.ble pc 100) (cond (Nat.ble pc 84) (cond (Nat.ble pc 74) (cond (Nat.ble pc 70) (cond (Nat.ble pc 67) (cond (Nat.beq pc 67) (some (40, 246, 8, [], 70)) none) (cond (Nat.beq pc 70) (some (17, 0, 88, [], 73)) none)) (cond (Nat.ble pc 73) (cond (Nat.beq pc 73) (some (2, 0, 0, [], 74)) none) (cond (Nat.beq pc 74) (some (22, 1, 18, [7], 77)) none))) (cond (Nat.ble pc 79) (cond (Nat.ble pc 77) (cond (Nat.beq pc 77) (some (0, 123, 0, [], 79)) none) (cond (Nat.beq pc 79) (some (40, 65, 43, [], 82)) none)) (cond (Nat.ble pc 82) (cond (Nat.beq pc 82) (some (1, 0, 6, [], 84)) none) (cond (Nat.beq pc 84) (some (3, 0, 3, [], 85)) none)))) (cond (Nat.ble pc 91) (cond (Nat.ble pc 88) (cond (Nat.ble pc 85) (cond (Nat.beq pc 85) (some (15, 0, 111, [], 88)) none) (cond (Nat.beq pc 88) (some (1, 0, 2, [], 89)) none)) (cond (Nat.ble pc 89) (cond (Nat.beq pc 89) (some (0, (-9), 0, [], 91)) none) (cond (Nat.beq pc 91) (some (16, 0, 108, [], 94)) none))) (cond (Nat.ble pc 95) (cond (Nat.ble pc 94) (cond (Nat.beq pc 94) (some (2, 0, 0, [], 95)) none) (cond (Nat.beq pc 95) (some (2, 0, 0, [], 96)) none)) (cond (Nat.ble pc 96) (cond (Nat.beq pc 96) (some (22, 6, 50, [7], 99)) none) (cond (Nat.ble pc 99) (cond (Nat.beq pc 99) (some (1, 0, 2, [], 100)) none) (cond (Nat.beq pc 100) (some (1, 0, 4, [], 102)) none)))))) (cond (Nat.ble pc 121) (cond (Nat.ble pc 111) (cond (Nat.ble pc 105) (cond (Nat.ble pc 102) (cond (Nat.beq pc 102) (some (40, 138, 60, [], 105)) none) (cond (Nat.beq pc 105) (some (40, 255, 101, [], 108)) none)) (cond (Nat.ble pc 108) (cond (Nat.beq pc 108) (some (5, 1, 4, [], 111)) none) (cond (Nat.beq pc 111) (some (5, 1, 5, [], 114)) none))) (cond (Nat.ble pc 117) (cond (Nat.ble pc 114) (cond (Nat.beq pc 114) (some (15, 0, 26, [], 117)) none) (cond (Nat.beq pc 117) (some (2, 0, 0, [], 118)) none)) (cond (Nat.ble pc 118) (cond (Nat.beq pc 118) (some (1, 0, 3, [], 119)) none) (cond (Nat.ble pc 119) (cond (Nat.beq pc 119) (some (0, (-9), 0, [], 121)) none) (cond (Nat.beq pc 121) (some (40, 249, 99, [], 124)) none))))) (cond (Nat.ble pc 129) (cond (Nat.ble pc 125) (cond (Nat.ble pc 124) (cond (Nat.beq pc 124) (some (14, 0, 0, [], 125)) none) (cond (Nat.beq pc 125) (some (2, 0, 0, [], 126)) none)) (cond (Nat.ble pc 126) (cond (Nat.beq pc 126) (some (22, 1, 18, [7], 129)) none) (cond (Nat.beq pc 129) (some (0, 125, 0, [], 131)) none))) (cond (Nat.ble pc 134) (cond (Nat.ble pc 131) (cond (Nat.beq pc 131) (some (40, 65, 43, [], 134)) none) (cond (Nat.beq pc 134) (some (2, 0, 0, [], 135)) none)) (cond (Nat.ble pc 135) (cond (Nat.beq pc 135) (some (22, 1, 18, [7], 138)) none) (cond (Nat.ble pc 138) (cond (Nat.beq pc 138) (some (40, 61, 40, [], 141)) none) (cond (Nat.beq pc 141) (some (41, 0, 0, [], 142)) none)))))))) none
def qc99 (pc : Nat) : Option qX := cond (Nat.ble pc 41) (cond (Nat.ble pc 16) (cond (Nat.ble pc 5) (cond (Nat.ble pc 1) (cond (Nat.ble pc 0) (cond (Nat.beq pc 0) (some (1, 0, 1, [], 1)) none) (cond (Nat.beq pc 1) (some (3, 0, 3, [], 2)) none)) (cond (Nat.ble pc 2) (cond (Nat.beq pc 2) (some (0, 1, 0, [], 3)) none) (cond (Nat.ble pc 3) (cond (Nat.beq pc 3) (some (3, 0, 4, [], 5)) none) (cond (Nat.beq pc 5) (some (1, 0, 4, [], 7)) none)))) (cond (Nat.ble pc 11) (cond (Nat.ble pc 7) (cond (Nat.beq pc 7) (some (0, 4, 0, [], 8)) none) (cond (Nat.ble pc 8) (cond (Nat.beq pc 8) (some (16, 3, 40, [], 11)) none) (cond (Nat.beq pc 11) (some (1, 0, 3, [], 12)) none))) (cond (Nat.ble pc 12) (cond (Nat.beq pc 12) (some (1, 0, 2, [], 13)) none) (cond (Nat.ble pc 13) (cond (Nat.beq pc 13) (some (16, 0, 40, [], 16)) none) (cond (Nat.beq pc 16) (some (2, 0, 0, [], 17)) none))))) (cond (Nat.ble pc 29) (cond (Nat.ble pc 22) (cond (Nat.ble pc 17) (cond (Nat.beq pc 17) (some (22, 1, 18, [7], 20)) none) (cond (Nat.ble pc 20) (cond (Nat.beq pc 20) (some (0, 125, 0, [], 22)) none) (cond (Nat.beq pc 22) (some (40, 65, 43, [], 25)) none))) (cond (Nat.ble pc 25) (cond (Nat.beq pc 25) (some (2, 0, 0, [], 26)) none) (cond (Nat.ble pc 26) (cond (Nat.beq pc 26) (some (22, 3, 32, [7], 29)) none) (cond (Nat.beq pc 29) (some (1, 0, 3, [], 30)) none)))) (cond (Nat.ble pc 34) (cond (Nat.ble pc 30) (cond (Nat.beq pc 30) (some (40, 197, 23, [], 33)) none) (cond (Nat.ble pc 33) (cond (Nat.beq pc 33) (some (3, 0, 3, [], 34)) none) (cond (Nat.beq pc 34) (some (5, 1, 4, [], 37)) none))) (cond (Nat.ble pc 37) (cond (Nat.beq pc 37) (some (15, 0, 5, [], 40)) none) (cond (Nat.ble pc 40) (cond (Nat.beq pc 40) (some (1, 0, 3, [], 41)) none) (cond (Nat.beq pc 41) (some (41, 0, 0, [], 42)) none)))))) none
def qc100 (pc : Nat) : Option qX := cond (Nat.ble pc 54) (cond (Nat.ble pc 25) (cond (Nat.ble pc 11) (cond (Nat.ble pc 4) (cond (Nat.ble pc 0) (cond (Nat.beq pc 0) (some (2, 0, 0, [], 1)) none) (cond (Nat.ble pc 1) (cond (Nat.beq pc 1) (some (22, 1, 18, [7], 4)) none) (cond (Nat.beq pc 4) (some (2, 0, 0, [], 5)) none))) (cond (Nat.ble pc 5) (cond (Nat.beq pc 5) (some (22, 1, 18, [7], 8)) none) (cond (Nat.ble pc 8) (cond (Nat.beq pc 8) (some (40, 61, 40, [], 11)) none) (cond (Nat.beq pc 11) (some (0, 1, 0, [], 12)) none)))) (cond (Nat.ble pc 16) (cond (Nat.ble pc 12) (cond (Nat.beq pc 12) (some (7, 0, 0, [], 13)) none) (cond (Nat.ble pc 13) (cond (Nat.beq pc 13) (some (40, 191, 41, [], 16)) none) (cond (Nat.beq pc 16) (some (0, 123, 0, [], 18)) none))) (cond (Nat.ble pc 21) (cond (Nat.ble pc 18) (cond (Nat.beq pc 18) (some (16, 0, 30, [], 21)) none) (cond (Nat.beq pc 21) (some (2, 0, 0, [], 22)) none)) (cond (Nat.ble pc 22) (cond (Nat.beq pc 22) (some (22, 1, 18, [7], 25)) none) (cond (Nat.beq pc 25) (some (0, 44, 0, [], 27)) none))))) (cond (Nat.ble pc 38) (cond (Nat.ble pc 31) (cond (Nat.ble pc 27) (cond (Nat.beq pc 27) (some (40, 65, 43, [], 30)) none) (cond (Nat.ble pc 30) (cond (Nat.beq pc 30) (some (2, 0, 0, [], 31)) none) (cond (Nat.beq pc 31) (some (22, 1, 18, [7], 34)) none))) (cond (Nat.ble pc 34) (cond (Nat.beq pc 34) (some (2, 0, 0, [], 35)) none) (cond (Nat.ble pc 35) (cond (Nat.beq pc 35) (some (22, 3, 32, [7], 38)) none) (cond (Nat.beq pc 38) (some (1, 0, 1, [], 39)) none)))) (cond (Nat.ble pc 45) (cond (Nat.ble pc 39) (cond (Nat.beq pc 39) (some (40, 194, 22, [], 42)) none) (cond (Nat.ble pc 42) (cond (Nat.beq pc 42) (some (40, 65, 43, [], 45)) none) (cond (Nat.beq pc 45) (some (2, 0, 0, [], 46)) none))) (cond (Nat.ble pc 49) (cond (Nat.ble pc 46) (cond (Nat.beq pc 46) (some (22, 1, 18, [7], 49)) none) (cond (Nat.beq pc 49) (some (0, 58, 0, [], 51)) none)) (cond (Nat.ble pc 51) (cond (Nat.beq pc 51) (some (40, 65, 43, [], 54)) none) (cond (Nat.beq pc 54) (some (44, 0, 0, [], 55)) none)))))) none
def qc101 (pc : Nat) : Option qX := cond (Nat.ble pc 57) (cond (Nat.ble pc 27) (cond (Nat.ble pc 13) (cond (Nat.ble pc 6) (cond (Nat.ble pc 1) (cond (Nat.ble pc 0) (cond (Nat.beq pc 0) (some (1, 0, 1, [], 1)) none) (cond (Nat.beq pc 1) (some (0, 100, 0, [], 3)) none)) (cond (Nat.ble pc 3) (cond (Nat.beq pc 3) (some (16, 2, 20, [], 6)) none) (cond (Nat.beq pc 6) (some (2, 0, 0, [], 7)) none))) (cond (Nat.ble pc 10) (cond (Nat.ble pc 7) (cond (Nat.beq pc 7) (some (22, 1, 18, [7], 10)) none) (cond (Nat.beq pc 10) (some (0, 48, 0, [], 12)) none)) (cond (Nat.ble pc 12) (cond (Nat.beq pc 12) (some (1, 0, 1, [], 13)) none) (cond (Nat.beq pc 13) (some (0, 100, 0, [], 15)) none)))) (cond (Nat.ble pc 20) (cond (Nat.ble pc 16) (cond (Nat.ble pc 15) (cond (Nat.beq pc 15) (some (9, 0, 0, [], 16)) none) (cond (Nat.beq pc 16) (some (6, 0, 0, [], 17)) none)) (cond (Nat.ble pc 17) (cond (Nat.beq pc 17) (some (40, 65, 43, [], 20)) none) (cond (Nat.beq pc 20) (some (1, 0, 1, [], 21)) none))) (cond (Nat.ble pc 23) (cond (Nat.ble pc 21) (cond (Nat.beq pc 21) (some (0, 10, 0, [], 23)) none) (cond (Nat.beq pc 23) (some (16, 2, 43, [], 26)) none)) (cond (Nat.ble pc 26) (cond (Nat.beq pc 26) (some (2, 0, 0, [], 27)) none) (cond (Nat.beq pc 27) (some (22, 1, 18, [7], 30)) none))))) (cond (Nat.ble pc 40) (cond (Nat.ble pc 35) (cond (Nat.ble pc 32) (cond (Nat.ble pc 30) (cond (Nat.beq pc 30) (some (0, 48, 0, [], 32)) none) (cond (Nat.beq pc 32) (some (1, 0, 1, [], 33)) none)) (cond (Nat.ble pc 33) (cond (Nat.beq pc 33) (some (0, 10, 0, [], 35)) none) (cond (Nat.beq pc 35) (some (9, 0, 0, [], 36)) none))) (cond (Nat.ble pc 38) (cond (Nat.ble pc 36) (cond (Nat.beq pc 36) (some (0, 10, 0, [], 38)) none) (cond (Nat.beq pc 38) (some (10, 0, 0, [], 39)) none)) (cond (Nat.ble pc 39) (cond (Nat.beq pc 39) (some (6, 0, 0, [], 40)) none) (cond (Nat.beq pc 40) (some (40, 65, 43, [], 43)) none)))) (cond (Nat.ble pc 49) (cond (Nat.ble pc 44) (cond (Nat.ble pc 43) (cond (Nat.beq pc 43) (some (2, 0, 0, [], 44)) none) (cond (Nat.beq pc 44) (some (22, 1, 18, [7], 47)) none)) (cond (Nat.ble pc 47) (cond (Nat.beq pc 47) (some (0, 48, 0, [], 49)) none) (cond (Nat.beq pc 49) (some (1, 0, 1, [], 50)) none))) (cond (Nat.ble pc 52) (cond (Nat.ble pc 50) (cond (Nat.beq pc 50) (some (0, 10, 0, [], 52)) none) (cond (Nat.beq pc 52) (some (10, 0, 0, [], 53)) none)) (cond (Nat.ble pc 53) (cond (Nat.beq pc 53) (some (6, 0, 0, [], 54)) none) (cond (Nat.ble pc 54) (cond (Nat.beq pc 54) (some (40, 65, 43, [], 57)) none) (cond (Nat.beq pc 57) (some (44, 0, 0, [], 58)) none))))))) none
def qc102 (pc : Nat) : Option qX := cond (Nat.ble pc 6) (cond (Nat.ble pc 3) (cond (Nat.ble pc 0) (cond (Nat.beq pc 0) (some (1, 0, 0, [], 1)) none) (cond (Nat.ble pc 1) (cond (Nat.beq pc 1) (some (0, 2147483647, 8, [], 3)) none) (cond (Nat.beq pc 3) (some (11, 0, 0, [], 4)) none))) (cond (Nat.ble pc 4) (cond (Nat.beq pc 4) (some (1, 0, 1, [], 5)) none) (cond (Nat.ble pc 5) (cond (Nat.beq pc 5) (some (10, 0, 0, [], 6)) none) (cond (Nat.beq pc 6) (some (41, 0, 0, [], 7)) none)))) none
def qc103 (pc : Nat) : Option qX := cond (Nat.ble pc 215) (cond (Nat.ble pc 109) (cond (Nat.ble pc 51) (cond (Nat.ble pc 23) (cond (Nat.ble pc 9) (cond (Nat.ble pc 4) (cond (Nat.ble pc 0) (cond (Nat.beq pc 0) (some (39, 17, 9, [], 3)) none) (cond (Nat.ble pc 3) (cond (Nat.beq pc 3) (some (37, 0, 1, [], 4)) none) (cond (Nat.beq pc 4) (some (0, 0, 0, [], 5)) none))) (cond (Nat.ble pc 6) (cond (Nat.ble pc 5) (cond (Nat.beq pc 5) (some (3, 0, 3, [], 6)) none) (cond (Nat.beq pc 6) (some (1, 0, 3, [], 7)) none)) (cond (Nat.ble pc 7) (cond (Nat.beq pc 7) (some (0, 8, 0, [], 9)) none) (cond (Nat.beq pc 9) (some (16, 3, 31, [], 12)) none)))) (cond (Nat.ble pc 17) (cond (Nat.ble pc 15) (cond (Nat.ble pc 12) (cond (Nat.beq pc 12) (some (39, 31, 11, [], 15)) none) (cond (Nat.beq pc 15) (some (36, 0, 1, [], 16)) none)) (cond (Nat.ble pc 16) (cond (Nat.beq pc 16) (some (38, 1, 0, [], 17)) none) (cond (Nat.beq pc 17) (some (2, 0, 0, [], 18)) none))) (cond (Nat.ble pc 19) (cond (Nat.ble pc 18) (cond (Nat.beq pc 18) (some (1, 0, 3, [], 19)) none) (cond (Nat.beq pc 19) (some (40, 13, 71, [], 22)) none)) (cond (Nat.ble pc 22) (cond (Nat.beq pc 22) (some (35, 0, 0, [], 23)) none) (cond (Nat.beq pc 23) (some (38, 0, 0, [], 24)) none))))) (cond (Nat.ble pc 35) (cond (Nat.ble pc 31) (cond (Nat.ble pc 25) (cond (Nat.ble pc 24) (cond (Nat.beq pc 24) (some (37, 0, 1, [], 25)) none) (cond (Nat.beq pc 25) (some (5, 1, 3, [], 28)) none)) (cond (Nat.ble pc 28) (cond (Nat.beq pc 28) (some (15, 0, 6, [], 31)) none) (cond (Nat.beq pc 31) (some (0, 0, 0, [], 32)) none))) (cond (Nat.ble pc 33) (cond (Nat.ble pc 32) (cond (Nat.beq pc 32) (some (3, 0, 3, [], 33)) none) (cond (Nat.beq pc 33) (some (1, 0, 3, [], 34)) none)) (cond (Nat.ble pc 34) (cond (Nat.beq pc 34) (some (2, 0, 0, [], 35)) none) (cond (Nat.beq pc 35) (some (0, 1, 0, [], 36)) none)))) (cond (Nat.ble pc 43) (cond (Nat.ble pc 39) (cond (Nat.ble pc 36) (cond (Nat.beq pc 36) (some (40, 13, 71, [], 39)) none) (cond (Nat.beq pc 39) (some (16, 3, 112, [], 42)) none)) (cond (Nat.ble pc 42) (cond (Nat.beq pc 42) (some (0, 0, 0, [], 43)) none) (cond (Nat.beq pc 43) (some (3, 0, 4, [], 45)) none))) (cond (Nat.ble pc 47) (cond (Nat.ble pc 45) (cond (Nat.beq pc 45) (some (1, 0, 4, [], 47)) none) (cond (Nat.beq pc 47) (some (0, 5, 0, [], 48)) none)) (cond (Nat.ble pc 48) (cond (Nat.beq pc 48) (some (16, 3, 72, [], 51)) none) (cond (Nat.beq pc 51) (some (39, 31, 11, [], 54)) none)))))) (cond (Nat.ble pc 78) (cond (Nat.ble pc 64) (cond (Nat.ble pc 57) (cond (Nat.ble pc 55) (cond (Nat.ble pc 54) (cond (Nat.beq pc 54) (some (36, 0, 1, [], 55)) none) (cond (Nat.beq pc 55) (some (38, 1, 0, [], 56)) none)) (cond (Nat.ble pc 56) (cond (Nat.beq pc 56) (some (2, 0, 0, [], 57)) none) (cond (Nat.beq pc 57) (some (1, 0, 3, [], 58)) none))) (cond (Nat.ble pc 60) (cond (Nat.ble pc 58) (cond (Nat.beq pc 58) (some (1, 0, 4, [], 60)) none) (cond (Nat.beq pc 60) (some (40, 19, 72, [], 63)) none)) (cond (Nat.ble pc 63) (cond (Nat.beq pc 63) (some (35, 0, 0, [], 64)) none) (cond (Nat.beq pc 64) (some (38, 0, 0, [], 65)) none)))) (cond (Nat.ble pc 72) (cond (Nat.ble pc 66) (cond (Nat.ble pc 65) (cond (Nat.beq pc 65) (some (37, 0, 1, [], 66)) none) (cond (Nat.beq pc 66) (some (5, 1, 4, [], 69)) none)) (cond (Nat.ble pc 69) (cond (Nat.beq pc 69) (some (15, 0, 45, [], 72)) none) (cond (Nat.beq pc 72) (some (0, 0, 0, [], 73)) none))) (cond (Nat.ble pc 75) (cond (Nat.ble pc 73) (cond (Nat.beq pc 73) (some (3, 0, 4, [], 75)) none) (cond (Nat.beq pc 75) (some (1, 0, 4, [], 77)) none)) (cond (Nat.ble pc 77) (cond (Nat.beq pc 77) (some (2, 0, 0, [], 78)) none) (cond (Nat.beq pc 78) (some (0, 2, 0, [], 79)) none))))) (cond (Nat.ble pc 92) (cond (Nat.ble pc 88) (cond (Nat.ble pc 82) (cond (Nat.ble pc 79) (cond (Nat.beq pc 79) (some (40, 13, 71, [], 82)) none) (cond (Nat.beq pc 82) (some (16, 3, 106, [], 85)) none)) (cond (Nat.ble pc 85) (cond (Nat.beq pc 85) (some (39, 31, 11, [], 88)) none) (cond (Nat.beq pc 88) (some (36, 0, 1, [], 89)) none))) (cond (Nat.ble pc 90) (cond (Nat.ble pc 89) (cond (Nat.beq pc 89) (some (38, 1, 0, [], 90)) none) (cond (Nat.beq pc 90) (some (2, 0, 0, [], 91)) none)) (cond (Nat.ble pc 91) (cond (Nat.beq pc 91) (some (1, 0, 3, [], 92)) none) (cond (Nat.beq pc 92) (some (1, 0, 4, [], 94)) none)))) (cond (Nat.ble pc 99) (cond (Nat.ble pc 97) (cond (Nat.ble pc 94) (cond (Nat.beq pc 94) (some (40, 23, 74, [], 97)) none) (cond (Nat.beq pc 97) (some (35, 0, 0, [], 98)) none)) (cond (Nat.ble pc 98) (cond (Nat.beq pc 98) (some (38, 0, 0, [], 99)) none) (cond (Nat.beq pc 99) (some (37, 0, 1, [], 100)) none))) (cond (Nat.ble pc 103) (cond (Nat.ble pc 100) (cond (Nat.beq pc 100) (some (5, 1, 4, [], 103)) none) (cond (Nat.beq pc 103) (some (15, 0, 75, [], 106)) none)) (cond (Nat.ble pc 106) (cond (Nat.beq pc 106) (some (5, 1, 3, [], 109)) none) (cond (Nat.beq pc 109) (some (15, 0, 33, [], 112)) none))))))) (cond (Nat.ble pc 158) (cond (Nat.ble pc 134) (cond (Nat.ble pc 120) (cond (Nat.ble pc 114) (cond (Nat.ble pc 112) (cond (Nat.beq pc 112) (some (0, 0, 0, [], 113)) none) (cond (Nat.ble pc 113) (cond (Nat.beq pc 113) (some (3, 0, 3, [], 114)) none) (cond (Nat.beq pc 114) (some (1, 0, 3, [], 115)) none))) (cond (Nat.ble pc 116) (cond (Nat.ble pc 115) (cond (Nat.beq pc 115) (some (2, 0, 0, [], 116)) none) (cond (Nat.beq pc 116) (some (0, 2, 0, [], 117)) none)) (cond (Nat.ble pc 117) (cond (Nat.beq pc 117) (some (40, 13, 71, [], 120)) none) (cond (Nat.beq pc 120) (some (16, 3, 155, [], 123)) none)))) (cond (Nat.ble pc 130) (cond (Nat.ble pc 126) (cond (Nat.ble pc 123) (cond (Nat.beq pc 123) (some (39, 31, 11, [], 126)) none) (cond (Nat.beq pc 126) (some (39, 31, 11, [], 129)) none)) (cond (Nat.ble pc 129) (cond (Nat.beq pc 129) (some (36, 0, 1, [], 130)) none) (cond (Nat.beq pc 130) (some (38, 1, 0, [], 131)) none))) (cond (Nat.ble pc 132) (cond (Nat.ble pc 131) (cond (Nat.beq pc 131) (some (2, 0, 0, [], 132)) none) (cond (Nat.beq pc 132) (some (1, 0, 3, [], 133)) none)) (cond (Nat.ble pc 133) (cond (Nat.beq pc 133) (some (0, 0, 0, [], 134)) none) (cond (Nat.beq pc 134) (some (40, 26, 75, [], 137)) none))))) (cond (Nat.ble pc 146) (cond (Nat.ble pc 140) (cond (Nat.ble pc 138) (cond (Nat.ble pc 137) (cond (Nat.beq pc 137) (some (35, 0, 0, [], 138)) none) (cond (Nat.beq pc 138) (some (38, 0, 0, [], 139)) none)) (cond (Nat.ble pc 139) (cond (Nat.beq pc 139) (some (38, 1, 0, [], 140)) none) (cond (Nat.beq pc 140) (some (2, 0, 0, [], 141)) none))) (cond (Nat.ble pc 142) (cond (Nat.ble pc 141) (cond (Nat.beq pc 141) (some (1, 0, 3, [], 142)) none) (cond (Nat.beq pc 142) (some (0, 1, 0, [], 143)) none)) (cond (Nat.ble pc 143) (cond (Nat.beq pc 143) (some (40, 26, 75, [], 146)) none) (cond (Nat.beq pc 146) (some (35, 0, 0, [], 147)) none)))) (cond (Nat.ble pc 152) (cond (Nat.ble pc 148) (cond (Nat.ble pc 147) (cond (Nat.beq pc 147) (some (38, 0, 0, [], 148)) none) (cond (Nat.beq pc 148) (some (37, 0, 1, [], 149)) none)) (cond (Nat.ble pc 149) (cond (Nat.beq pc 149) (some (5, 1, 3, [], 152)) none) (cond (Nat.beq pc 152) (some (15, 0, 114, [], 155)) none))) (cond (Nat.ble pc 156) (cond (Nat.ble pc 155) (cond (Nat.beq pc 155) (some (0, 0, 0, [], 156)) none) (cond (Nat.beq pc 156) (some (3, 0, 3, [], 157)) none)) (cond (Nat.ble pc 157) (cond (Nat.beq pc 157) (some (1, 0, 3, [], 158)) none) (cond (Nat.beq pc 158) (some (2, 0, 0, [], 159)) none)))))) (cond (Nat.ble pc 184) (cond (Nat.ble pc 172) (cond (Nat.ble pc 166) (cond (Nat.ble pc 160) (cond (Nat.ble pc 159) (cond (Nat.beq pc 159) (some (0, 3, 0, [], 160)) none) (cond (Nat.beq pc 160) (some (40, 13, 71, [], 163)) none)) (cond (Nat.ble pc 163) (cond (Nat.beq pc 163) (some (16, 3, 214, [], 166)) none) (cond (Nat.beq pc 166) (some (0, 0, 0, [], 167)) none))) (cond (Nat.ble pc 169) (cond (Nat.ble pc 167) (cond (Nat.beq pc 167) (some (3, 0, 4, [], 169)) none) (cond (Nat.beq pc 169) (some (1, 0, 4, [], 171)) none)) (cond (Nat.ble pc 171) (cond (Nat.beq pc 171) (some (2, 0, 0, [], 172)) none) (cond (Nat.beq pc 172) (some (1, 0, 3, [], 173)) none)))) (cond (Nat.ble pc 178) (cond (Nat.ble pc 174) (cond (Nat.ble pc 173) (cond (Nat.beq pc 173) (some (0, 2, 0, [], 174)) none) (cond (Nat.beq pc 174) (some (40, 29, 76, [], 177)) none)) (cond (Nat.ble pc 177) (cond (Nat.beq pc 177) (some (2, 0, 0, [], 178)) none) (cond (Nat.beq pc 178) (some (1, 0, 3, [], 179)) none))) (cond (Nat.ble pc 180) (cond (Nat.ble pc 179) (cond (Nat.beq pc 179) (some (0, 3, 0, [], 180)) none) (cond (Nat.beq pc 180) (some (40, 29, 76, [], 183)) none)) (cond (Nat.ble pc 183) (cond (Nat.beq pc 183) (some (6, 0, 0, [], 184)) none) (cond (Nat.beq pc 184) (some (16, 4, 208, [], 187)) none))))) (cond (Nat.ble pc 199) (cond (Nat.ble pc 192) (cond (Nat.ble pc 190) (cond (Nat.ble pc 187) (cond (Nat.beq pc 187) (some (39, 31, 11, [], 190)) none) (cond (Nat.beq pc 190) (some (36, 0, 1, [], 191)) none)) (cond (Nat.ble pc 191) (cond (Nat.beq pc 191) (some (38, 1, 0, [], 192)) none) (cond (Nat.beq pc 192) (some (2, 0, 0, [], 193)) none))) (cond (Nat.ble pc 194) (cond (Nat.ble pc 193) (cond (Nat.beq pc 193) (some (1, 0, 3, [], 194)) none) (cond (Nat.beq pc 194) (some (1, 0, 4, [], 196)) none)) (cond (Nat.ble pc 196) (cond (Nat.beq pc 196) (some (40, 32, 78, [], 199)) none) (cond (Nat.beq pc 199) (some (35, 0, 0, [], 200)) none)))) (cond (Nat.ble pc 205) (cond (Nat.ble pc 201) (cond (Nat.ble pc 200) (cond (Nat.beq pc 200) (some (38, 0, 0, [], 201)) none) (cond (Nat.beq pc 201) (some (37, 0, 1, [], 202)) none)) (cond (Nat.ble pc 202) (cond (Nat.beq pc 202) (some (5, 1, 4, [], 205)) none) (cond (Nat.beq pc 205) (some (15, 0, 169, [], 208)) none))) (cond (Nat.ble pc 211) (cond (Nat.ble pc 208) (cond (Nat.beq pc 208) (some (5, 1, 3, [], 211)) none) (cond (Nat.beq pc 211) (some (15, 0, 157, [], 214)) none)) (cond (Nat.ble pc 214) (cond (Nat.beq pc 214) (some (36, 0, 1, [], 215)) none) (cond (Nat.beq pc 215) (some (45, 0, 0, [], 216)) none)))))))) none
def qc104 (pc : Nat) : Option qX := cond (Nat.ble pc 428) (cond (Nat.ble pc 213) (cond (Nat.ble pc 105) (cond (Nat.ble pc 50) (cond (Nat.ble pc 21) (cond (Nat.ble pc 11) (cond (Nat.ble pc 4) (cond (Nat.ble pc 0) (cond (Nat.beq pc 0) (some (2, 0, 0, [], 1)) none) (cond (Nat.ble pc 1) (cond (Nat.beq pc 1) (some (40, 35, 103, [], 4)) none) (cond (Nat.beq pc 4) (some (37, 0, 1, [], 5)) none))) (cond (Nat.ble pc 6) (cond (Nat.ble pc 5) (cond (Nat.beq pc 5) (some (2, 0, 0, [], 6)) none) (cond (Nat.beq pc 6) (some (0, 8, 0, [], 8)) none)) (cond (Nat.ble pc 8) (cond (Nat.beq pc 8) (some (40, 13, 71, [], 11)) none) (cond (Nat.beq pc 11) (some (3, 0, 3, [], 12)) none)))) (cond (Nat.ble pc 14) (cond (Nat.ble pc 12) (cond (Nat.beq pc 12) (some (2, 0, 0, [], 13)) none) (cond (Nat.ble pc 13) (cond (Nat.beq pc 13) (some (0, 1, 0, [], 14)) none) (cond (Nat.beq pc 14) (some (40, 13, 71, [], 17)) none))) (cond (Nat.ble pc 19) (cond (Nat.ble pc 17) (cond (Nat.beq pc 17) (some (3, 0, 4, [], 19)) none) (cond (Nat.beq pc 19) (some (2, 0, 0, [], 20)) none)) (cond (Nat.ble pc 20) (cond (Nat.beq pc 20) (some (0, 2, 0, [], 21)) none) (cond (Nat.beq pc 21) (some (40, 13, 71, [], 24)) none))))) (cond (Nat.ble pc 34) (cond (Nat.ble pc 27) (cond (Nat.ble pc 24) (cond (Nat.beq pc 24) (some (3, 0, 5, [], 26)) none) (cond (Nat.ble pc 26) (cond (Nat.beq pc 26) (some (2, 0, 0, [], 27)) none) (cond (Nat.beq pc 27) (some (0, 3, 0, [], 28)) none))) (cond (Nat.ble pc 31) (cond (Nat.ble pc 28) (cond (Nat.beq pc 28) (some (40, 13, 71, [], 31)) none) (cond (Nat.beq pc 31) (some (3, 0, 6, [], 33)) none)) (cond (Nat.ble pc 33) (cond (Nat.beq pc 33) (some (2, 0, 0, [], 34)) none) (cond (Nat.beq pc 34) (some (0, 0, 0, [], 35)) none)))) (cond (Nat.ble pc 42) (cond (Nat.ble pc 38) (cond (Nat.ble pc 35) (cond (Nat.beq pc 35) (some (40, 41, 63, [], 38)) none) (cond (Nat.beq pc 38) (some (0, (-1), 0, [], 39)) none)) (cond (Nat.ble pc 39) (cond (Nat.beq pc 39) (some (16, 1, 248, [], 42)) none) (cond (Nat.beq pc 42) (some (2, 0, 0, [], 43)) none))) (cond (Nat.ble pc 46) (cond (Nat.ble pc 43) (cond (Nat.beq pc 43) (some (0, 256, 0, [], 46)) none) (cond (Nat.beq pc 46) (some (40, 41, 63, [], 49)) none)) (cond (Nat.ble pc 49) (cond (Nat.beq pc 49) (some (0, (-1), 0, [], 50)) none) (cond (Nat.beq pc 50) (some (16, 1, 248, [], 53)) none)))))) (cond (Nat.ble pc 77) (cond (Nat.ble pc 64) (cond (Nat.ble pc 56) (cond (Nat.ble pc 53) (cond (Nat.beq pc 53) (some (2, 0, 0, [], 54)) none) (cond (Nat.ble pc 54) (cond (Nat.beq pc 54) (some (1, 0, 4, [], 56)) none) (cond (Nat.beq pc 56) (some (40, 44, 66, [], 59)) none))) (cond (Nat.ble pc 60) (cond (Nat.ble pc 59) (cond (Nat.beq pc 59) (some (0, (-1), 0, [], 60)) none) (cond (Nat.beq pc 60) (some (16, 1, 248, [], 63)) none)) (cond (Nat.ble pc 63) (cond (Nat.beq pc 63) (some (2, 0, 0, [], 64)) none) (cond (Nat.beq pc 64) (some (0, (-1), 0, [], 65)) none)))) (cond (Nat.ble pc 72) (cond (Nat.ble pc 68) (cond (Nat.ble pc 65) (cond (Nat.beq pc 65) (some (40, 44, 66, [], 68)) none) (cond (Nat.beq pc 68) (some (0, (-1), 0, [], 69)) none)) (cond (Nat.ble pc 69) (cond (Nat.beq pc 69) (some (16, 1, 248, [], 72)) none) (cond (Nat.beq pc 72) (some (2, 0, 0, [], 73)) none))) (cond (Nat.ble pc 75) (cond (Nat.ble pc 73) (cond (Nat.beq pc 73) (some (1, 0, 4, [], 75)) none) (cond (Nat.beq pc 75) (some (0, 0, 0, [], 76)) none)) (cond (Nat.ble pc 76) (cond (Nat.beq pc 76) (some (0, 1, 0, [], 77)) none) (cond (Nat.beq pc 77) (some (40, 47, 67, [], 80)) none))))) (cond (Nat.ble pc 89) (cond (Nat.ble pc 84) (cond (Nat.ble pc 80) (cond (Nat.beq pc 80) (some (0, (-1), 0, [], 81)) none) (cond (Nat.ble pc 81) (cond (Nat.beq pc 81) (some (16, 1, 248, [], 84)) none) (cond (Nat.beq pc 84) (some (2, 0, 0, [], 85)) none))) (cond (Nat.ble pc 86) (cond (Nat.ble pc 85) (cond (Nat.beq pc 85) (some (0, 0, 0, [], 86)) none) (cond (Nat.beq pc 86) (some (1, 0, 5, [], 88)) none)) (cond (Nat.ble pc 88) (cond (Nat.beq pc 88) (some (0, 1, 0, [], 89)) none) (cond (Nat.beq pc 89) (some (40, 47, 67, [], 92)) none)))) (cond (Nat.ble pc 97) (cond (Nat.ble pc 93) (cond (Nat.ble pc 92) (cond (Nat.beq pc 92) (some (0, (-1), 0, [], 93)) none) (cond (Nat.beq pc 93) (some (16, 1, 248, [], 96)) none)) (cond (Nat.ble pc 96) (cond (Nat.beq pc 96) (some (2, 0, 0, [], 97)) none) (cond (Nat.beq pc 97) (some (0, 0, 0, [], 98)) none))) (cond (Nat.ble pc 99) (cond (Nat.ble pc 98) (cond (Nat.beq pc 98) (some (0, 0, 0, [], 99)) none) (cond (Nat.beq pc 99) (some (0, 1000, 0, [], 102)) none)) (cond (Nat.ble pc 102) (cond (Nat.beq pc 102) (some (40, 47, 67, [], 105)) none) (cond (Nat.beq pc 105) (some (0, (-1), 0, [], 106)) none))))))) (cond (Nat.ble pc 158) (cond (Nat.ble pc 131) (cond (Nat.ble pc 116) (cond (Nat.ble pc 110) (cond (Nat.ble pc 106) (cond (Nat.beq pc 106) (some (16, 1, 248, [], 109)) none) (cond (Nat.ble pc 109) (cond (Nat.beq pc 109) (some (2, 0, 0, [], 110)) none) (cond (Nat.beq pc 110) (some (0, 0, 0, [], 111)) none))) (cond (Nat.ble pc 112) (cond (Nat.ble pc 111) (cond (Nat.beq pc 111) (some (0, 0, 0, [], 112)) none) (cond (Nat.beq pc 112) (some (0, (-1), 0, [], 113)) none)) (cond (Nat.ble pc 113) (cond (Nat.beq pc 113) (some (40, 47, 67, [], 116)) none) (cond (Nat.beq pc 116) (some (0, (-1), 0, [], 117)) none)))) (cond (Nat.ble pc 123) (cond (Nat.ble pc 120) (cond (Nat.ble pc 117) (cond (Nat.beq pc 117) (some (16, 1, 248, [], 120)) none) (cond (Nat.beq pc 120) (some (2, 0, 0, [], 121)) none)) (cond (Nat.ble pc 121) (cond (Nat.beq pc 121) (some (1, 0, 4, [], 123)) none) (cond (Nat.beq pc 123) (some (0, 0, 0, [], 124)) none))) (cond (Nat.ble pc 127) (cond (Nat.ble pc 124) (cond (Nat.beq pc 124) (some (40, 51, 68, [], 127)) none) (cond (Nat.beq pc 127) (some (0, (-1), 0, [], 128)) none)) (cond (Nat.ble pc 128) (cond (Nat.beq pc 128) (some (16, 1, 248, [], 131)) none) (cond (Nat.beq pc 131) (some (2, 0, 0, [], 132)) none))))) (cond (Nat.ble pc 143) (cond (Nat.ble pc 135) (cond (Nat.ble pc 132) (cond (Nat.beq pc 132) (some (0, 0, 0, [], 133)) none) (cond (Nat.ble pc 133) (cond (Nat.beq pc 133) (some (1, 0, 5, [], 135)) none) (cond (Nat.beq pc 135) (some (40, 51, 68, [], 138)) none))) (cond (Nat.ble pc 139) (cond (Nat.ble pc 138) (cond (Nat.beq pc 138) (some (0, (-1), 0, [], 139)) none) (cond (Nat.beq pc 139) (some (16, 1, 248, [], 142)) none)) (cond (Nat.ble pc 142) (cond (Nat.beq pc 142) (some (2, 0, 0, [], 143)) none) (cond (Nat.beq pc 143) (some (0, 0, 0, [], 144)) none)))) (cond (Nat.ble pc 151) (cond (Nat.ble pc 147) (cond (Nat.ble pc 144) (cond (Nat.beq pc 144) (some (40, 54, 69, [], 147)) none) (cond (Nat.beq pc 147) (some (0, (-1), 0, [], 148)) none)) (cond (Nat.ble pc 148) (cond (Nat.beq pc 148) (some (16, 1, 248, [], 151)) none) (cond (Nat.beq pc 151) (some (2, 0, 0, [], 152)) none))) (cond (Nat.ble pc 154) (cond (Nat.ble pc 152) (cond (Nat.beq pc 152) (some (0, 11, 0, [], 154)) none) (cond (Nat.beq pc 154) (some (40, 54, 69, [], 157)) none)) (cond (Nat.ble pc 157) (cond (Nat.beq pc 157) (some (0, (-1), 0, [], 158)) none) (cond (Nat.beq pc 158) (some (16, 1, 248, [], 161)) none)))))) (cond (Nat.ble pc 187) (cond (Nat.ble pc 172) (cond (Nat.ble pc 164) (cond (Nat.ble pc 161) (cond (Nat.beq pc 161) (some (2, 0, 0, [], 162)) none) (cond (Nat.ble pc 162) (cond (Nat.beq pc 162) (some (0, 10, 0, [], 164)) none) (cond (Nat.beq pc 164) (some (40, 13, 71, [], 167)) none))) (cond (Nat.ble pc 168) (cond (Nat.ble pc 167) (cond (Nat.beq pc 167) (some (0, (-1), 0, [], 168)) none) (cond (Nat.beq pc 168) (some (16, 1, 248, [], 171)) none)) (cond (Nat.ble pc 171) (cond (Nat.beq pc 171) (some (2, 0, 0, [], 172)) none) (cond (Nat.beq pc 172) (some (0, (-1), 0, [], 173)) none)))) (cond (Nat.ble pc 180) (cond (Nat.ble pc 176) (cond (Nat.ble pc 173) (cond (Nat.beq pc 173) (some (40, 13, 71, [], 176)) none) (cond (Nat.beq pc 176) (some (0, (-1), 0, [], 177)) none)) (cond (Nat.ble pc 177) (cond (Nat.beq pc 177) (some (16, 1, 248, [], 180)) none) (cond (Nat.beq pc 180) (some (2, 0, 0, [], 181)) none))) (cond (Nat.ble pc 183) (cond (Nat.ble pc 181) (cond (Nat.beq pc 181) (some (1, 0, 4, [], 183)) none) (cond (Nat.beq pc 183) (some (0, 0, 0, [], 184)) none)) (cond (Nat.ble pc 184) (cond (Nat.beq pc 184) (some (40, 19, 72, [], 187)) none) (cond (Nat.beq pc 187) (some (0, (-1), 0, [], 188)) none))))) (cond (Nat.ble pc 198) (cond (Nat.ble pc 192) (cond (Nat.ble pc 188) (cond (Nat.beq pc 188) (some (16, 1, 248, [], 191)) none) (cond (Nat.ble pc 191) (cond (Nat.beq pc 191) (some (2, 0, 0, [], 192)) none) (cond (Nat.beq pc 192) (some (0, 0, 0, [], 193)) none))) (cond (Nat.ble pc 194) (cond (Nat.ble pc 193) (cond (Nat.beq pc 193) (some (0, 5, 0, [], 194)) none) (cond (Nat.beq pc 194) (some (40, 19, 72, [], 197)) none)) (cond (Nat.ble pc 197) (cond (Nat.beq pc 197) (some (0, (-1), 0, [], 198)) none) (cond (Nat.beq pc 198) (some (16, 1, 248, [], 201)) none)))) (cond (Nat.ble pc 205) (cond (Nat.ble pc 202) (cond (Nat.ble pc 201) (cond (Nat.beq pc 201) (some (2, 0, 0, [], 202)) none) (cond (Nat.beq pc 202) (some (1, 0, 4, [], 204)) none)) (cond (Nat.ble pc 204) (cond (Nat.beq pc 204) (some (0, 0, 0, [], 205)) none) (cond (Nat.beq pc 205) (some (40, 57, 73, [], 208)) none))) (cond (Nat.ble pc 209) (cond (Nat.ble pc 208) (cond (Nat.beq pc 208) (some (0, (-1), 0, [], 209)) none) (cond (Nat.beq pc 209) (some (16, 1, 248, [], 212)) none)) (cond (Nat.ble pc 212) (cond (Nat.beq pc 212) (some (2, 0, 0, [], 213)) none) (cond (Nat.beq pc 213) (some (0, 0, 0, [], 214)) none)))))))) (cond (Nat.ble pc 318) (cond (Nat.ble pc 267) (cond (Nat.ble pc 237) (cond (Nat.ble pc 225) (cond (Nat.ble pc 218) (cond (Nat.ble pc 214) (cond (Nat.beq pc 214) (some (0, (-1), 0, [], 215)) none) (cond (Nat.ble pc 215) (cond (Nat.beq pc 215) (some (40, 57, 73, [], 218)) none) (cond (Nat.beq pc 218) (some (0, (-1), 0, [], 219)) none))) (cond (Nat.ble pc 222) (cond (Nat.ble pc 219) (cond (Nat.beq pc 219) (some (16, 1, 248, [], 222)) none) (cond (Nat.beq pc 222) (some (2, 0, 0, [], 223)) none)) (cond (Nat.ble pc 223) (cond (Nat.beq pc 223) (some (1, 0, 4, [], 225)) none) (cond (Nat.beq pc 225) (some (0, 0, 0, [], 226)) none)))) (cond (Nat.ble pc 230) (cond (Nat.ble pc 226) (cond (Nat.beq pc 226) (some (40, 23, 74, [], 229)) none) (cond (Nat.ble pc 229) (cond (Nat.beq pc 229) (some (0, (-1), 0, [], 230)) none) (cond (Nat.beq pc 230) (some (16, 1, 248, [], 233)) none))) (cond (Nat.ble pc 234) (cond (Nat.ble pc 233) (cond (Nat.beq pc 233) (some (2, 0, 0, [], 234)) none) (cond (Nat.beq pc 234) (some (0, 0, 0, [], 235)) none)) (cond (Nat.ble pc 235) (cond (Nat.beq pc 235) (some (1, 0, 5, [], 237)) none) (cond (Nat.beq pc 237) (some (40, 23, 74, [], 240)) none))))) (cond (Nat.ble pc 251) (cond (Nat.ble pc 244) (cond (Nat.ble pc 240) (cond (Nat.beq pc 240) (some (0, (-1), 0, [], 241)) none) (cond (Nat.ble pc 241) (cond (Nat.beq pc 241) (some (16, 1, 248, [], 244)) none) (cond (Nat.beq pc 244) (some (0, 1, 0, [], 245)) none))) (cond (Nat.ble pc 248) (cond (Nat.ble pc 245) (cond (Nat.beq pc 245) (some (15, 0, 249, [], 248)) none) (cond (Nat.beq pc 248) (some (0, 0, 0, [], 249)) none)) (cond (Nat.ble pc 249) (cond (Nat.beq pc 249) (some (3, 0, 7, [], 251)) none) (cond (Nat.beq pc 251) (some (1, 0, 7, [], 253)) none)))) (cond (Nat.ble pc 259) (cond (Nat.ble pc 256) (cond (Nat.ble pc 253) (cond (Nat.beq pc 253) (some (17, 0, 396, [], 256)) none) (cond (Nat.beq pc 256) (some (2, 0, 0, [], 257)) none)) (cond (Nat.ble pc 257) (cond (Nat.beq pc 257) (some (1, 0, 5, [], 259)) none) (cond (Nat.beq pc 259) (some (0, 0, 0, [], 260)) none))) (cond (Nat.ble pc 263) (cond (Nat.ble pc 260) (cond (Nat.beq pc 260) (some (40, 26, 75, [], 263)) none) (cond (Nat.beq pc 263) (some (0, (-1), 0, [], 264)) none)) (cond (Nat.ble pc 264) (cond (Nat.beq pc 264) (some (16, 1, 396, [], 267)) none) (cond (Nat.beq pc 267) (some (2, 0, 0, [], 268)) none)))))) (cond (Nat.ble pc 292) (cond (Nat.ble pc 279) (cond (Nat.ble pc 271) (cond (Nat.ble pc 268) (cond (Nat.beq pc 268) (some (0, 0, 0, [], 269)) none) (cond (Nat.ble pc 269) (cond (Nat.beq pc 269) (some (0, 6, 0, [], 271)) none) (cond (Nat.beq pc 271) (some (40, 26, 75, [], 274)) none))) (cond (Nat.ble pc 275) (cond (Nat.ble pc 274) (cond (Nat.beq pc 274) (some (0, (-1), 0, [], 275)) none) (cond (Nat.beq pc 275) (some (16, 1, 396, [], 278)) none)) (cond (Nat.ble pc 278) (cond (Nat.beq pc 278) (some (2, 0, 0, [], 279)) none) (cond (Nat.beq pc 279) (some (1, 0, 6, [], 281)) none)))) (cond (Nat.ble pc 286) (cond (Nat.ble pc 282) (cond (Nat.ble pc 281) (cond (Nat.beq pc 281) (some (0, 0, 0, [], 282)) none) (cond (Nat.beq pc 282) (some (40, 29, 76, [], 285)) none)) (cond (Nat.ble pc 285) (cond (Nat.beq pc 285) (some (0, (-1), 0, [], 286)) none) (cond (Nat.beq pc 286) (some (16, 1, 396, [], 289)) none))) (cond (Nat.ble pc 290) (cond (Nat.ble pc 289) (cond (Nat.beq pc 289) (some (2, 0, 0, [], 290)) none) (cond (Nat.beq pc 290) (some (0, 0, 0, [], 291)) none)) (cond (Nat.ble pc 291) (cond (Nat.beq pc 291) (some (0, 5, 0, [], 292)) none) (cond (Nat.beq pc 292) (some (40, 29, 76, [], 295)) none))))) (cond (Nat.ble pc 304) (cond (Nat.ble pc 299) (cond (Nat.ble pc 295) (cond (Nat.beq pc 295) (some (0, (-1), 0, [], 296)) none) (cond (Nat.ble pc 296) (cond (Nat.beq pc 296) (some (16, 1, 396, [], 299)) none) (cond (Nat.beq pc 299) (some (2, 0, 0, [], 300)) none))) (cond (Nat.ble pc 302) (cond (Nat.ble pc 300) (cond (Nat.beq pc 300) (some (1, 0, 6, [], 302)) none) (cond (Nat.beq pc 302) (some (0, 0, 0, [], 303)) none)) (cond (Nat.ble pc 303) (cond (Nat.beq pc 303) (some (0, 0, 0, [], 304)) none) (cond (Nat.beq pc 304) (some (40, 60, 77, [], 307)) none)))) (cond (Nat.ble pc 312) (cond (Nat.ble pc 308) (cond (Nat.ble pc 307) (cond (Nat.beq pc 307) (some (0, (-1), 0, [], 308)) none) (cond (Nat.beq pc 308) (some (16, 1, 396, [], 311)) none)) (cond (Nat.ble pc 311) (cond (Nat.beq pc 311) (some (2, 0, 0, [], 312)) none) (cond (Nat.beq pc 312) (some (0, 0, 0, [], 313)) none))) (cond (Nat.ble pc 314) (cond (Nat.ble pc 313) (cond (Nat.beq pc 313) (some (0, (-1), 0, [], 314)) none) (cond (Nat.beq pc 314) (some (0, 0, 0, [], 315)) none)) (cond (Nat.ble pc 315) (cond (Nat.beq pc 315) (some (40, 60, 77, [], 318)) none) (cond (Nat.beq pc 318) (some (0, (-1), 0, [], 319)) none))))))) (cond (Nat.ble pc 370) (cond (Nat.ble pc 344) (cond (Nat.ble pc 329) (cond (Nat.ble pc 323) (cond (Nat.ble pc 319) (cond (Nat.beq pc 319) (some (16, 1, 396, [], 322)) none) (cond (Nat.ble pc 322) (cond (Nat.beq pc 322) (some (2, 0, 0, [], 323)) none) (cond (Nat.beq pc 323) (some (0, 0, 0, [], 324)) none))) (cond (Nat.ble pc 325) (cond (Nat.ble pc 324) (cond (Nat.beq pc 324) (some (0, 0, 0, [], 325)) none) (cond (Nat.beq pc 325) (some (0, (-1), 0, [], 326)) none)) (cond (Nat.ble pc 326) (cond (Nat.beq pc 326) (some (40, 60, 77, [], 329)) none) (cond (Nat.beq pc 329) (some (0, (-1), 0, [], 330)) none)))) (cond (Nat.ble pc 336) (cond (Nat.ble pc 333) (cond (Nat.ble pc 330) (cond (Nat.beq pc 330) (some (16, 1, 396, [], 333)) none) (cond (Nat.beq pc 333) (some (2, 0, 0, [], 334)) none)) (cond (Nat.ble pc 334) (cond (Nat.beq pc 334) (some (1, 0, 6, [], 336)) none) (cond (Nat.beq pc 336) (some (0, 0, 0, [], 337)) none))) (cond (Nat.ble pc 340) (cond (Nat.ble pc 337) (cond (Nat.beq pc 337) (some (40, 32, 78, [], 340)) none) (cond (Nat.beq pc 340) (some (0, (-1), 0, [], 341)) none)) (cond (Nat.ble pc 341) (cond (Nat.beq pc 341) (some (16, 1, 396, [], 344)) none) (cond (Nat.beq pc 344) (some (2, 0, 0, [], 345)) none))))) (cond (Nat.ble pc 355) (cond (Nat.ble pc 347) (cond (Nat.ble pc 345) (cond (Nat.beq pc 345) (some (0, 0, 0, [], 346)) none) (cond (Nat.ble pc 346) (cond (Nat.beq pc 346) (some (0, (-1), 0, [], 347)) none) (cond (Nat.beq pc 347) (some (40, 32, 78, [], 350)) none))) (cond (Nat.ble pc 351) (cond (Nat.ble pc 350) (cond (Nat.beq pc 350) (some (0, (-1), 0, [], 351)) none) (cond (Nat.beq pc 351) (some (16, 1, 396, [], 354)) none)) (cond (Nat.ble pc 354) (cond (Nat.beq pc 354) (some (2, 0, 0, [], 355)) none) (cond (Nat.beq pc 355) (some (0, 0, 0, [], 356)) none)))) (cond (Nat.ble pc 363) (cond (Nat.ble pc 359) (cond (Nat.ble pc 356) (cond (Nat.beq pc 356) (some (40, 63, 79, [], 359)) none) (cond (Nat.beq pc 359) (some (0, (-1), 0, [], 360)) none)) (cond (Nat.ble pc 360) (cond (Nat.beq pc 360) (some (16, 1, 396, [], 363)) none) (cond (Nat.beq pc 363) (some (2, 0, 0, [], 364)) none))) (cond (Nat.ble pc 366) (cond (Nat.ble pc 364) (cond (Nat.beq pc 364) (some (0, 11, 0, [], 366)) none) (cond (Nat.beq pc 366) (some (40, 63, 79, [], 369)) none)) (cond (Nat.ble pc 369) (cond (Nat.beq pc 369) (some (0, (-1), 0, [], 370)) none) (cond (Nat.beq pc 370) (some (16, 1, 396, [], 373)) none)))))) (cond (Nat.ble pc 399) (cond (Nat.ble pc 384) (cond (Nat.ble pc 376) (cond (Nat.ble pc 373) (cond (Nat.beq pc 373) (some (2, 0, 0, [], 374)) none) (cond (Nat.ble pc 374) (cond (Nat.beq pc 374) (some (1, 0, 4, [], 376)) none) (cond (Nat.beq pc 376) (some (40, 66, 81, [], 379)) none))) (cond (Nat.ble pc 380) (cond (Nat.ble pc 379) (cond (Nat.beq pc 379) (some (0, (-1), 0, [], 380)) none) (cond (Nat.beq pc 380) (some (16, 1, 396, [], 383)) none)) (cond (Nat.ble pc 383) (cond (Nat.beq pc 383) (some (2, 0, 0, [], 384)) none) (cond (Nat.beq pc 384) (some (0, (-1), 0, [], 385)) none)))) (cond (Nat.ble pc 392) (cond (Nat.ble pc 388) (cond (Nat.ble pc 385) (cond (Nat.beq pc 385) (some (40, 66, 81, [], 388)) none) (cond (Nat.beq pc 388) (some (0, (-1), 0, [], 389)) none)) (cond (Nat.ble pc 389) (cond (Nat.beq pc 389) (some (16, 1, 396, [], 392)) none) (cond (Nat.beq pc 392) (some (0, 1, 0, [], 393)) none))) (cond (Nat.ble pc 396) (cond (Nat.ble pc 393) (cond (Nat.beq pc 393) (some (15, 0, 397, [], 396)) none) (cond (Nat.beq pc 396) (some (0, 0, 0, [], 397)) none)) (cond (Nat.ble pc 397) (cond (Nat.beq pc 397) (some (3, 0, 7, [], 399)) none) (cond (Nat.beq pc 399) (some (1, 0, 7, [], 401)) none))))) (cond (Nat.ble pc 413) (cond (Nat.ble pc 405) (cond (Nat.ble pc 401) (cond (Nat.beq pc 401) (some (17, 0, 427, [], 404)) none) (cond (Nat.ble pc 404) (cond (Nat.beq pc 404) (some (2, 0, 0, [], 405)) none) (cond (Nat.beq pc 405) (some (40, 35, 103, [], 408)) none))) (cond (Nat.ble pc 409) (cond (Nat.ble pc 408) (cond (Nat.beq pc 408) (some (36, 0, 1, [], 409)) none) (cond (Nat.beq pc 409) (some (35, 1, 0, [], 410)) none)) (cond (Nat.ble pc 410) (cond (Nat.beq pc 410) (some (17, 1, 427, [], 413)) none) (cond (Nat.beq pc 413) (some (2, 0, 0, [], 414)) none)))) (cond (Nat.ble pc 420) (cond (Nat.ble pc 416) (cond (Nat.ble pc 414) (cond (Nat.beq pc 414) (some (0, 8, 0, [], 416)) none) (cond (Nat.beq pc 416) (some (40, 13, 71, [], 419)) none)) (cond (Nat.ble pc 419) (cond (Nat.beq pc 419) (some (1, 0, 3, [], 420)) none) (cond (Nat.beq pc 420) (some (16, 1, 427, [], 423)) none))) (cond (Nat.ble pc 424) (cond (Nat.ble pc 423) (cond (Nat.beq pc 423) (some (0, 1, 0, [], 424)) none) (cond (Nat.beq pc 424) (some (15, 0, 428, [], 427)) none)) (cond (Nat.ble pc 427) (cond (Nat.beq pc 427) (some (0, 0, 0, [], 428)) none) (cond (Nat.beq pc 428) (some (42, 0, 0, [], 429)) none))))))))) none
def qc105 (pc : Nat) : Option qX := cond (Nat.ble pc 343) (cond (Nat.ble pc 164) (cond (Nat.ble pc 77) (cond (Nat.ble pc 33) (cond (Nat.ble pc 17) (cond (Nat.ble pc 8) (cond (Nat.ble pc 4) (cond (Nat.ble pc 0) (cond (Nat.beq pc 0) (some (2, 0, 0, [], 1)) none) (cond (Nat.ble pc 1) (cond (Nat.beq pc 1) (some (40, 69, 64, [], 4)) none) (cond (Nat.beq pc 4) (some (3, 0, 3, [], 5)) none))) (cond (Nat.ble pc 5) (cond (Nat.beq pc 5) (some (1, 0, 1, [], 6)) none) (cond (Nat.ble pc 6) (cond (Nat.beq pc 6) (some (3, 0, 4, [], 8)) none) (cond (Nat.beq pc 8) (some (0, 0, 0, [], 9)) none)))) (cond (Nat.ble pc 12) (cond (Nat.ble pc 9) (cond (Nat.beq pc 9) (some (3, 0, 5, [], 11)) none) (cond (Nat.ble pc 11) (cond (Nat.beq pc 11) (some (0, 1, 0, [], 12)) none) (cond (Nat.beq pc 12) (some (3, 0, 6, [], 14)) none))) (cond (Nat.ble pc 14) (cond (Nat.beq pc 14) (some (2, 0, 2, [], 15)) none) (cond (Nat.ble pc 15) (cond (Nat.beq pc 15) (some (0, 60, 0, [], 17)) none) (cond (Nat.beq pc 17) (some (0, 0, 0, [], 18)) none))))) (cond (Nat.ble pc 24) (cond (Nat.ble pc 20) (cond (Nat.ble pc 18) (cond (Nat.beq pc 18) (some (26, 0, 0, [], 19)) none) (cond (Nat.ble pc 19) (cond (Nat.beq pc 19) (some (2, 0, 2, [], 20)) none) (cond (Nat.beq pc 20) (some (0, 61, 0, [], 22)) none))) (cond (Nat.ble pc 22) (cond (Nat.beq pc 22) (some (0, 0, 0, [], 23)) none) (cond (Nat.ble pc 23) (cond (Nat.beq pc 23) (some (26, 0, 0, [], 24)) none) (cond (Nat.beq pc 24) (some (2, 0, 2, [], 25)) none)))) (cond (Nat.ble pc 28) (cond (Nat.ble pc 25) (cond (Nat.beq pc 25) (some (0, 62, 0, [], 27)) none) (cond (Nat.ble pc 27) (cond (Nat.beq pc 27) (some (0, 0, 0, [], 28)) none) (cond (Nat.beq pc 28) (some (26, 0, 0, [], 29)) none))) (cond (Nat.ble pc 30) (cond (Nat.ble pc 29) (cond (Nat.beq pc 29) (some (2, 0, 2, [], 30)) none) (cond (Nat.beq pc 30) (some (0, 63, 0, [], 32)) none)) (cond (Nat.ble pc 32) (cond (Nat.beq pc 32) (some (0, 0, 0, [], 33)) none) (cond (Nat.beq pc 33) (some (26, 0, 0, [], 34)) none)))))) (cond (Nat.ble pc 55) (cond (Nat.ble pc 43) (cond (Nat.ble pc 36) (cond (Nat.ble pc 34) (cond (Nat.beq pc 34) (some (2, 0, 0, [], 35)) none) (cond (Nat.ble pc 35) (cond (Nat.beq pc 35) (some (2, 0, 2, [], 36)) none) (cond (Nat.beq pc 36) (some (1, 0, 5, [], 38)) none))) (cond (Nat.ble pc 38) (cond (Nat.beq pc 38) (some (0, 123, 0, [], 40)) none) (cond (Nat.ble pc 40) (cond (Nat.beq pc 40) (some (40, 73, 106, [], 43)) none) (cond (Nat.beq pc 43) (some (3, 0, 5, [], 45)) none)))) (cond (Nat.ble pc 48) (cond (Nat.ble pc 45) (cond (Nat.beq pc 45) (some (0, 0, 0, [], 46)) none) (cond (Nat.ble pc 46) (cond (Nat.beq pc 46) (some (3, 0, 7, [], 48)) none) (cond (Nat.beq pc 48) (some (1, 0, 7, [], 50)) none))) (cond (Nat.ble pc 50) (cond (Nat.beq pc 50) (some (0, 9, 0, [], 52)) none) (cond (Nat.ble pc 52) (cond (Nat.beq pc 52) (some (16, 3, 312, [], 55)) none) (cond (Nat.beq pc 55) (some (0, 1103515245, 77, [], 57)) none))))) (cond (Nat.ble pc 66) (cond (Nat.ble pc 60) (cond (Nat.ble pc 57) (cond (Nat.beq pc 57) (some (1, 0, 4, [], 59)) none) (cond (Nat.ble pc 59) (cond (Nat.beq pc 59) (some (11, 5, 0, [], 60)) none) (cond (Nat.beq pc 60) (some (0, 12345, 0, [], 63)) none))) (cond (Nat.ble pc 63) (cond (Nat.beq pc 63) (some (11, 4, 0, [], 64)) none) (cond (Nat.ble pc 64) (cond (Nat.beq pc 64) (some (3, 0, 4, [], 66)) none) (cond (Nat.beq pc 66) (some (1, 0, 4, [], 68)) none)))) (cond (Nat.ble pc 71) (cond (Nat.ble pc 68) (cond (Nat.beq pc 68) (some (0, 16, 0, [], 70)) none) (cond (Nat.ble pc 70) (cond (Nat.beq pc 70) (some (11, 3, 0, [], 71)) none) (cond (Nat.beq pc 71) (some (0, 3, 0, [], 72)) none))) (cond (Nat.ble pc 73) (cond (Nat.ble pc 72) (cond (Nat.beq pc 72) (some (11, 0, 0, [], 73)) none) (cond (Nat.beq pc 73) (some (3, 0, 8, [], 75)) none)) (cond (Nat.ble pc 75) (cond (Nat.beq pc 75) (some (1, 0, 4, [], 77)) none) (cond (Nat.beq pc 77) (some (0, 20, 0, [], 79)) none))))))) (cond (Nat.ble pc 122) (cond (Nat.ble pc 98) (cond (Nat.ble pc 87) (cond (Nat.ble pc 82) (cond (Nat.ble pc 79) (cond (Nat.beq pc 79) (some (11, 3, 0, [], 80)) none) (cond (Nat.ble pc 80) (cond (Nat.beq pc 80) (some (0, 7, 0, [], 82)) none) (cond (Nat.beq pc 82) (some (11, 0, 0, [], 83)) none))) (cond (Nat.ble pc 83) (cond (Nat.beq pc 83) (some (3, 0, 9, [], 85)) none) (cond (Nat.ble pc 85) (cond (Nat.beq pc 85) (some (1, 0, 9, [], 87)) none) (cond (Nat.beq pc 87) (some (17, 1, 113, [], 90)) none)))) (cond (Nat.ble pc 93) (cond (Nat.ble pc 90) (cond (Nat.beq pc 90) (some (1, 0, 6, [], 92)) none) (cond (Nat.ble pc 92) (cond (Nat.beq pc 92) (some (0, 1, 0, [], 93)) none) (cond (Nat.beq pc 93) (some (16, 5, 113, [], 96)) none))) (cond (Nat.ble pc 96) (cond (Nat.beq pc 96) (some (2, 0, 0, [], 97)) none) (cond (Nat.ble pc 97) (cond (Nat.beq pc 97) (some (2, 0, 2, [], 98)) none) (cond (Nat.beq pc 98) (some (1, 0, 5, [], 100)) none))))) (cond (Nat.ble pc 113) (cond (Nat.ble pc 105) (cond (Nat.ble pc 100) (cond (Nat.beq pc 100) (some (0, 125, 0, [], 102)) none) (cond (Nat.ble pc 102) (cond (Nat.beq pc 102) (some (40, 73, 106, [], 105)) none) (cond (Nat.beq pc 105) (some (3, 0, 5, [], 107)) none))) (cond (Nat.ble pc 107) (cond (Nat.beq pc 107) (some (5, (-1), 6, [], 110)) none) (cond (Nat.ble pc 110) (cond (Nat.beq pc 110) (some (15, 0, 306, [], 113)) none) (cond (Nat.beq pc 113) (some (2, 0, 2, [], 114)) none)))) (cond (Nat.ble pc 118) (cond (Nat.ble pc 114) (cond (Nat.beq pc 114) (some (0, 60, 0, [], 116)) none) (cond (Nat.ble pc 116) (cond (Nat.beq pc 116) (some (1, 0, 6, [], 118)) none) (cond (Nat.beq pc 118) (some (6, 0, 0, [], 119)) none))) (cond (Nat.ble pc 120) (cond (Nat.ble pc 119) (cond (Nat.beq pc 119) (some (0, 1, 0, [], 120)) none) (cond (Nat.beq pc 120) (some (7, 0, 0, [], 121)) none)) (cond (Nat.ble pc 121) (cond (Nat.beq pc 121) (some (25, 0, 0, [], 122)) none) (cond (Nat.beq pc 122) (some (1, 0, 8, [], 124)) none)))))) (cond (Nat.ble pc 139) (cond (Nat.ble pc 131) (cond (Nat.ble pc 126) (cond (Nat.ble pc 124) (cond (Nat.beq pc 124) (some (11, 3, 0, [], 125)) none) (cond (Nat.ble pc 125) (cond (Nat.beq pc 125) (some (0, 1, 0, [], 126)) none) (cond (Nat.beq pc 126) (some (11, 0, 0, [], 127)) none))) (cond (Nat.ble pc 127) (cond (Nat.beq pc 127) (some (17, 1, 306, [], 130)) none) (cond (Nat.ble pc 130) (cond (Nat.beq pc 130) (some (2, 0, 2, [], 131)) none) (cond (Nat.beq pc 131) (some (0, 60, 0, [], 133)) none)))) (cond (Nat.ble pc 136) (cond (Nat.ble pc 133) (cond (Nat.beq pc 133) (some (1, 0, 6, [], 135)) none) (cond (Nat.ble pc 135) (cond (Nat.beq pc 135) (some (6, 0, 0, [], 136)) none) (cond (Nat.beq pc 136) (some (0, 1, 0, [], 137)) none))) (cond (Nat.ble pc 137) (cond (Nat.beq pc 137) (some (7, 0, 0, [], 138)) none) (cond (Nat.ble pc 138) (cond (Nat.beq pc 138) (some (25, 0, 0, [], 139)) none) (cond (Nat.beq pc 139) (some (17, 5, 154, [], 142)) none))))) (cond (Nat.ble pc 151) (cond (Nat.ble pc 144) (cond (Nat.ble pc 142) (cond (Nat.beq pc 142) (some (2, 0, 0, [], 143)) none) (cond (Nat.ble pc 143) (cond (Nat.beq pc 143) (some (2, 0, 2, [], 144)) none) (cond (Nat.beq pc 144) (some (1, 0, 5, [], 146)) none))) (cond (Nat.ble pc 146) (cond (Nat.beq pc 146) (some (0, 44, 0, [], 148)) none) (cond (Nat.ble pc 148) (cond (Nat.beq pc 148) (some (40, 73, 106, [], 151)) none) (cond (Nat.beq pc 151) (some (15, 0, 156, [], 154)) none)))) (cond (Nat.ble pc 158) (cond (Nat.ble pc 154) (cond (Nat.beq pc 154) (some (1, 0, 5, [], 156)) none) (cond (Nat.ble pc 156) (cond (Nat.beq pc 156) (some (3, 0, 5, [], 158)) none) (cond (Nat.beq pc 158) (some (2, 0, 2, [], 159)) none))) (cond (Nat.ble pc 161) (cond (Nat.ble pc 159) (cond (Nat.beq pc 159) (some (0, 60, 0, [], 161)) none) (cond (Nat.beq pc 161) (some (1, 0, 6, [], 163)) none)) (cond (Nat.ble pc 163) (cond (Nat.beq pc 163) (some (6, 0, 0, [], 164)) none) (cond (Nat.beq pc 164) (some (0, 1, 0, [], 165)) none)))))))) (cond (Nat.ble pc 249) (cond (Nat.ble pc 202) (cond (Nat.ble pc 179) (cond (Nat.ble pc 171) (cond (Nat.ble pc 167) (cond (Nat.ble pc 165) (cond (Nat.beq pc 165) (some (7, 0, 0, [], 166)) none) (cond (Nat.ble pc 166) (cond (Nat.beq pc 166) (some (13, 0, 0, [], 167)) none) (cond (Nat.beq pc 167) (some (25, 0, 0, [], 168)) none))) (cond (Nat.ble pc 168) (cond (Nat.beq pc 168) (some (0, 1, 0, [], 169)) none) (cond (Nat.ble pc 169) (cond (Nat.beq pc 169) (some (1, 0, 8, [], 171)) none) (cond (Nat.beq pc 171) (some (11, 2, 0, [], 172)) none)))) (cond (Nat.ble pc 174) (cond (Nat.ble pc 172) (cond (Nat.beq pc 172) (some (11, 1, 0, [], 173)) none) (cond (Nat.ble pc 173) (cond (Nat.beq pc 173) (some (26, 0, 0, [], 174)) none) (cond (Nat.beq pc 174) (some (1, 0, 4, [], 176)) none))) (cond (Nat.ble pc 176) (cond (Nat.beq pc 176) (some (0, 24, 0, [], 178)) none) (cond (Nat.ble pc 178) (cond (Nat.beq pc 178) (some (11, 3, 0, [], 179)) none) (cond (Nat.beq pc 179) (some (0, 1, 0, [], 180)) none))))) (cond (Nat.ble pc 190) (cond (Nat.ble pc 184) (cond (Nat.ble pc 180) (cond (Nat.beq pc 180) (some (11, 0, 0, [], 181)) none) (cond (Nat.ble pc 181) (cond (Nat.beq pc 181) (some (17, 1, 199, [], 184)) none) (cond (Nat.beq pc 184) (some (1, 0, 3, [], 185)) none))) (cond (Nat.ble pc 185) (cond (Nat.beq pc 185) (some (0, 70, 0, [], 187)) none) (cond (Nat.ble pc 187) (cond (Nat.beq pc 187) (some (16, 3, 199, [], 190)) none) (cond (Nat.beq pc 190) (some (2, 0, 0, [], 191)) none)))) (cond (Nat.ble pc 196) (cond (Nat.ble pc 191) (cond (Nat.beq pc 191) (some (0, 32, 0, [], 193)) none) (cond (Nat.ble pc 193) (cond (Nat.beq pc 193) (some (40, 41, 63, [], 196)) none) (cond (Nat.beq pc 196) (some (15, 0, 200, [], 199)) none))) (cond (Nat.ble pc 200) (cond (Nat.ble pc 199) (cond (Nat.beq pc 199) (some (1, 0, 3, [], 200)) none) (cond (Nat.beq pc 200) (some (3, 0, 3, [], 201)) none)) (cond (Nat.ble pc 201) (cond (Nat.beq pc 201) (some (2, 0, 0, [], 202)) none) (cond (Nat.beq pc 202) (some (2, 0, 2, [], 203)) none)))))) (cond (Nat.ble pc 224) (cond (Nat.ble pc 213) (cond (Nat.ble pc 207) (cond (Nat.ble pc 203) (cond (Nat.beq pc 203) (some (1, 0, 5, [], 205)) none) (cond (Nat.ble pc 205) (cond (Nat.beq pc 205) (some (0, 97, 0, [], 207)) none) (cond (Nat.beq pc 207) (some (1, 0, 8, [], 209)) none))) (cond (Nat.ble pc 209) (cond (Nat.beq pc 209) (some (6, 0, 0, [], 210)) none) (cond (Nat.ble pc 210) (cond (Nat.beq pc 210) (some (40, 73, 106, [], 213)) none) (cond (Nat.beq pc 213) (some (3, 0, 5, [], 215)) none)))) (cond (Nat.ble pc 217) (cond (Nat.ble pc 215) (cond (Nat.beq pc 215) (some (2, 0, 0, [], 216)) none) (cond (Nat.ble pc 216) (cond (Nat.beq pc 216) (some (2, 0, 2, [], 217)) none) (cond (Nat.beq pc 217) (some (1, 0, 5, [], 219)) none))) (cond (Nat.ble pc 219) (cond (Nat.beq pc 219) (some (0, 58, 0, [], 221)) none) (cond (Nat.ble pc 221) (cond (Nat.beq pc 221) (some (40, 73, 106, [], 224)) none) (cond (Nat.beq pc 224) (some (3, 0, 5, [], 226)) none))))) (cond (Nat.ble pc 235) (cond (Nat.ble pc 229) (cond (Nat.ble pc 226) (cond (Nat.beq pc 226) (some (1, 0, 9, [], 228)) none) (cond (Nat.ble pc 228) (cond (Nat.beq pc 228) (some (0, 3, 0, [], 229)) none) (cond (Nat.beq pc 229) (some (16, 3, 263, [], 232)) none))) (cond (Nat.ble pc 232) (cond (Nat.beq pc 232) (some (1, 0, 6, [], 234)) none) (cond (Nat.ble pc 234) (cond (Nat.beq pc 234) (some (0, 4, 0, [], 235)) none) (cond (Nat.beq pc 235) (some (16, 3, 263, [], 238)) none)))) (cond (Nat.ble pc 240) (cond (Nat.ble pc 238) (cond (Nat.beq pc 238) (some (2, 0, 0, [], 239)) none) (cond (Nat.ble pc 239) (cond (Nat.beq pc 239) (some (2, 0, 2, [], 240)) none) (cond (Nat.beq pc 240) (some (1, 0, 5, [], 242)) none))) (cond (Nat.ble pc 244) (cond (Nat.ble pc 242) (cond (Nat.beq pc 242) (some (0, 123, 0, [], 244)) none) (cond (Nat.beq pc 244) (some (40, 73, 106, [], 247)) none)) (cond (Nat.ble pc 247) (cond (Nat.beq pc 247) (some (3, 0, 5, [], 249)) none) (cond (Nat.beq pc 249) (some (2, 0, 2, [], 250)) none))))))) (cond (Nat.ble pc 292) (cond (Nat.ble pc 269) (cond (Nat.ble pc 257) (cond (Nat.ble pc 254) (cond (Nat.ble pc 250) (cond (Nat.beq pc 250) (some (0, 60, 0, [], 252)) none) (cond (Nat.ble pc 252) (cond (Nat.beq pc 252) (some (1, 0, 6, [], 254)) none) (cond (Nat.beq pc 254) (some (6, 0, 0, [], 255)) none))) (cond (Nat.ble pc 255) (cond (Nat.beq pc 255) (some (0, 0, 0, [], 256)) none) (cond (Nat.ble pc 256) (cond (Nat.beq pc 256) (some (26, 0, 0, [], 257)) none) (cond (Nat.beq pc 257) (some (5, 1, 6, [], 260)) none)))) (cond (Nat.ble pc 265) (cond (Nat.ble pc 260) (cond (Nat.beq pc 260) (some (15, 0, 306, [], 263)) none) (cond (Nat.ble pc 263) (cond (Nat.beq pc 263) (some (1, 0, 4, [], 265)) none) (cond (Nat.beq pc 265) (some (0, 25, 0, [], 267)) none))) (cond (Nat.ble pc 267) (cond (Nat.beq pc 267) (some (11, 3, 0, [], 268)) none) (cond (Nat.ble pc 268) (cond (Nat.beq pc 268) (some (0, 3, 0, [], 269)) none) (cond (Nat.beq pc 269) (some (11, 0, 0, [], 270)) none))))) (cond (Nat.ble pc 282) (cond (Nat.ble pc 274) (cond (Nat.ble pc 270) (cond (Nat.beq pc 270) (some (17, 1, 282, [], 273)) none) (cond (Nat.ble pc 273) (cond (Nat.beq pc 273) (some (2, 0, 0, [], 274)) none) (cond (Nat.beq pc 274) (some (0, 32, 0, [], 276)) none))) (cond (Nat.ble pc 276) (cond (Nat.beq pc 276) (some (40, 41, 63, [], 279)) none) (cond (Nat.ble pc 279) (cond (Nat.beq pc 279) (some (15, 0, 283, [], 282)) none) (cond (Nat.beq pc 282) (some (1, 0, 3, [], 283)) none)))) (cond (Nat.ble pc 285) (cond (Nat.ble pc 283) (cond (Nat.beq pc 283) (some (3, 0, 3, [], 284)) none) (cond (Nat.ble pc 284) (cond (Nat.beq pc 284) (some (2, 0, 0, [], 285)) none) (cond (Nat.beq pc 285) (some (2, 0, 2, [], 286)) none))) (cond (Nat.ble pc 288) (cond (Nat.ble pc 286) (cond (Nat.beq pc 286) (some (1, 0, 5, [], 288)) none) (cond (Nat.beq pc 288) (some (0, 48, 0, [], 290)) none)) (cond (Nat.ble pc 290) (cond (Nat.beq pc 290) (some (1, 0, 4, [], 292)) none) (cond (Nat.beq pc 292) (some (0, 8, 0, [], 294)) none)))))) (cond (Nat.ble pc 318) (cond (Nat.ble pc 304) (cond (Nat.ble pc 297) (cond (Nat.ble pc 294) (cond (Nat.beq pc 294) (some (11, 3, 0, [], 295)) none) (cond (Nat.ble pc 295) (cond (Nat.beq pc 295) (some (0, 10, 0, [], 297)) none) (cond (Nat.beq pc 297) (some (40, 78, 102, [], 300)) none))) (cond (Nat.ble pc 300) (cond (Nat.beq pc 300) (some (6, 0, 0, [], 301)) none) (cond (Nat.ble pc 301) (cond (Nat.beq pc 301) (some (40, 73, 106, [], 304)) none) (cond (Nat.beq pc 304) (some (3, 0, 5, [], 306)) none)))) (cond (Nat.ble pc 312) (cond (Nat.ble pc 306) (cond (Nat.beq pc 306) (some (5, 1, 7, [], 309)) none) (cond (Nat.ble pc 309) (cond (Nat.beq pc 309) (some (15, 0, 48, [], 312)) none) (cond (Nat.beq pc 312) (some (1, 0, 6, [], 314)) none))) (cond (Nat.ble pc 314) (cond (Nat.beq pc 314) (some (3, 0, 7, [], 316)) none) (cond (Nat.ble pc 316) (cond (Nat.beq pc 316) (some (1, 0, 7, [], 318)) none) (cond (Nat.beq pc 318) (some (17, 5, 338, [], 321)) none))))) (cond (Nat.ble pc 330) (cond (Nat.ble pc 323) (cond (Nat.ble pc 321) (cond (Nat.beq pc 321) (some (2, 0, 0, [], 322)) none) (cond (Nat.ble pc 322) (cond (Nat.beq pc 322) (some (2, 0, 2, [], 323)) none) (cond (Nat.beq pc 323) (some (1, 0, 5, [], 325)) none))) (cond (Nat.ble pc 325) (cond (Nat.beq pc 325) (some (0, 125, 0, [], 327)) none) (cond (Nat.ble pc 327) (cond (Nat.beq pc 327) (some (40, 73, 106, [], 330)) none) (cond (Nat.beq pc 330) (some (3, 0, 5, [], 332)) none)))) (cond (Nat.ble pc 338) (cond (Nat.ble pc 332) (cond (Nat.beq pc 332) (some (5, (-1), 7, [], 335)) none) (cond (Nat.ble pc 335) (cond (Nat.beq pc 335) (some (15, 0, 316, [], 338)) none) (cond (Nat.beq pc 338) (some (2, 0, 2, [], 339)) none))) (cond (Nat.ble pc 340) (cond (Nat.ble pc 339) (cond (Nat.beq pc 339) (some (0, 0, 0, [], 340)) none) (cond (Nat.beq pc 340) (some (1, 0, 5, [], 342)) none)) (cond (Nat.ble pc 342) (cond (Nat.beq pc 342) (some (26, 0, 0, [], 343)) none) (cond (Nat.beq pc 343) (some (44, 0, 0, [], 344)) none))))))))) none
def qc106 (pc : Nat) : Option qX := cond (Nat.ble pc 21) (cond (Nat.ble pc 7) (cond (Nat.ble pc 3) (cond (Nat.ble pc 1) (cond (Nat.ble pc 0) (cond (Nat.beq pc 0) (some (2, 0, 1, [], 1)) none) (cond (Nat.beq pc 1) (some (1, 0, 2, [], 2)) none)) (cond (Nat.ble pc 2) (cond (Nat.beq pc 2) (some (0, 1, 0, [], 3)) none) (cond (Nat.beq pc 3) (some (6, 0, 0, [], 4)) none))) (cond (Nat.ble pc 5) (cond (Nat.ble pc 4) (cond (Nat.beq pc 4) (some (1, 0, 3, [], 5)) none) (cond (Nat.beq pc 5) (some (26, 0, 0, [], 6)) none)) (cond (Nat.ble pc 6) (cond (Nat.beq pc 6) (some (2, 0, 0, [], 7)) none) (cond (Nat.beq pc 7) (some (1, 0, 3, [], 8)) none)))) (cond (Nat.ble pc 15) (cond (Nat.ble pc 11) (cond (Nat.ble pc 8) (cond (Nat.beq pc 8) (some (40, 41, 63, [], 11)) none) (cond (Nat.beq pc 11) (some (17, 5, 20, [], 14)) none)) (cond (Nat.ble pc 14) (cond (Nat.beq pc 14) (some (1, 0, 2, [], 15)) none) (cond (Nat.beq pc 15) (some (0, 1, 0, [], 16)) none))) (cond (Nat.ble pc 17) (cond (Nat.ble pc 16) (cond (Nat.beq pc 16) (some (6, 0, 0, [], 17)) none) (cond (Nat.beq pc 17) (some (15, 0, 21, [], 20)) none)) (cond (Nat.ble pc 20) (cond (Nat.beq pc 20) (some (1, 0, 2, [], 21)) none) (cond (Nat.beq pc 21) (some (41, 0, 0, [], 22)) none))))) none
def qc107 (pc : Nat) : Option qX := cond (Nat.ble pc 378) (cond (Nat.ble pc 188) (cond (Nat.ble pc 85) (cond (Nat.ble pc 35) (cond (Nat.ble pc 15) (cond (Nat.ble pc 7) (cond (Nat.ble pc 2) (cond (Nat.ble pc 0) (cond (Nat.beq pc 0) (some (2, 0, 0, [], 1)) none) (cond (Nat.ble pc 1) (cond (Nat.beq pc 1) (some (1, 0, 1, [], 2)) none) (cond (Nat.beq pc 2) (some (0, 0, 0, [], 3)) none))) (cond (Nat.ble pc 3) (cond (Nat.beq pc 3) (some (40, 19, 72, [], 6)) none) (cond (Nat.ble pc 6) (cond (Nat.beq pc 6) (some (3, 0, 2, [], 7)) none) (cond (Nat.beq pc 7) (some (2, 0, 0, [], 8)) none)))) (cond (Nat.ble pc 10) (cond (Nat.ble pc 8) (cond (Nat.beq pc 8) (some (1, 0, 1, [], 9)) none) (cond (Nat.ble pc 9) (cond (Nat.beq pc 9) (some (0, 3, 0, [], 10)) none) (cond (Nat.beq pc 10) (some (40, 19, 72, [], 13)) none))) (cond (Nat.ble pc 13) (cond (Nat.beq pc 13) (some (3, 0, 3, [], 14)) none) (cond (Nat.ble pc 14) (cond (Nat.beq pc 14) (some (0, 0, 0, [], 15)) none) (cond (Nat.beq pc 15) (some (3, 0, 4, [], 17)) none))))) (cond (Nat.ble pc 24) (cond (Nat.ble pc 20) (cond (Nat.ble pc 17) (cond (Nat.beq pc 17) (some (0, 0, 0, [], 18)) none) (cond (Nat.ble pc 18) (cond (Nat.beq pc 18) (some (3, 0, 5, [], 20)) none) (cond (Nat.beq pc 20) (some (0, 0, 0, [], 21)) none))) (cond (Nat.ble pc 21) (cond (Nat.beq pc 21) (some (3, 0, 6, [], 23)) none) (cond (Nat.ble pc 23) (cond (Nat.beq pc 23) (some (0, (-1), 0, [], 24)) none) (cond (Nat.beq pc 24) (some (3, 0, 7, [], 26)) none)))) (cond (Nat.ble pc 29) (cond (Nat.ble pc 26) (cond (Nat.beq pc 26) (some (0, 0, 0, [], 27)) none) (cond (Nat.ble pc 27) (cond (Nat.beq pc 27) (some (3, 0, 8, [], 29)) none) (cond (Nat.beq pc 29) (some (0, (-1), 0, [], 30)) none))) (cond (Nat.ble pc 32) (cond (Nat.ble pc 30) (cond (Nat.beq pc 30) (some (3, 0, 9, [], 32)) none) (cond (Nat.beq pc 32) (some (0, 0, 0, [], 33)) none)) (cond (Nat.ble pc 33) (cond (Nat.beq pc 33) (some (3, 0, 10, [], 35)) none) (cond (Nat.beq pc 35) (some (1, 0, 10, [], 37)) none)))))) (cond (Nat.ble pc 59) (cond (Nat.ble pc 45) (cond (Nat.ble pc 41) (cond (Nat.ble pc 37) (cond (Nat.beq pc 37) (some (1, 0, 3, [], 38)) none) (cond (Nat.ble pc 38) (cond (Nat.beq pc 38) (some (16, 3, 275, [], 41)) none) (cond (Nat.beq pc 41) (some (2, 0, 0, [], 42)) none))) (cond (Nat.ble pc 42) (cond (Nat.beq pc 42) (some (1, 0, 1, [], 43)) none) (cond (Nat.ble pc 43) (cond (Nat.beq pc 43) (some (1, 0, 10, [], 45)) none) (cond (Nat.beq pc 45) (some (40, 57, 73, [], 48)) none)))) (cond (Nat.ble pc 52) (cond (Nat.ble pc 48) (cond (Nat.beq pc 48) (some (3, 0, 11, [], 50)) none) (cond (Nat.ble pc 50) (cond (Nat.beq pc 50) (some (1, 0, 11, [], 52)) none) (cond (Nat.beq pc 52) (some (0, 48, 0, [], 54)) none))) (cond (Nat.ble pc 54) (cond (Nat.beq pc 54) (some (16, 2, 93, [], 57)) none) (cond (Nat.ble pc 57) (cond (Nat.beq pc 57) (some (1, 0, 11, [], 59)) none) (cond (Nat.beq pc 59) (some (0, 57, 0, [], 61)) none))))) (cond (Nat.ble pc 73) (cond (Nat.ble pc 66) (cond (Nat.ble pc 61) (cond (Nat.beq pc 61) (some (16, 4, 93, [], 64)) none) (cond (Nat.ble pc 64) (cond (Nat.beq pc 64) (some (1, 0, 7, [], 66)) none) (cond (Nat.beq pc 66) (some (17, 3, 77, [], 69)) none))) (cond (Nat.ble pc 69) (cond (Nat.beq pc 69) (some (1, 0, 11, [], 71)) none) (cond (Nat.ble pc 71) (cond (Nat.beq pc 71) (some (0, 48, 0, [], 73)) none) (cond (Nat.beq pc 73) (some (7, 0, 0, [], 74)) none)))) (cond (Nat.ble pc 79) (cond (Nat.ble pc 74) (cond (Nat.beq pc 74) (some (15, 0, 88, [], 77)) none) (cond (Nat.ble pc 77) (cond (Nat.beq pc 77) (some (0, 10, 0, [], 79)) none) (cond (Nat.beq pc 79) (some (1, 0, 7, [], 81)) none))) (cond (Nat.ble pc 82) (cond (Nat.ble pc 81) (cond (Nat.beq pc 81) (some (8, 0, 0, [], 82)) none) (cond (Nat.beq pc 82) (some (1, 0, 11, [], 84)) none)) (cond (Nat.ble pc 84) (cond (Nat.beq pc 84) (some (6, 0, 0, [], 85)) none) (cond (Nat.beq pc 85) (some (0, 48, 0, [], 87)) none))))))) (cond (Nat.ble pc 134) (cond (Nat.ble pc 110) (cond (Nat.ble pc 98) (cond (Nat.ble pc 90) (cond (Nat.ble pc 87) (cond (Nat.beq pc 87) (some (7, 0, 0, [], 88)) none) (cond (Nat.ble pc 88) (cond (Nat.beq pc 88) (some (3, 0, 7, [], 90)) none) (cond (Nat.beq pc 90) (some (15, 0, 269, [], 93)) none))) (cond (Nat.ble pc 93) (cond (Nat.beq pc 93) (some (5, 1, 8, [], 96)) none) (cond (Nat.ble pc 96) (cond (Nat.beq pc 96) (some (1, 0, 7, [], 98)) none) (cond (Nat.beq pc 98) (some (17, 2, 127, [], 101)) none)))) (cond (Nat.ble pc 105) (cond (Nat.ble pc 101) (cond (Nat.beq pc 101) (some (1, 0, 6, [], 103)) none) (cond (Nat.ble pc 103) (cond (Nat.beq pc 103) (some (1, 0, 7, [], 105)) none) (cond (Nat.beq pc 105) (some (6, 0, 0, [], 106)) none))) (cond (Nat.ble pc 106) (cond (Nat.beq pc 106) (some (3, 0, 6, [], 108)) none) (cond (Nat.ble pc 108) (cond (Nat.beq pc 108) (some (1, 0, 9, [], 110)) none) (cond (Nat.beq pc 110) (some (17, 2, 125, [], 113)) none))))) (cond (Nat.ble pc 122) (cond (Nat.ble pc 115) (cond (Nat.ble pc 113) (cond (Nat.beq pc 113) (some (2, 0, 0, [], 114)) none) (cond (Nat.ble pc 114) (cond (Nat.beq pc 114) (some (1, 0, 1, [], 115)) none) (cond (Nat.beq pc 115) (some (1, 0, 9, [], 117)) none))) (cond (Nat.ble pc 117) (cond (Nat.beq pc 117) (some (40, 23, 74, [], 120)) none) (cond (Nat.ble pc 120) (cond (Nat.beq pc 120) (some (1, 0, 7, [], 122)) none) (cond (Nat.beq pc 122) (some (16, 0, 127, [], 125)) none)))) (cond (Nat.ble pc 127) (cond (Nat.ble pc 125) (cond (Nat.beq pc 125) (some (0, 0, 0, [], 126)) none) (cond (Nat.ble pc 126) (cond (Nat.beq pc 126) (some (42, 0, 0, [], 127)) none) (cond (Nat.beq pc 127) (some (0, (-1), 0, [], 128)) none))) (cond (Nat.ble pc 130) (cond (Nat.ble pc 128) (cond (Nat.beq pc 128) (some (3, 0, 7, [], 130)) none) (cond (Nat.beq pc 130) (some (1, 0, 5, [], 132)) none)) (cond (Nat.ble pc 132) (cond (Nat.beq pc 132) (some (1, 0, 11, [], 134)) none) (cond (Nat.beq pc 134) (some (0, 123, 0, [], 136)) none)))))) (cond (Nat.ble pc 160) (cond (Nat.ble pc 147) (cond (Nat.ble pc 140) (cond (Nat.ble pc 136) (cond (Nat.beq pc 136) (some (16, 1, 143, [], 139)) none) (cond (Nat.ble pc 139) (cond (Nat.beq pc 139) (some (0, 1, 0, [], 140)) none) (cond (Nat.beq pc 140) (some (15, 0, 155, [], 143)) none))) (cond (Nat.ble pc 143) (cond (Nat.beq pc 143) (some (1, 0, 11, [], 145)) none) (cond (Nat.ble pc 145) (cond (Nat.beq pc 145) (some (0, 125, 0, [], 147)) none) (cond (Nat.beq pc 147) (some (16, 1, 154, [], 150)) none)))) (cond (Nat.ble pc 154) (cond (Nat.ble pc 150) (cond (Nat.beq pc 150) (some (0, (-1), 0, [], 151)) none) (cond (Nat.ble pc 151) (cond (Nat.beq pc 151) (some (15, 0, 155, [], 154)) none) (cond (Nat.beq pc 154) (some (0, 0, 0, [], 155)) none))) (cond (Nat.ble pc 156) (cond (Nat.ble pc 155) (cond (Nat.beq pc 155) (some (6, 0, 0, [], 156)) none) (cond (Nat.beq pc 156) (some (3, 0, 5, [], 158)) none)) (cond (Nat.ble pc 158) (cond (Nat.beq pc 158) (some (1, 0, 11, [], 160)) none) (cond (Nat.beq pc 160) (some (0, 97, 0, [], 162)) none))))) (cond (Nat.ble pc 173) (cond (Nat.ble pc 167) (cond (Nat.ble pc 162) (cond (Nat.beq pc 162) (some (16, 2, 243, [], 165)) none) (cond (Nat.ble pc 165) (cond (Nat.beq pc 165) (some (1, 0, 11, [], 167)) none) (cond (Nat.beq pc 167) (some (0, 122, 0, [], 169)) none))) (cond (Nat.ble pc 169) (cond (Nat.beq pc 169) (some (16, 4, 243, [], 172)) none) (cond (Nat.ble pc 172) (cond (Nat.beq pc 172) (some (2, 0, 0, [], 173)) none) (cond (Nat.beq pc 173) (some (1, 0, 2, [], 174)) none)))) (cond (Nat.ble pc 179) (cond (Nat.ble pc 174) (cond (Nat.beq pc 174) (some (1, 0, 4, [], 176)) none) (cond (Nat.ble pc 176) (cond (Nat.beq pc 176) (some (40, 32, 78, [], 179)) none) (cond (Nat.beq pc 179) (some (3, 0, 12, [], 181)) none))) (cond (Nat.ble pc 183) (cond (Nat.ble pc 181) (cond (Nat.beq pc 181) (some (1, 0, 12, [], 183)) none) (cond (Nat.beq pc 183) (some (0, 100, 0, [], 185)) none)) (cond (Nat.ble pc 185) (cond (Nat.beq pc 185) (some (16, 3, 193, [], 188)) none) (cond (Nat.beq pc 188) (some (1, 0, 12, [], 190)) none)))))))) (cond (Nat.ble pc 288) (cond (Nat.ble pc 238) (cond (Nat.ble pc 211) (cond (Nat.ble pc 201) (cond (Nat.ble pc 194) (cond (Nat.ble pc 190) (cond (Nat.beq pc 190) (some (15, 0, 194, [], 193)) none) (cond (Nat.ble pc 193) (cond (Nat.beq pc 193) (some (0, (-1), 0, [], 194)) none) (cond (Nat.beq pc 194) (some (3, 0, 9, [], 196)) none))) (cond (Nat.ble pc 196) (cond (Nat.beq pc 196) (some (1, 0, 12, [], 198)) none) (cond (Nat.ble pc 198) (cond (Nat.beq pc 198) (some (17, 2, 238, [], 201)) none) (cond (Nat.beq pc 201) (some (2, 0, 0, [], 202)) none)))) (cond (Nat.ble pc 206) (cond (Nat.ble pc 202) (cond (Nat.beq pc 202) (some (1, 0, 12, [], 204)) none) (cond (Nat.ble pc 204) (cond (Nat.beq pc 204) (some (0, 100, 0, [], 206)) none) (cond (Nat.beq pc 206) (some (10, 0, 0, [], 207)) none))) (cond (Nat.ble pc 207) (cond (Nat.beq pc 207) (some (0, 0, 0, [], 208)) none) (cond (Nat.ble pc 208) (cond (Nat.beq pc 208) (some (40, 26, 75, [], 211)) none) (cond (Nat.beq pc 211) (some (1, 0, 11, [], 213)) none))))) (cond (Nat.ble pc 224) (cond (Nat.ble pc 218) (cond (Nat.ble pc 213) (cond (Nat.beq pc 213) (some (16, 1, 238, [], 216)) none) (cond (Nat.ble pc 216) (cond (Nat.beq pc 216) (some (1, 0, 12, [], 218)) none) (cond (Nat.beq pc 218) (some (0, 100, 0, [], 220)) none))) (cond (Nat.ble pc 220) (cond (Nat.beq pc 220) (some (16, 2, 240, [], 223)) none) (cond (Nat.ble pc 223) (cond (Nat.beq pc 223) (some (2, 0, 0, [], 224)) none) (cond (Nat.beq pc 224) (some (1, 0, 1, [], 225)) none)))) (cond (Nat.ble pc 229) (cond (Nat.ble pc 225) (cond (Nat.beq pc 225) (some (1, 0, 12, [], 227)) none) (cond (Nat.ble pc 227) (cond (Nat.beq pc 227) (some (0, 100, 0, [], 229)) none) (cond (Nat.beq pc 229) (some (7, 0, 0, [], 230)) none))) (cond (Nat.ble pc 233) (cond (Nat.ble pc 230) (cond (Nat.beq pc 230) (some (40, 23, 74, [], 233)) none) (cond (Nat.beq pc 233) (some (0, (-9), 0, [], 235)) none)) (cond (Nat.ble pc 235) (cond (Nat.beq pc 235) (some (16, 0, 240, [], 238)) none) (cond (Nat.beq pc 238) (some (0, 0, 0, [], 239)) none)))))) (cond (Nat.ble pc 263) (cond (Nat.ble pc 250) (cond (Nat.ble pc 243) (cond (Nat.ble pc 239) (cond (Nat.beq pc 239) (some (42, 0, 0, [], 240)) none) (cond (Nat.ble pc 240) (cond (Nat.beq pc 240) (some (5, 1, 4, [], 243)) none) (cond (Nat.beq pc 243) (some (1, 0, 5, [], 245)) none))) (cond (Nat.ble pc 245) (cond (Nat.beq pc 245) (some (17, 2, 267, [], 248)) none) (cond (Nat.ble pc 248) (cond (Nat.beq pc 248) (some (1, 0, 5, [], 250)) none) (cond (Nat.beq pc 250) (some (0, 4, 0, [], 251)) none)))) (cond (Nat.ble pc 256) (cond (Nat.ble pc 251) (cond (Nat.beq pc 251) (some (16, 4, 267, [], 254)) none) (cond (Nat.ble pc 254) (cond (Nat.beq pc 254) (some (1, 0, 5, [], 256)) none) (cond (Nat.beq pc 256) (some (17, 1, 269, [], 259)) none))) (cond (Nat.ble pc 261) (cond (Nat.ble pc 259) (cond (Nat.beq pc 259) (some (1, 0, 10, [], 261)) none) (cond (Nat.beq pc 261) (some (1, 0, 3, [], 262)) none)) (cond (Nat.ble pc 262) (cond (Nat.beq pc 262) (some (0, 1, 0, [], 263)) none) (cond (Nat.beq pc 263) (some (7, 0, 0, [], 264)) none))))) (cond (Nat.ble pc 275) (cond (Nat.ble pc 268) (cond (Nat.ble pc 264) (cond (Nat.beq pc 264) (some (16, 3, 269, [], 267)) none) (cond (Nat.ble pc 267) (cond (Nat.beq pc 267) (some (0, 0, 0, [], 268)) none) (cond (Nat.beq pc 268) (some (42, 0, 0, [], 269)) none))) (cond (Nat.ble pc 269) (cond (Nat.beq pc 269) (some (5, 1, 10, [], 272)) none) (cond (Nat.ble pc 272) (cond (Nat.beq pc 272) (some (15, 0, 35, [], 275)) none) (cond (Nat.beq pc 275) (some (1, 0, 5, [], 277)) none)))) (cond (Nat.ble pc 281) (cond (Nat.ble pc 277) (cond (Nat.beq pc 277) (some (17, 1, 377, [], 280)) none) (cond (Nat.ble pc 280) (cond (Nat.beq pc 280) (some (2, 0, 0, [], 281)) none) (cond (Nat.beq pc 281) (some (1, 0, 1, [], 282)) none))) (cond (Nat.ble pc 283) (cond (Nat.ble pc 282) (cond (Nat.beq pc 282) (some (1, 0, 3, [], 283)) none) (cond (Nat.beq pc 283) (some (40, 57, 73, [], 286)) none)) (cond (Nat.ble pc 286) (cond (Nat.beq pc 286) (some (0, (-9), 0, [], 288)) none) (cond (Nat.beq pc 288) (some (16, 1, 377, [], 291)) none))))))) (cond (Nat.ble pc 332) (cond (Nat.ble pc 309) (cond (Nat.ble pc 299) (cond (Nat.ble pc 294) (cond (Nat.ble pc 291) (cond (Nat.beq pc 291) (some (1, 0, 4, [], 293)) none) (cond (Nat.ble pc 293) (cond (Nat.beq pc 293) (some (2, 0, 0, [], 294)) none) (cond (Nat.beq pc 294) (some (1, 0, 1, [], 295)) none))) (cond (Nat.ble pc 295) (cond (Nat.beq pc 295) (some (0, 1, 0, [], 296)) none) (cond (Nat.ble pc 296) (cond (Nat.beq pc 296) (some (40, 19, 72, [], 299)) none) (cond (Nat.beq pc 299) (some (2, 0, 0, [], 300)) none)))) (cond (Nat.ble pc 302) (cond (Nat.ble pc 300) (cond (Nat.beq pc 300) (some (1, 0, 1, [], 301)) none) (cond (Nat.ble pc 301) (cond (Nat.beq pc 301) (some (0, 2, 0, [], 302)) none) (cond (Nat.beq pc 302) (some (40, 19, 72, [], 305)) none))) (cond (Nat.ble pc 305) (cond (Nat.beq pc 305) (some (6, 0, 0, [], 306)) none) (cond (Nat.ble pc 306) (cond (Nat.beq pc 306) (some (16, 1, 377, [], 309)) none) (cond (Nat.beq pc 309) (some (1, 0, 6, [], 311)) none))))) (cond (Nat.ble pc 320) (cond (Nat.ble pc 313) (cond (Nat.ble pc 311) (cond (Nat.beq pc 311) (some (2, 0, 0, [], 312)) none) (cond (Nat.ble pc 312) (cond (Nat.beq pc 312) (some (1, 0, 1, [], 313)) none) (cond (Nat.beq pc 313) (some (0, 4, 0, [], 314)) none))) (cond (Nat.ble pc 314) (cond (Nat.beq pc 314) (some (40, 19, 72, [], 317)) none) (cond (Nat.ble pc 317) (cond (Nat.beq pc 317) (some (16, 1, 377, [], 320)) none) (cond (Nat.beq pc 320) (some (1, 0, 8, [], 322)) none)))) (cond (Nat.ble pc 324) (cond (Nat.ble pc 322) (cond (Nat.beq pc 322) (some (2, 0, 0, [], 323)) none) (cond (Nat.ble pc 323) (cond (Nat.beq pc 323) (some (1, 0, 2, [], 324)) none) (cond (Nat.beq pc 324) (some (0, 4, 0, [], 325)) none))) (cond (Nat.ble pc 328) (cond (Nat.ble pc 325) (cond (Nat.beq pc 325) (some (40, 29, 76, [], 328)) none) (cond (Nat.beq pc 328) (some (16, 1, 377, [], 331)) none)) (cond (Nat.ble pc 331) (cond (Nat.beq pc 331) (some (2, 0, 0, [], 332)) none) (cond (Nat.beq pc 332) (some (1, 0, 1, [], 333)) none)))))) (cond (Nat.ble pc 353) (cond (Nat.ble pc 340) (cond (Nat.ble pc 337) (cond (Nat.ble pc 333) (cond (Nat.beq pc 333) (some (0, 1, 0, [], 334)) none) (cond (Nat.ble pc 334) (cond (Nat.beq pc 334) (some (40, 19, 72, [], 337)) none) (cond (Nat.beq pc 337) (some (2, 0, 0, [], 338)) none))) (cond (Nat.ble pc 338) (cond (Nat.beq pc 338) (some (1, 0, 2, [], 339)) none) (cond (Nat.ble pc 339) (cond (Nat.beq pc 339) (some (0, 2, 0, [], 340)) none) (cond (Nat.beq pc 340) (some (40, 29, 76, [], 343)) none)))) (cond (Nat.ble pc 347) (cond (Nat.ble pc 343) (cond (Nat.beq pc 343) (some (16, 1, 377, [], 346)) none) (cond (Nat.ble pc 346) (cond (Nat.beq pc 346) (some (2, 0, 0, [], 347)) none) (cond (Nat.beq pc 347) (some (1, 0, 1, [], 348)) none))) (cond (Nat.ble pc 349) (cond (Nat.ble pc 348) (cond (Nat.beq pc 348) (some (0, 2, 0, [], 349)) none) (cond (Nat.beq pc 349) (some (40, 19, 72, [], 352)) none)) (cond (Nat.ble pc 352) (cond (Nat.beq pc 352) (some (2, 0, 0, [], 353)) none) (cond (Nat.beq pc 353) (some (1, 0, 2, [], 354)) none))))) (cond (Nat.ble pc 363) (cond (Nat.ble pc 358) (cond (Nat.ble pc 354) (cond (Nat.beq pc 354) (some (0, 3, 0, [], 355)) none) (cond (Nat.ble pc 355) (cond (Nat.beq pc 355) (some (40, 29, 76, [], 358)) none) (cond (Nat.beq pc 358) (some (16, 1, 377, [], 361)) none))) (cond (Nat.ble pc 361) (cond (Nat.beq pc 361) (some (2, 0, 0, [], 362)) none) (cond (Nat.ble pc 362) (cond (Nat.beq pc 362) (some (1, 0, 2, [], 363)) none) (cond (Nat.beq pc 363) (some (1, 0, 4, [], 365)) none)))) (cond (Nat.ble pc 370) (cond (Nat.ble pc 365) (cond (Nat.beq pc 365) (some (40, 32, 78, [], 368)) none) (cond (Nat.ble pc 368) (cond (Nat.beq pc 368) (some (0, (-9), 0, [], 370)) none) (cond (Nat.beq pc 370) (some (16, 1, 377, [], 373)) none))) (cond (Nat.ble pc 374) (cond (Nat.ble pc 373) (cond (Nat.beq pc 373) (some (0, 1, 0, [], 374)) none) (cond (Nat.beq pc 374) (some (15, 0, 378, [], 377)) none)) (cond (Nat.ble pc 377) (cond (Nat.beq pc 377) (some (0, 0, 0, [], 378)) none) (cond (Nat.beq pc 378) (some (42, 0, 0, [], 379)) none))))))))) none
def qc108 (pc : Nat) : Option qX := cond (Nat.ble pc 439) (cond (Nat.ble pc 204) (cond (Nat.ble pc 104) (cond (Nat.ble pc 43) (cond (Nat.ble pc 18) (cond (Nat.ble pc 9) (cond (Nat.ble pc 3) (cond (Nat.ble pc 0) (cond (Nat.beq pc 0) (some (2, 0, 0, [], 1)) none) (cond (Nat.ble pc 1) (cond (Nat.beq pc 1) (some (0, 7, 0, [], 3)) none) (cond (Nat.beq pc 3) (some (40, 13, 71, [], 6)) none))) (cond (Nat.ble pc 7) (cond (Nat.ble pc 6) (cond (Nat.beq pc 6) (some (3, 0, 1, [], 7)) none) (cond (Nat.beq pc 7) (some (0, 0, 0, [], 8)) none)) (cond (Nat.ble pc 8) (cond (Nat.beq pc 8) (some (3, 0, 2, [], 9)) none) (cond (Nat.beq pc 9) (some (0, 0, 0, [], 10)) none)))) (cond (Nat.ble pc 12) (cond (Nat.ble pc 10) (cond (Nat.beq pc 10) (some (3, 0, 3, [], 11)) none) (cond (Nat.ble pc 11) (cond (Nat.beq pc 11) (some (0, 0, 0, [], 12)) none) (cond (Nat.beq pc 12) (some (3, 0, 4, [], 14)) none))) (cond (Nat.ble pc 15) (cond (Nat.ble pc 14) (cond (Nat.beq pc 14) (some (0, 0, 0, [], 15)) none) (cond (Nat.beq pc 15) (some (3, 0, 5, [], 17)) none)) (cond (Nat.ble pc 17) (cond (Nat.beq pc 17) (some (0, 0, 0, [], 18)) none) (cond (Nat.beq pc 18) (some (3, 0, 6, [], 20)) none))))) (cond (Nat.ble pc 31) (cond (Nat.ble pc 23) (cond (Nat.ble pc 20) (cond (Nat.beq pc 20) (some (1, 0, 6, [], 22)) none) (cond (Nat.ble pc 22) (cond (Nat.beq pc 22) (some (2, 0, 0, [], 23)) none) (cond (Nat.beq pc 23) (some (0, 3, 0, [], 24)) none))) (cond (Nat.ble pc 27) (cond (Nat.ble pc 24) (cond (Nat.beq pc 24) (some (40, 13, 71, [], 27)) none) (cond (Nat.beq pc 27) (some (16, 3, 324, [], 30)) none)) (cond (Nat.ble pc 30) (cond (Nat.beq pc 30) (some (0, 0, 0, [], 31)) none) (cond (Nat.beq pc 31) (some (3, 0, 7, [], 33)) none)))) (cond (Nat.ble pc 37) (cond (Nat.ble pc 34) (cond (Nat.ble pc 33) (cond (Nat.beq pc 33) (some (0, (-1), 0, [], 34)) none) (cond (Nat.beq pc 34) (some (3, 0, 8, [], 36)) none)) (cond (Nat.ble pc 36) (cond (Nat.beq pc 36) (some (0, 0, 0, [], 37)) none) (cond (Nat.beq pc 37) (some (3, 0, 9, [], 39)) none))) (cond (Nat.ble pc 41) (cond (Nat.ble pc 39) (cond (Nat.beq pc 39) (some (1, 0, 9, [], 41)) none) (cond (Nat.beq pc 41) (some (2, 0, 0, [], 42)) none)) (cond (Nat.ble pc 42) (cond (Nat.beq pc 42) (some (0, 1, 0, [], 43)) none) (cond (Nat.beq pc 43) (some (40, 13, 71, [], 46)) none)))))) (cond (Nat.ble pc 75) (cond (Nat.ble pc 58) (cond (Nat.ble pc 50) (cond (Nat.ble pc 46) (cond (Nat.beq pc 46) (some (16, 3, 103, [], 49)) none) (cond (Nat.ble pc 49) (cond (Nat.beq pc 49) (some (2, 0, 0, [], 50)) none) (cond (Nat.beq pc 50) (some (1, 0, 9, [], 52)) none))) (cond (Nat.ble pc 53) (cond (Nat.ble pc 52) (cond (Nat.beq pc 52) (some (0, 0, 0, [], 53)) none) (cond (Nat.beq pc 53) (some (40, 19, 72, [], 56)) none)) (cond (Nat.ble pc 56) (cond (Nat.beq pc 56) (some (1, 0, 6, [], 58)) none) (cond (Nat.beq pc 58) (some (16, 1, 71, [], 61)) none)))) (cond (Nat.ble pc 66) (cond (Nat.ble pc 61) (cond (Nat.beq pc 61) (some (1, 0, 8, [], 63)) none) (cond (Nat.ble pc 63) (cond (Nat.beq pc 63) (some (17, 3, 71, [], 66)) none) (cond (Nat.beq pc 66) (some (1, 0, 9, [], 68)) none))) (cond (Nat.ble pc 71) (cond (Nat.ble pc 68) (cond (Nat.beq pc 68) (some (15, 0, 73, [], 71)) none) (cond (Nat.beq pc 71) (some (1, 0, 8, [], 73)) none)) (cond (Nat.ble pc 73) (cond (Nat.beq pc 73) (some (3, 0, 8, [], 75)) none) (cond (Nat.beq pc 75) (some (1, 0, 7, [], 77)) none))))) (cond (Nat.ble pc 89) (cond (Nat.ble pc 80) (cond (Nat.ble pc 77) (cond (Nat.beq pc 77) (some (2, 0, 0, [], 78)) none) (cond (Nat.ble pc 78) (cond (Nat.beq pc 78) (some (1, 0, 9, [], 80)) none) (cond (Nat.beq pc 80) (some (0, 0, 0, [], 81)) none))) (cond (Nat.ble pc 84) (cond (Nat.ble pc 81) (cond (Nat.beq pc 81) (some (40, 19, 72, [], 84)) none) (cond (Nat.beq pc 84) (some (1, 0, 6, [], 86)) none)) (cond (Nat.ble pc 86) (cond (Nat.beq pc 86) (some (16, 1, 93, [], 89)) none) (cond (Nat.beq pc 89) (some (0, 1, 0, [], 90)) none)))) (cond (Nat.ble pc 95) (cond (Nat.ble pc 93) (cond (Nat.ble pc 90) (cond (Nat.beq pc 90) (some (15, 0, 94, [], 93)) none) (cond (Nat.beq pc 93) (some (0, 0, 0, [], 94)) none)) (cond (Nat.ble pc 94) (cond (Nat.beq pc 94) (some (6, 0, 0, [], 95)) none) (cond (Nat.beq pc 95) (some (3, 0, 7, [], 97)) none))) (cond (Nat.ble pc 100) (cond (Nat.ble pc 97) (cond (Nat.beq pc 97) (some (5, 1, 9, [], 100)) none) (cond (Nat.beq pc 100) (some (15, 0, 39, [], 103)) none)) (cond (Nat.ble pc 103) (cond (Nat.beq pc 103) (some (2, 0, 0, [], 104)) none) (cond (Nat.beq pc 104) (some (1, 0, 6, [], 106)) none))))))) (cond (Nat.ble pc 154) (cond (Nat.ble pc 131) (cond (Nat.ble pc 116) (cond (Nat.ble pc 110) (cond (Nat.ble pc 106) (cond (Nat.beq pc 106) (some (0, 2, 0, [], 107)) none) (cond (Nat.ble pc 107) (cond (Nat.beq pc 107) (some (40, 29, 76, [], 110)) none) (cond (Nat.beq pc 110) (some (3, 0, 9, [], 112)) none))) (cond (Nat.ble pc 113) (cond (Nat.ble pc 112) (cond (Nat.beq pc 112) (some (2, 0, 0, [], 113)) none) (cond (Nat.beq pc 113) (some (1, 0, 6, [], 115)) none)) (cond (Nat.ble pc 115) (cond (Nat.beq pc 115) (some (0, 3, 0, [], 116)) none) (cond (Nat.beq pc 116) (some (40, 29, 76, [], 119)) none)))) (cond (Nat.ble pc 123) (cond (Nat.ble pc 119) (cond (Nat.beq pc 119) (some (3, 0, 10, [], 121)) none) (cond (Nat.ble pc 121) (cond (Nat.beq pc 121) (some (1, 0, 7, [], 123)) none) (cond (Nat.beq pc 123) (some (1, 0, 1, [], 124)) none))) (cond (Nat.ble pc 127) (cond (Nat.ble pc 124) (cond (Nat.beq pc 124) (some (16, 2, 131, [], 127)) none) (cond (Nat.beq pc 127) (some (0, 1, 0, [], 128)) none)) (cond (Nat.ble pc 128) (cond (Nat.beq pc 128) (some (15, 0, 132, [], 131)) none) (cond (Nat.beq pc 131) (some (0, 0, 0, [], 132)) none))))) (cond (Nat.ble pc 140) (cond (Nat.ble pc 135) (cond (Nat.ble pc 132) (cond (Nat.beq pc 132) (some (3, 0, 11, [], 134)) none) (cond (Nat.ble pc 134) (cond (Nat.beq pc 134) (some (1, 0, 2, [], 135)) none) (cond (Nat.beq pc 135) (some (1, 0, 7, [], 137)) none))) (cond (Nat.ble pc 138) (cond (Nat.ble pc 137) (cond (Nat.beq pc 137) (some (6, 0, 0, [], 138)) none) (cond (Nat.beq pc 138) (some (3, 0, 2, [], 139)) none)) (cond (Nat.ble pc 139) (cond (Nat.beq pc 139) (some (1, 0, 3, [], 140)) none) (cond (Nat.beq pc 140) (some (1, 0, 11, [], 142)) none)))) (cond (Nat.ble pc 149) (cond (Nat.ble pc 145) (cond (Nat.ble pc 142) (cond (Nat.beq pc 142) (some (17, 0, 149, [], 145)) none) (cond (Nat.beq pc 145) (some (0, 1, 0, [], 146)) none)) (cond (Nat.ble pc 146) (cond (Nat.beq pc 146) (some (15, 0, 150, [], 149)) none) (cond (Nat.beq pc 149) (some (0, 0, 0, [], 150)) none))) (cond (Nat.ble pc 151) (cond (Nat.ble pc 150) (cond (Nat.beq pc 150) (some (6, 0, 0, [], 151)) none) (cond (Nat.beq pc 151) (some (3, 0, 3, [], 152)) none)) (cond (Nat.ble pc 152) (cond (Nat.beq pc 152) (some (1, 0, 4, [], 154)) none) (cond (Nat.beq pc 154) (some (1, 0, 11, [], 156)) none)))))) (cond (Nat.ble pc 181) (cond (Nat.ble pc 168) (cond (Nat.ble pc 160) (cond (Nat.ble pc 156) (cond (Nat.beq pc 156) (some (17, 0, 163, [], 159)) none) (cond (Nat.ble pc 159) (cond (Nat.beq pc 159) (some (0, 0, 0, [], 160)) none) (cond (Nat.beq pc 160) (some (15, 0, 165, [], 163)) none))) (cond (Nat.ble pc 165) (cond (Nat.ble pc 163) (cond (Nat.beq pc 163) (some (1, 0, 7, [], 165)) none) (cond (Nat.beq pc 165) (some (6, 0, 0, [], 166)) none)) (cond (Nat.ble pc 166) (cond (Nat.beq pc 166) (some (3, 0, 4, [], 168)) none) (cond (Nat.beq pc 168) (some (1, 0, 5, [], 170)) none)))) (cond (Nat.ble pc 174) (cond (Nat.ble pc 170) (cond (Nat.beq pc 170) (some (1, 0, 7, [], 172)) none) (cond (Nat.ble pc 172) (cond (Nat.beq pc 172) (some (1, 0, 11, [], 174)) none) (cond (Nat.beq pc 174) (some (17, 0, 193, [], 177)) none))) (cond (Nat.ble pc 178) (cond (Nat.ble pc 177) (cond (Nat.beq pc 177) (some (0, 1, 0, [], 178)) none) (cond (Nat.beq pc 178) (some (1, 0, 9, [], 180)) none)) (cond (Nat.ble pc 180) (cond (Nat.beq pc 180) (some (6, 0, 0, [], 181)) none) (cond (Nat.beq pc 181) (some (1, 0, 10, [], 183)) none))))) (cond (Nat.ble pc 193) (cond (Nat.ble pc 186) (cond (Nat.ble pc 183) (cond (Nat.beq pc 183) (some (6, 0, 0, [], 184)) none) (cond (Nat.ble pc 184) (cond (Nat.beq pc 184) (some (1, 0, 7, [], 186)) none) (cond (Nat.beq pc 186) (some (1, 0, 9, [], 188)) none))) (cond (Nat.ble pc 189) (cond (Nat.ble pc 188) (cond (Nat.beq pc 188) (some (8, 0, 0, [], 189)) none) (cond (Nat.beq pc 189) (some (6, 0, 0, [], 190)) none)) (cond (Nat.ble pc 190) (cond (Nat.beq pc 190) (some (15, 0, 203, [], 193)) none) (cond (Nat.beq pc 193) (some (1, 0, 7, [], 195)) none)))) (cond (Nat.ble pc 199) (cond (Nat.ble pc 196) (cond (Nat.ble pc 195) (cond (Nat.beq pc 195) (some (0, 2, 0, [], 196)) none) (cond (Nat.beq pc 196) (some (1, 0, 9, [], 198)) none)) (cond (Nat.ble pc 198) (cond (Nat.beq pc 198) (some (8, 0, 0, [], 199)) none) (cond (Nat.beq pc 199) (some (1, 0, 10, [], 201)) none))) (cond (Nat.ble pc 202) (cond (Nat.ble pc 201) (cond (Nat.beq pc 201) (some (6, 0, 0, [], 202)) none) (cond (Nat.beq pc 202) (some (8, 0, 0, [], 203)) none)) (cond (Nat.ble pc 203) (cond (Nat.beq pc 203) (some (6, 0, 0, [], 204)) none) (cond (Nat.beq pc 204) (some (6, 0, 0, [], 205)) none)))))))) (cond (Nat.ble pc 321) (cond (Nat.ble pc 262) (cond (Nat.ble pc 231) (cond (Nat.ble pc 216) (cond (Nat.ble pc 208) (cond (Nat.ble pc 205) (cond (Nat.beq pc 205) (some (3, 0, 5, [], 207)) none) (cond (Nat.ble pc 207) (cond (Nat.beq pc 207) (some (2, 0, 0, [], 208)) none) (cond (Nat.beq pc 208) (some (1, 0, 6, [], 210)) none))) (cond (Nat.ble pc 211) (cond (Nat.ble pc 210) (cond (Nat.beq pc 210) (some (0, 0, 0, [], 211)) none) (cond (Nat.beq pc 211) (some (40, 29, 76, [], 214)) none)) (cond (Nat.ble pc 214) (cond (Nat.beq pc 214) (some (1, 0, 7, [], 216)) none) (cond (Nat.beq pc 216) (some (16, 1, 316, [], 219)) none)))) (cond (Nat.ble pc 222) (cond (Nat.ble pc 219) (cond (Nat.beq pc 219) (some (2, 0, 0, [], 220)) none) (cond (Nat.ble pc 220) (cond (Nat.beq pc 220) (some (1, 0, 6, [], 222)) none) (cond (Nat.beq pc 222) (some (0, 1, 0, [], 223)) none))) (cond (Nat.ble pc 226) (cond (Nat.ble pc 223) (cond (Nat.beq pc 223) (some (40, 29, 76, [], 226)) none) (cond (Nat.beq pc 226) (some (1, 0, 11, [], 228)) none)) (cond (Nat.ble pc 228) (cond (Nat.beq pc 228) (some (17, 0, 235, [], 231)) none) (cond (Nat.beq pc 231) (some (0, 1, 0, [], 232)) none))))) (cond (Nat.ble pc 243) (cond (Nat.ble pc 236) (cond (Nat.ble pc 232) (cond (Nat.beq pc 232) (some (15, 0, 236, [], 235)) none) (cond (Nat.ble pc 235) (cond (Nat.beq pc 235) (some (0, 0, 0, [], 236)) none) (cond (Nat.beq pc 236) (some (16, 1, 316, [], 239)) none))) (cond (Nat.ble pc 240) (cond (Nat.ble pc 239) (cond (Nat.beq pc 239) (some (2, 0, 0, [], 240)) none) (cond (Nat.beq pc 240) (some (1, 0, 6, [], 242)) none)) (cond (Nat.ble pc 242) (cond (Nat.beq pc 242) (some (0, 0, 0, [], 243)) none) (cond (Nat.beq pc 243) (some (0, 0, 0, [], 244)) none)))) (cond (Nat.ble pc 252) (cond (Nat.ble pc 247) (cond (Nat.ble pc 244) (cond (Nat.beq pc 244) (some (40, 60, 77, [], 247)) none) (cond (Nat.beq pc 247) (some (1, 0, 11, [], 249)) none)) (cond (Nat.ble pc 249) (cond (Nat.beq pc 249) (some (17, 1, 257, [], 252)) none) (cond (Nat.beq pc 252) (some (0, (-2), 0, [], 254)) none))) (cond (Nat.ble pc 257) (cond (Nat.ble pc 254) (cond (Nat.beq pc 254) (some (15, 0, 280, [], 257)) none) (cond (Nat.beq pc 257) (some (1, 0, 9, [], 259)) none)) (cond (Nat.ble pc 259) (cond (Nat.beq pc 259) (some (17, 1, 267, [], 262)) none) (cond (Nat.beq pc 262) (some (0, (-9), 0, [], 264)) none)))))) (cond (Nat.ble pc 291) (cond (Nat.ble pc 274) (cond (Nat.ble pc 268) (cond (Nat.ble pc 264) (cond (Nat.beq pc 264) (some (15, 0, 280, [], 267)) none) (cond (Nat.ble pc 267) (cond (Nat.beq pc 267) (some (2, 0, 0, [], 268)) none) (cond (Nat.beq pc 268) (some (1, 0, 8, [], 270)) none))) (cond (Nat.ble pc 271) (cond (Nat.ble pc 270) (cond (Nat.beq pc 270) (some (2, 0, 0, [], 271)) none) (cond (Nat.beq pc 271) (some (1, 0, 6, [], 273)) none)) (cond (Nat.ble pc 273) (cond (Nat.beq pc 273) (some (0, 0, 0, [], 274)) none) (cond (Nat.beq pc 274) (some (40, 81, 109, [], 277)) none)))) (cond (Nat.ble pc 283) (cond (Nat.ble pc 277) (cond (Nat.beq pc 277) (some (40, 23, 74, [], 280)) none) (cond (Nat.ble pc 280) (cond (Nat.beq pc 280) (some (16, 1, 316, [], 283)) none) (cond (Nat.beq pc 283) (some (1, 0, 11, [], 285)) none))) (cond (Nat.ble pc 288) (cond (Nat.ble pc 285) (cond (Nat.beq pc 285) (some (17, 0, 318, [], 288)) none) (cond (Nat.beq pc 288) (some (2, 0, 0, [], 289)) none)) (cond (Nat.ble pc 289) (cond (Nat.beq pc 289) (some (1, 0, 6, [], 291)) none) (cond (Nat.beq pc 291) (some (1, 0, 9, [], 293)) none))))) (cond (Nat.ble pc 305) (cond (Nat.ble pc 297) (cond (Nat.ble pc 293) (cond (Nat.beq pc 293) (some (0, 0, 0, [], 294)) none) (cond (Nat.ble pc 294) (cond (Nat.beq pc 294) (some (40, 60, 77, [], 297)) none) (cond (Nat.beq pc 297) (some (0, (-9), 0, [], 299)) none))) (cond (Nat.ble pc 302) (cond (Nat.ble pc 299) (cond (Nat.beq pc 299) (some (16, 1, 316, [], 302)) none) (cond (Nat.beq pc 302) (some (2, 0, 0, [], 303)) none)) (cond (Nat.ble pc 303) (cond (Nat.beq pc 303) (some (1, 0, 6, [], 305)) none) (cond (Nat.beq pc 305) (some (0, 0, 0, [], 306)) none)))) (cond (Nat.ble pc 313) (cond (Nat.ble pc 308) (cond (Nat.ble pc 306) (cond (Nat.beq pc 306) (some (1, 0, 7, [], 308)) none) (cond (Nat.beq pc 308) (some (40, 60, 77, [], 311)) none)) (cond (Nat.ble pc 311) (cond (Nat.beq pc 311) (some (0, (-9), 0, [], 313)) none) (cond (Nat.beq pc 313) (some (16, 0, 318, [], 316)) none))) (cond (Nat.ble pc 317) (cond (Nat.ble pc 316) (cond (Nat.beq pc 316) (some (0, 0, 0, [], 317)) none) (cond (Nat.beq pc 317) (some (42, 0, 0, [], 318)) none)) (cond (Nat.ble pc 318) (cond (Nat.beq pc 318) (some (5, 1, 6, [], 321)) none) (cond (Nat.beq pc 321) (some (15, 0, 20, [], 324)) none))))))) (cond (Nat.ble pc 382) (cond (Nat.ble pc 349) (cond (Nat.ble pc 335) (cond (Nat.ble pc 328) (cond (Nat.ble pc 324) (cond (Nat.beq pc 324) (some (2, 0, 0, [], 325)) none) (cond (Nat.ble pc 325) (cond (Nat.beq pc 325) (some (40, 85, 80, [], 328)) none) (cond (Nat.beq pc 328) (some (3, 0, 6, [], 330)) none))) (cond (Nat.ble pc 331) (cond (Nat.ble pc 330) (cond (Nat.beq pc 330) (some (0, 1, 0, [], 331)) none) (cond (Nat.beq pc 331) (some (3, 0, 7, [], 333)) none)) (cond (Nat.ble pc 333) (cond (Nat.beq pc 333) (some (1, 0, 7, [], 335)) none) (cond (Nat.beq pc 335) (some (0, 11, 0, [], 337)) none)))) (cond (Nat.ble pc 341) (cond (Nat.ble pc 337) (cond (Nat.beq pc 337) (some (16, 3, 385, [], 340)) none) (cond (Nat.ble pc 340) (cond (Nat.beq pc 340) (some (2, 0, 0, [], 341)) none) (cond (Nat.beq pc 341) (some (1, 0, 7, [], 343)) none))) (cond (Nat.ble pc 346) (cond (Nat.ble pc 343) (cond (Nat.beq pc 343) (some (40, 63, 79, [], 346)) none) (cond (Nat.beq pc 346) (some (2, 0, 0, [], 347)) none)) (cond (Nat.ble pc 347) (cond (Nat.beq pc 347) (some (1, 0, 6, [], 349)) none) (cond (Nat.beq pc 349) (some (40, 63, 79, [], 352)) none))))) (cond (Nat.ble pc 365) (cond (Nat.ble pc 357) (cond (Nat.ble pc 352) (cond (Nat.beq pc 352) (some (16, 2, 377, [], 355)) none) (cond (Nat.ble pc 355) (cond (Nat.beq pc 355) (some (1, 0, 7, [], 357)) none) (cond (Nat.beq pc 357) (some (1, 0, 6, [], 359)) none))) (cond (Nat.ble pc 362) (cond (Nat.ble pc 359) (cond (Nat.beq pc 359) (some (16, 3, 379, [], 362)) none) (cond (Nat.beq pc 362) (some (2, 0, 0, [], 363)) none)) (cond (Nat.ble pc 363) (cond (Nat.beq pc 363) (some (1, 0, 7, [], 365)) none) (cond (Nat.beq pc 365) (some (40, 63, 79, [], 368)) none)))) (cond (Nat.ble pc 374) (cond (Nat.ble pc 369) (cond (Nat.ble pc 368) (cond (Nat.beq pc 368) (some (2, 0, 0, [], 369)) none) (cond (Nat.beq pc 369) (some (1, 0, 6, [], 371)) none)) (cond (Nat.ble pc 371) (cond (Nat.beq pc 371) (some (40, 63, 79, [], 374)) none) (cond (Nat.beq pc 374) (some (16, 1, 379, [], 377)) none))) (cond (Nat.ble pc 378) (cond (Nat.ble pc 377) (cond (Nat.beq pc 377) (some (0, 0, 0, [], 378)) none) (cond (Nat.beq pc 378) (some (42, 0, 0, [], 379)) none)) (cond (Nat.ble pc 379) (cond (Nat.beq pc 379) (some (5, 1, 7, [], 382)) none) (cond (Nat.beq pc 382) (some (15, 0, 333, [], 385)) none)))))) (cond (Nat.ble pc 407) (cond (Nat.ble pc 395) (cond (Nat.ble pc 387) (cond (Nat.ble pc 385) (cond (Nat.beq pc 385) (some (1, 0, 2, [], 386)) none) (cond (Nat.ble pc 386) (cond (Nat.beq pc 386) (some (2, 0, 0, [], 387)) none) (cond (Nat.beq pc 387) (some (0, 0, 0, [], 388)) none))) (cond (Nat.ble pc 391) (cond (Nat.ble pc 388) (cond (Nat.beq pc 388) (some (40, 13, 71, [], 391)) none) (cond (Nat.beq pc 391) (some (16, 1, 438, [], 394)) none)) (cond (Nat.ble pc 394) (cond (Nat.beq pc 394) (some (1, 0, 3, [], 395)) none) (cond (Nat.beq pc 395) (some (2, 0, 0, [], 396)) none)))) (cond (Nat.ble pc 400) (cond (Nat.ble pc 396) (cond (Nat.beq pc 396) (some (0, 4, 0, [], 397)) none) (cond (Nat.ble pc 397) (cond (Nat.beq pc 397) (some (40, 13, 71, [], 400)) none) (cond (Nat.beq pc 400) (some (16, 1, 438, [], 403)) none))) (cond (Nat.ble pc 405) (cond (Nat.ble pc 403) (cond (Nat.beq pc 403) (some (1, 0, 4, [], 405)) none) (cond (Nat.beq pc 405) (some (2, 0, 0, [], 406)) none)) (cond (Nat.ble pc 406) (cond (Nat.beq pc 406) (some (0, 5, 0, [], 407)) none) (cond (Nat.beq pc 407) (some (40, 13, 71, [], 410)) none))))) (cond (Nat.ble pc 424) (cond (Nat.ble pc 415) (cond (Nat.ble pc 410) (cond (Nat.beq pc 410) (some (16, 1, 438, [], 413)) none) (cond (Nat.ble pc 413) (cond (Nat.beq pc 413) (some (1, 0, 5, [], 415)) none) (cond (Nat.beq pc 415) (some (2, 0, 0, [], 416)) none))) (cond (Nat.ble pc 418) (cond (Nat.ble pc 416) (cond (Nat.beq pc 416) (some (0, 6, 0, [], 418)) none) (cond (Nat.beq pc 418) (some (40, 13, 71, [], 421)) none)) (cond (Nat.ble pc 421) (cond (Nat.beq pc 421) (some (16, 1, 438, [], 424)) none) (cond (Nat.beq pc 424) (some (2, 0, 0, [], 425)) none)))) (cond (Nat.ble pc 431) (cond (Nat.ble pc 426) (cond (Nat.ble pc 425) (cond (Nat.beq pc 425) (some (1, 0, 1, [], 426)) none) (cond (Nat.beq pc 426) (some (40, 63, 79, [], 429)) none)) (cond (Nat.ble pc 429) (cond (Nat.beq pc 429) (some (1, 0, 5, [], 431)) none) (cond (Nat.beq pc 431) (some (16, 1, 438, [], 434)) none))) (cond (Nat.ble pc 435) (cond (Nat.ble pc 434) (cond (Nat.beq pc 434) (some (0, 1, 0, [], 435)) none) (cond (Nat.beq pc 435) (some (15, 0, 439, [], 438)) none)) (cond (Nat.ble pc 438) (cond (Nat.beq pc 438) (some (0, 0, 0, [], 439)) none) (cond (Nat.beq pc 439) (some (42, 0, 0, [], 440)) none))))))))) none
def qc109 (pc : Nat) : Option qX := cond (Nat.ble pc 68) (cond (Nat.ble pc 30) (cond (Nat.ble pc 13) (cond (Nat.ble pc 5) (cond (Nat.ble pc 1) (cond (Nat.ble pc 0) (cond (Nat.beq pc 0) (some (1, 0, 2, [], 1)) none) (cond (Nat.beq pc 1) (some (3, 0, 3, [], 2)) none)) (cond (Nat.ble pc 2) (cond (Nat.beq pc 2) (some (0, 0, 0, [], 3)) none) (cond (Nat.ble pc 3) (cond (Nat.beq pc 3) (some (3, 0, 4, [], 5)) none) (cond (Nat.beq pc 5) (some (1, 0, 4, [], 7)) none)))) (cond (Nat.ble pc 8) (cond (Nat.ble pc 7) (cond (Nat.beq pc 7) (some (2, 0, 0, [], 8)) none) (cond (Nat.beq pc 8) (some (1, 0, 1, [], 9)) none)) (cond (Nat.ble pc 9) (cond (Nat.beq pc 9) (some (0, 2, 0, [], 10)) none) (cond (Nat.ble pc 10) (cond (Nat.beq pc 10) (some (40, 29, 76, [], 13)) none) (cond (Nat.beq pc 13) (some (2, 0, 0, [], 14)) none))))) (cond (Nat.ble pc 20) (cond (Nat.ble pc 15) (cond (Nat.ble pc 14) (cond (Nat.beq pc 14) (some (1, 0, 1, [], 15)) none) (cond (Nat.beq pc 15) (some (0, 3, 0, [], 16)) none)) (cond (Nat.ble pc 16) (cond (Nat.beq pc 16) (some (40, 29, 76, [], 19)) none) (cond (Nat.ble pc 19) (cond (Nat.beq pc 19) (some (6, 0, 0, [], 20)) none) (cond (Nat.beq pc 20) (some (16, 3, 67, [], 23)) none)))) (cond (Nat.ble pc 24) (cond (Nat.ble pc 23) (cond (Nat.beq pc 23) (some (2, 0, 0, [], 24)) none) (cond (Nat.beq pc 24) (some (1, 0, 1, [], 25)) none)) (cond (Nat.ble pc 25) (cond (Nat.beq pc 25) (some (1, 0, 4, [], 27)) none) (cond (Nat.ble pc 27) (cond (Nat.beq pc 27) (some (40, 32, 78, [], 30)) none) (cond (Nat.beq pc 30) (some (3, 0, 5, [], 32)) none)))))) (cond (Nat.ble pc 49) (cond (Nat.ble pc 40) (cond (Nat.ble pc 34) (cond (Nat.ble pc 32) (cond (Nat.beq pc 32) (some (1, 0, 5, [], 34)) none) (cond (Nat.beq pc 34) (some (0, 100, 0, [], 36)) none)) (cond (Nat.ble pc 36) (cond (Nat.beq pc 36) (some (16, 3, 46, [], 39)) none) (cond (Nat.ble pc 39) (cond (Nat.beq pc 39) (some (1, 0, 3, [], 40)) none) (cond (Nat.beq pc 40) (some (17, 1, 46, [], 43)) none)))) (cond (Nat.ble pc 45) (cond (Nat.ble pc 43) (cond (Nat.beq pc 43) (some (1, 0, 5, [], 45)) none) (cond (Nat.beq pc 45) (some (41, 0, 0, [], 46)) none)) (cond (Nat.ble pc 46) (cond (Nat.beq pc 46) (some (1, 0, 3, [], 47)) none) (cond (Nat.ble pc 47) (cond (Nat.beq pc 47) (some (1, 0, 5, [], 49)) none) (cond (Nat.beq pc 49) (some (0, 100, 0, [], 51)) none))))) (cond (Nat.ble pc 59) (cond (Nat.ble pc 54) (cond (Nat.ble pc 51) (cond (Nat.beq pc 51) (some (16, 3, 58, [], 54)) none) (cond (Nat.beq pc 54) (some (0, 1, 0, [], 55)) none)) (cond (Nat.ble pc 55) (cond (Nat.beq pc 55) (some (15, 0, 59, [], 58)) none) (cond (Nat.ble pc 58) (cond (Nat.beq pc 58) (some (0, 0, 0, [], 59)) none) (cond (Nat.beq pc 59) (some (7, 0, 0, [], 60)) none)))) (cond (Nat.ble pc 61) (cond (Nat.ble pc 60) (cond (Nat.beq pc 60) (some (3, 0, 3, [], 61)) none) (cond (Nat.beq pc 61) (some (5, 1, 4, [], 64)) none)) (cond (Nat.ble pc 64) (cond (Nat.beq pc 64) (some (15, 0, 5, [], 67)) none) (cond (Nat.ble pc 67) (cond (Nat.beq pc 67) (some (0, (-1), 0, [], 68)) none) (cond (Nat.beq pc 68) (some (41, 0, 0, [], 69)) none))))))) none
def qc110 (pc : Nat) : Option qX := cond (Nat.ble pc 272) (cond (Nat.ble pc 129) (cond (Nat.ble pc 60) (cond (Nat.ble pc 26) (cond (Nat.ble pc 10) (cond (Nat.ble pc 3) (cond (Nat.ble pc 1) (cond (Nat.ble pc 0) (cond (Nat.beq pc 0) (some (0, 0, 0, [], 1)) none) (cond (Nat.beq pc 1) (some (3, 0, 2, [], 2)) none)) (cond (Nat.ble pc 2) (cond (Nat.beq pc 2) (some (0, 0, 0, [], 3)) none) (cond (Nat.beq pc 3) (some (3, 0, 3, [], 4)) none))) (cond (Nat.ble pc 5) (cond (Nat.ble pc 4) (cond (Nat.beq pc 4) (some (0, 0, 0, [], 5)) none) (cond (Nat.beq pc 5) (some (3, 0, 4, [], 7)) none)) (cond (Nat.ble pc 7) (cond (Nat.beq pc 7) (some (0, 0, 0, [], 8)) none) (cond (Nat.ble pc 8) (cond (Nat.beq pc 8) (some (3, 0, 5, [], 10)) none) (cond (Nat.beq pc 10) (some (0, 0, 0, [], 11)) none))))) (cond (Nat.ble pc 16) (cond (Nat.ble pc 13) (cond (Nat.ble pc 11) (cond (Nat.beq pc 11) (some (3, 0, 6, [], 13)) none) (cond (Nat.beq pc 13) (some (1, 0, 6, [], 15)) none)) (cond (Nat.ble pc 15) (cond (Nat.beq pc 15) (some (2, 0, 0, [], 16)) none) (cond (Nat.beq pc 16) (some (0, 1, 0, [], 17)) none))) (cond (Nat.ble pc 20) (cond (Nat.ble pc 17) (cond (Nat.beq pc 17) (some (40, 13, 71, [], 20)) none) (cond (Nat.beq pc 20) (some (16, 3, 177, [], 23)) none)) (cond (Nat.ble pc 23) (cond (Nat.beq pc 23) (some (2, 0, 0, [], 24)) none) (cond (Nat.ble pc 24) (cond (Nat.beq pc 24) (some (1, 0, 6, [], 26)) none) (cond (Nat.beq pc 26) (some (0, 0, 0, [], 27)) none)))))) (cond (Nat.ble pc 44) (cond (Nat.ble pc 34) (cond (Nat.ble pc 30) (cond (Nat.ble pc 27) (cond (Nat.beq pc 27) (some (40, 19, 72, [], 30)) none) (cond (Nat.beq pc 30) (some (3, 0, 7, [], 32)) none)) (cond (Nat.ble pc 32) (cond (Nat.beq pc 32) (some (1, 0, 7, [], 34)) none) (cond (Nat.beq pc 34) (some (17, 2, 171, [], 37)) none))) (cond (Nat.ble pc 38) (cond (Nat.ble pc 37) (cond (Nat.beq pc 37) (some (2, 0, 0, [], 38)) none) (cond (Nat.beq pc 38) (some (1, 0, 6, [], 40)) none)) (cond (Nat.ble pc 40) (cond (Nat.beq pc 40) (some (1, 0, 1, [], 41)) none) (cond (Nat.ble pc 41) (cond (Nat.beq pc 41) (some (40, 23, 74, [], 44)) none) (cond (Nat.beq pc 44) (some (3, 0, 8, [], 46)) none))))) (cond (Nat.ble pc 53) (cond (Nat.ble pc 47) (cond (Nat.ble pc 46) (cond (Nat.beq pc 46) (some (1, 0, 2, [], 47)) none) (cond (Nat.beq pc 47) (some (1, 0, 8, [], 49)) none)) (cond (Nat.ble pc 49) (cond (Nat.beq pc 49) (some (17, 2, 56, [], 52)) none) (cond (Nat.ble pc 52) (cond (Nat.beq pc 52) (some (0, 1, 0, [], 53)) none) (cond (Nat.beq pc 53) (some (15, 0, 57, [], 56)) none)))) (cond (Nat.ble pc 57) (cond (Nat.ble pc 56) (cond (Nat.beq pc 56) (some (0, 0, 0, [], 57)) none) (cond (Nat.beq pc 57) (some (6, 0, 0, [], 58)) none)) (cond (Nat.ble pc 58) (cond (Nat.beq pc 58) (some (3, 0, 2, [], 59)) none) (cond (Nat.ble pc 59) (cond (Nat.beq pc 59) (some (1, 0, 3, [], 60)) none) (cond (Nat.beq pc 60) (some (1, 0, 8, [], 62)) none))))))) (cond (Nat.ble pc 96) (cond (Nat.ble pc 76) (cond (Nat.ble pc 70) (cond (Nat.ble pc 65) (cond (Nat.ble pc 62) (cond (Nat.beq pc 62) (some (17, 2, 70, [], 65)) none) (cond (Nat.beq pc 65) (some (1, 0, 8, [], 67)) none)) (cond (Nat.ble pc 67) (cond (Nat.beq pc 67) (some (15, 0, 71, [], 70)) none) (cond (Nat.beq pc 70) (some (0, 0, 0, [], 71)) none))) (cond (Nat.ble pc 72) (cond (Nat.ble pc 71) (cond (Nat.beq pc 71) (some (6, 0, 0, [], 72)) none) (cond (Nat.beq pc 72) (some (3, 0, 3, [], 73)) none)) (cond (Nat.ble pc 73) (cond (Nat.beq pc 73) (some (1, 0, 4, [], 75)) none) (cond (Nat.ble pc 75) (cond (Nat.beq pc 75) (some (2, 0, 0, [], 76)) none) (cond (Nat.beq pc 76) (some (1, 0, 7, [], 78)) none))))) (cond (Nat.ble pc 86) (cond (Nat.ble pc 79) (cond (Nat.ble pc 78) (cond (Nat.beq pc 78) (some (0, 1, 0, [], 79)) none) (cond (Nat.beq pc 79) (some (40, 29, 76, [], 82)) none)) (cond (Nat.ble pc 82) (cond (Nat.beq pc 82) (some (0, 1, 0, [], 83)) none) (cond (Nat.ble pc 83) (cond (Nat.beq pc 83) (some (16, 1, 99, [], 86)) none) (cond (Nat.beq pc 86) (some (1, 0, 8, [], 88)) none)))) (cond (Nat.ble pc 91) (cond (Nat.ble pc 88) (cond (Nat.beq pc 88) (some (17, 2, 95, [], 91)) none) (cond (Nat.beq pc 91) (some (0, 1, 0, [], 92)) none)) (cond (Nat.ble pc 92) (cond (Nat.beq pc 92) (some (15, 0, 114, [], 95)) none) (cond (Nat.ble pc 95) (cond (Nat.beq pc 95) (some (0, 0, 0, [], 96)) none) (cond (Nat.beq pc 96) (some (15, 0, 114, [], 99)) none)))))) (cond (Nat.ble pc 113) (cond (Nat.ble pc 103) (cond (Nat.ble pc 100) (cond (Nat.ble pc 99) (cond (Nat.beq pc 99) (some (2, 0, 0, [], 100)) none) (cond (Nat.beq pc 100) (some (1, 0, 6, [], 102)) none)) (cond (Nat.ble pc 102) (cond (Nat.beq pc 102) (some (0, 1, 0, [], 103)) none) (cond (Nat.beq pc 103) (some (40, 19, 72, [], 106)) none))) (cond (Nat.ble pc 107) (cond (Nat.ble pc 106) (cond (Nat.beq pc 106) (some (2, 0, 0, [], 107)) none) (cond (Nat.beq pc 107) (some (1, 0, 6, [], 109)) none)) (cond (Nat.ble pc 109) (cond (Nat.beq pc 109) (some (0, 2, 0, [], 110)) none) (cond (Nat.ble pc 110) (cond (Nat.beq pc 110) (some (40, 19, 72, [], 113)) none) (cond (Nat.beq pc 113) (some (6, 0, 0, [], 114)) none))))) (cond (Nat.ble pc 120) (cond (Nat.ble pc 115) (cond (Nat.ble pc 114) (cond (Nat.beq pc 114) (some (6, 0, 0, [], 115)) none) (cond (Nat.beq pc 115) (some (3, 0, 4, [], 117)) none)) (cond (Nat.ble pc 117) (cond (Nat.beq pc 117) (some (0, 0, 0, [], 118)) none) (cond (Nat.ble pc 118) (cond (Nat.beq pc 118) (some (3, 0, 9, [], 120)) none) (cond (Nat.beq pc 120) (some (1, 0, 9, [], 122)) none)))) (cond (Nat.ble pc 123) (cond (Nat.ble pc 122) (cond (Nat.beq pc 122) (some (2, 0, 0, [], 123)) none) (cond (Nat.beq pc 123) (some (1, 0, 6, [], 125)) none)) (cond (Nat.ble pc 125) (cond (Nat.beq pc 125) (some (0, 1, 0, [], 126)) none) (cond (Nat.ble pc 126) (cond (Nat.beq pc 126) (some (40, 19, 72, [], 129)) none) (cond (Nat.beq pc 129) (some (2, 0, 0, [], 130)) none)))))))) (cond (Nat.ble pc 198) (cond (Nat.ble pc 163) (cond (Nat.ble pc 145) (cond (Nat.ble pc 136) (cond (Nat.ble pc 132) (cond (Nat.ble pc 130) (cond (Nat.beq pc 130) (some (1, 0, 6, [], 132)) none) (cond (Nat.beq pc 132) (some (0, 2, 0, [], 133)) none)) (cond (Nat.ble pc 133) (cond (Nat.beq pc 133) (some (40, 19, 72, [], 136)) none) (cond (Nat.beq pc 136) (some (6, 0, 0, [], 137)) none))) (cond (Nat.ble pc 140) (cond (Nat.ble pc 137) (cond (Nat.beq pc 137) (some (16, 3, 171, [], 140)) none) (cond (Nat.beq pc 140) (some (1, 0, 5, [], 142)) none)) (cond (Nat.ble pc 142) (cond (Nat.beq pc 142) (some (2, 0, 0, [], 143)) none) (cond (Nat.ble pc 143) (cond (Nat.beq pc 143) (some (1, 0, 7, [], 145)) none) (cond (Nat.beq pc 145) (some (1, 0, 9, [], 147)) none))))) (cond (Nat.ble pc 154) (cond (Nat.ble pc 150) (cond (Nat.ble pc 147) (cond (Nat.beq pc 147) (some (40, 32, 78, [], 150)) none) (cond (Nat.beq pc 150) (some (0, 100, 0, [], 152)) none)) (cond (Nat.ble pc 152) (cond (Nat.beq pc 152) (some (1, 0, 1, [], 153)) none) (cond (Nat.ble pc 153) (cond (Nat.beq pc 153) (some (6, 0, 0, [], 154)) none) (cond (Nat.beq pc 154) (some (16, 1, 161, [], 157)) none)))) (cond (Nat.ble pc 158) (cond (Nat.ble pc 157) (cond (Nat.beq pc 157) (some (0, 1, 0, [], 158)) none) (cond (Nat.beq pc 158) (some (15, 0, 162, [], 161)) none)) (cond (Nat.ble pc 161) (cond (Nat.beq pc 161) (some (0, 0, 0, [], 162)) none) (cond (Nat.ble pc 162) (cond (Nat.beq pc 162) (some (6, 0, 0, [], 163)) none) (cond (Nat.beq pc 163) (some (3, 0, 5, [], 165)) none)))))) (cond (Nat.ble pc 183) (cond (Nat.ble pc 174) (cond (Nat.ble pc 168) (cond (Nat.ble pc 165) (cond (Nat.beq pc 165) (some (5, 1, 9, [], 168)) none) (cond (Nat.beq pc 168) (some (15, 0, 120, [], 171)) none)) (cond (Nat.ble pc 171) (cond (Nat.beq pc 171) (some (5, 1, 6, [], 174)) none) (cond (Nat.beq pc 174) (some (15, 0, 13, [], 177)) none))) (cond (Nat.ble pc 178) (cond (Nat.ble pc 177) (cond (Nat.beq pc 177) (some (2, 0, 0, [], 178)) none) (cond (Nat.beq pc 178) (some (1, 0, 1, [], 179)) none)) (cond (Nat.ble pc 179) (cond (Nat.beq pc 179) (some (0, 1, 0, [], 180)) none) (cond (Nat.ble pc 180) (cond (Nat.beq pc 180) (some (40, 26, 75, [], 183)) none) (cond (Nat.beq pc 183) (some (3, 0, 6, [], 185)) none))))) (cond (Nat.ble pc 191) (cond (Nat.ble pc 186) (cond (Nat.ble pc 185) (cond (Nat.beq pc 185) (some (2, 0, 0, [], 186)) none) (cond (Nat.beq pc 186) (some (1, 0, 1, [], 187)) none)) (cond (Nat.ble pc 187) (cond (Nat.beq pc 187) (some (0, 2, 0, [], 188)) none) (cond (Nat.ble pc 188) (cond (Nat.beq pc 188) (some (40, 26, 75, [], 191)) none) (cond (Nat.beq pc 191) (some (1, 0, 2, [], 192)) none)))) (cond (Nat.ble pc 195) (cond (Nat.ble pc 192) (cond (Nat.beq pc 192) (some (16, 1, 271, [], 195)) none) (cond (Nat.beq pc 195) (some (2, 0, 0, [], 196)) none)) (cond (Nat.ble pc 196) (cond (Nat.beq pc 196) (some (1, 0, 1, [], 197)) none) (cond (Nat.ble pc 197) (cond (Nat.beq pc 197) (some (0, 3, 0, [], 198)) none) (cond (Nat.beq pc 198) (some (40, 26, 75, [], 201)) none))))))) (cond (Nat.ble pc 235) (cond (Nat.ble pc 216) (cond (Nat.ble pc 207) (cond (Nat.ble pc 203) (cond (Nat.ble pc 201) (cond (Nat.beq pc 201) (some (1, 0, 5, [], 203)) none) (cond (Nat.beq pc 203) (some (16, 1, 271, [], 206)) none)) (cond (Nat.ble pc 206) (cond (Nat.beq pc 206) (some (2, 0, 0, [], 207)) none) (cond (Nat.beq pc 207) (some (1, 0, 1, [], 208)) none))) (cond (Nat.ble pc 209) (cond (Nat.ble pc 208) (cond (Nat.beq pc 208) (some (0, 4, 0, [], 209)) none) (cond (Nat.beq pc 209) (some (40, 26, 75, [], 212)) none)) (cond (Nat.ble pc 212) (cond (Nat.beq pc 212) (some (1, 0, 3, [], 213)) none) (cond (Nat.ble pc 213) (cond (Nat.beq pc 213) (some (16, 1, 271, [], 216)) none) (cond (Nat.beq pc 216) (some (2, 0, 0, [], 217)) none))))) (cond (Nat.ble pc 224) (cond (Nat.ble pc 218) (cond (Nat.ble pc 217) (cond (Nat.beq pc 217) (some (1, 0, 1, [], 218)) none) (cond (Nat.beq pc 218) (some (0, 5, 0, [], 219)) none)) (cond (Nat.ble pc 219) (cond (Nat.beq pc 219) (some (40, 26, 75, [], 222)) none) (cond (Nat.ble pc 222) (cond (Nat.beq pc 222) (some (1, 0, 4, [], 224)) none) (cond (Nat.beq pc 224) (some (16, 1, 271, [], 227)) none)))) (cond (Nat.ble pc 229) (cond (Nat.ble pc 227) (cond (Nat.beq pc 227) (some (1, 0, 6, [], 229)) none) (cond (Nat.beq pc 229) (some (1, 0, 1, [], 230)) none)) (cond (Nat.ble pc 230) (cond (Nat.beq pc 230) (some (16, 3, 271, [], 233)) none) (cond (Nat.ble pc 233) (cond (Nat.beq pc 233) (some (1, 0, 6, [], 235)) none) (cond (Nat.beq pc 235) (some (17, 3, 245, [], 238)) none)))))) (cond (Nat.ble pc 253) (cond (Nat.ble pc 245) (cond (Nat.ble pc 240) (cond (Nat.ble pc 238) (cond (Nat.beq pc 238) (some (1, 0, 6, [], 240)) none) (cond (Nat.beq pc 240) (some (0, (-9), 0, [], 242)) none)) (cond (Nat.ble pc 242) (cond (Nat.beq pc 242) (some (16, 1, 271, [], 245)) none) (cond (Nat.beq pc 245) (some (2, 0, 0, [], 246)) none))) (cond (Nat.ble pc 247) (cond (Nat.ble pc 246) (cond (Nat.beq pc 246) (some (1, 0, 1, [], 247)) none) (cond (Nat.beq pc 247) (some (0, 0, 0, [], 248)) none)) (cond (Nat.ble pc 248) (cond (Nat.beq pc 248) (some (40, 26, 75, [], 251)) none) (cond (Nat.ble pc 251) (cond (Nat.beq pc 251) (some (0, 97, 0, [], 253)) none) (cond (Nat.beq pc 253) (some (16, 2, 271, [], 256)) none))))) (cond (Nat.ble pc 262) (cond (Nat.ble pc 257) (cond (Nat.ble pc 256) (cond (Nat.beq pc 256) (some (2, 0, 0, [], 257)) none) (cond (Nat.beq pc 257) (some (1, 0, 1, [], 258)) none)) (cond (Nat.ble pc 258) (cond (Nat.beq pc 258) (some (0, 0, 0, [], 259)) none) (cond (Nat.ble pc 259) (cond (Nat.beq pc 259) (some (40, 26, 75, [], 262)) none) (cond (Nat.beq pc 262) (some (0, 122, 0, [], 264)) none)))) (cond (Nat.ble pc 267) (cond (Nat.ble pc 264) (cond (Nat.beq pc 264) (some (16, 4, 271, [], 267)) none) (cond (Nat.beq pc 267) (some (0, 1, 0, [], 268)) none)) (cond (Nat.ble pc 268) (cond (Nat.beq pc 268) (some (15, 0, 272, [], 271)) none) (cond (Nat.ble pc 271) (cond (Nat.beq pc 271) (some (0, 0, 0, [], 272)) none) (cond (Nat.beq pc 272) (some (42, 0, 0, [], 273)) none))))))))) none
def qc111 (pc : Nat) : Option qX := cond (Nat.ble pc 133) (cond (Nat.ble pc 62) (cond (Nat.ble pc 27) (cond (Nat.ble pc 10) (cond (Nat.ble pc 4) (cond (Nat.ble pc 2) (cond (Nat.ble pc 0) (cond (Nat.beq pc 0) (some (0, (-9), 0, [], 2)) none) (cond (Nat.beq pc 2) (some (3, 0, 2, [], 3)) none)) (cond (Nat.ble pc 3) (cond (Nat.beq pc 3) (some (0, (-1), 0, [], 4)) none) (cond (Nat.beq pc 4) (some (3, 0, 3, [], 5)) none))) (cond (Nat.ble pc 6) (cond (Nat.ble pc 5) (cond (Nat.beq pc 5) (some (0, 0, 0, [], 6)) none) (cond (Nat.beq pc 6) (some (3, 0, 4, [], 8)) none)) (cond (Nat.ble pc 8) (cond (Nat.beq pc 8) (some (1, 0, 4, [], 10)) none) (cond (Nat.beq pc 10) (some (2, 0, 0, [], 11)) none)))) (cond (Nat.ble pc 18) (cond (Nat.ble pc 12) (cond (Nat.ble pc 11) (cond (Nat.beq pc 11) (some (0, 1, 0, [], 12)) none) (cond (Nat.beq pc 12) (some (40, 13, 71, [], 15)) none)) (cond (Nat.ble pc 15) (cond (Nat.beq pc 15) (some (16, 3, 119, [], 18)) none) (cond (Nat.beq pc 18) (some (1, 0, 4, [], 20)) none))) (cond (Nat.ble pc 21) (cond (Nat.ble pc 20) (cond (Nat.beq pc 20) (some (1, 0, 1, [], 21)) none) (cond (Nat.beq pc 21) (some (16, 0, 113, [], 24)) none)) (cond (Nat.ble pc 24) (cond (Nat.beq pc 24) (some (2, 0, 0, [], 25)) none) (cond (Nat.ble pc 25) (cond (Nat.beq pc 25) (some (1, 0, 4, [], 27)) none) (cond (Nat.beq pc 27) (some (0, 0, 0, [], 28)) none)))))) (cond (Nat.ble pc 43) (cond (Nat.ble pc 35) (cond (Nat.ble pc 31) (cond (Nat.ble pc 28) (cond (Nat.beq pc 28) (some (40, 19, 72, [], 31)) none) (cond (Nat.beq pc 31) (some (17, 2, 113, [], 34)) none)) (cond (Nat.ble pc 34) (cond (Nat.beq pc 34) (some (0, 0, 0, [], 35)) none) (cond (Nat.beq pc 35) (some (3, 0, 5, [], 37)) none))) (cond (Nat.ble pc 38) (cond (Nat.ble pc 37) (cond (Nat.beq pc 37) (some (0, 0, 0, [], 38)) none) (cond (Nat.beq pc 38) (some (3, 0, 6, [], 40)) none)) (cond (Nat.ble pc 40) (cond (Nat.beq pc 40) (some (1, 0, 6, [], 42)) none) (cond (Nat.ble pc 42) (cond (Nat.beq pc 42) (some (2, 0, 0, [], 43)) none) (cond (Nat.beq pc 43) (some (0, 2, 0, [], 44)) none))))) (cond (Nat.ble pc 52) (cond (Nat.ble pc 47) (cond (Nat.ble pc 44) (cond (Nat.beq pc 44) (some (40, 13, 71, [], 47)) none) (cond (Nat.beq pc 47) (some (16, 3, 87, [], 50)) none)) (cond (Nat.ble pc 50) (cond (Nat.beq pc 50) (some (1, 0, 5, [], 52)) none) (cond (Nat.beq pc 52) (some (2, 0, 0, [], 53)) none))) (cond (Nat.ble pc 54) (cond (Nat.ble pc 53) (cond (Nat.beq pc 53) (some (1, 0, 1, [], 54)) none) (cond (Nat.beq pc 54) (some (1, 0, 6, [], 56)) none)) (cond (Nat.ble pc 56) (cond (Nat.beq pc 56) (some (40, 23, 74, [], 59)) none) (cond (Nat.ble pc 59) (cond (Nat.beq pc 59) (some (17, 2, 77, [], 62)) none) (cond (Nat.beq pc 62) (some (2, 0, 0, [], 63)) none))))))) (cond (Nat.ble pc 99) (cond (Nat.ble pc 79) (cond (Nat.ble pc 70) (cond (Nat.ble pc 65) (cond (Nat.ble pc 63) (cond (Nat.beq pc 63) (some (1, 0, 4, [], 65)) none) (cond (Nat.beq pc 65) (some (1, 0, 6, [], 67)) none)) (cond (Nat.ble pc 67) (cond (Nat.beq pc 67) (some (40, 23, 74, [], 70)) none) (cond (Nat.beq pc 70) (some (17, 2, 77, [], 73)) none))) (cond (Nat.ble pc 74) (cond (Nat.ble pc 73) (cond (Nat.beq pc 73) (some (0, 1, 0, [], 74)) none) (cond (Nat.beq pc 74) (some (15, 0, 78, [], 77)) none)) (cond (Nat.ble pc 77) (cond (Nat.beq pc 77) (some (0, 0, 0, [], 78)) none) (cond (Nat.ble pc 78) (cond (Nat.beq pc 78) (some (6, 0, 0, [], 79)) none) (cond (Nat.beq pc 79) (some (3, 0, 5, [], 81)) none))))) (cond (Nat.ble pc 89) (cond (Nat.ble pc 84) (cond (Nat.ble pc 81) (cond (Nat.beq pc 81) (some (5, 1, 6, [], 84)) none) (cond (Nat.beq pc 84) (some (15, 0, 40, [], 87)) none)) (cond (Nat.ble pc 87) (cond (Nat.beq pc 87) (some (1, 0, 5, [], 89)) none) (cond (Nat.beq pc 89) (some (1, 0, 3, [], 90)) none))) (cond (Nat.ble pc 93) (cond (Nat.ble pc 90) (cond (Nat.beq pc 90) (some (16, 5, 98, [], 93)) none) (cond (Nat.beq pc 93) (some (1, 0, 4, [], 95)) none)) (cond (Nat.ble pc 95) (cond (Nat.beq pc 95) (some (15, 0, 99, [], 98)) none) (cond (Nat.ble pc 98) (cond (Nat.beq pc 98) (some (1, 0, 2, [], 99)) none) (cond (Nat.beq pc 99) (some (3, 0, 2, [], 100)) none)))))) (cond (Nat.ble pc 116) (cond (Nat.ble pc 106) (cond (Nat.ble pc 102) (cond (Nat.ble pc 100) (cond (Nat.beq pc 100) (some (1, 0, 5, [], 102)) none) (cond (Nat.beq pc 102) (some (1, 0, 3, [], 103)) none)) (cond (Nat.ble pc 103) (cond (Nat.beq pc 103) (some (16, 5, 111, [], 106)) none) (cond (Nat.beq pc 106) (some (1, 0, 5, [], 108)) none))) (cond (Nat.ble pc 111) (cond (Nat.ble pc 108) (cond (Nat.beq pc 108) (some (15, 0, 112, [], 111)) none) (cond (Nat.beq pc 111) (some (1, 0, 3, [], 112)) none)) (cond (Nat.ble pc 112) (cond (Nat.beq pc 112) (some (3, 0, 3, [], 113)) none) (cond (Nat.ble pc 113) (cond (Nat.beq pc 113) (some (5, 1, 4, [], 116)) none) (cond (Nat.beq pc 116) (some (15, 0, 8, [], 119)) none))))) (cond (Nat.ble pc 124) (cond (Nat.ble pc 120) (cond (Nat.ble pc 119) (cond (Nat.beq pc 119) (some (2, 0, 0, [], 120)) none) (cond (Nat.beq pc 120) (some (1, 0, 1, [], 121)) none)) (cond (Nat.ble pc 121) (cond (Nat.beq pc 121) (some (40, 66, 81, [], 124)) none) (cond (Nat.beq pc 124) (some (1, 0, 2, [], 125)) none))) (cond (Nat.ble pc 128) (cond (Nat.ble pc 125) (cond (Nat.beq pc 125) (some (16, 1, 132, [], 128)) none) (cond (Nat.beq pc 128) (some (0, 1, 0, [], 129)) none)) (cond (Nat.ble pc 129) (cond (Nat.beq pc 129) (some (15, 0, 133, [], 132)) none) (cond (Nat.ble pc 132) (cond (Nat.beq pc 132) (some (0, 0, 0, [], 133)) none) (cond (Nat.beq pc 133) (some (42, 0, 0, [], 134)) none)))))))) none
def qc112 (pc : Nat) : Option qX := cond (Nat.ble pc 75) (cond (Nat.ble pc 36) (cond (Nat.ble pc 13) (cond (Nat.ble pc 4) (cond (Nat.ble pc 1) (cond (Nat.ble pc 0) (cond (Nat.beq pc 0) (some (0, 0, 0, [], 1)) none) (cond (Nat.beq pc 1) (some (3, 0, 1, [], 2)) none)) (cond (Nat.ble pc 2) (cond (Nat.beq pc 2) (some (1, 0, 1, [], 3)) none) (cond (Nat.ble pc 3) (cond (Nat.beq pc 3) (some (2, 0, 0, [], 4)) none) (cond (Nat.beq pc 4) (some (0, 1, 0, [], 5)) none)))) (cond (Nat.ble pc 8) (cond (Nat.ble pc 5) (cond (Nat.beq pc 5) (some (40, 13, 71, [], 8)) none) (cond (Nat.beq pc 8) (some (16, 3, 44, [], 11)) none)) (cond (Nat.ble pc 11) (cond (Nat.beq pc 11) (some (2, 0, 0, [], 12)) none) (cond (Nat.ble pc 12) (cond (Nat.beq pc 12) (some (1, 0, 1, [], 13)) none) (cond (Nat.beq pc 13) (some (0, 0, 0, [], 14)) none))))) (cond (Nat.ble pc 22) (cond (Nat.ble pc 17) (cond (Nat.ble pc 14) (cond (Nat.beq pc 14) (some (40, 19, 72, [], 17)) none) (cond (Nat.beq pc 17) (some (17, 2, 38, [], 20)) none)) (cond (Nat.ble pc 20) (cond (Nat.beq pc 20) (some (2, 0, 0, [], 21)) none) (cond (Nat.ble pc 21) (cond (Nat.beq pc 21) (some (1, 0, 1, [], 22)) none) (cond (Nat.beq pc 22) (some (40, 88, 107, [], 25)) none)))) (cond (Nat.ble pc 29) (cond (Nat.ble pc 25) (cond (Nat.beq pc 25) (some (17, 0, 36, [], 28)) none) (cond (Nat.ble pc 28) (cond (Nat.beq pc 28) (some (2, 0, 0, [], 29)) none) (cond (Nat.beq pc 29) (some (1, 0, 1, [], 30)) none))) (cond (Nat.ble pc 30) (cond (Nat.beq pc 30) (some (40, 92, 111, [], 33)) none) (cond (Nat.ble pc 33) (cond (Nat.beq pc 33) (some (17, 1, 38, [], 36)) none) (cond (Nat.beq pc 36) (some (0, 0, 0, [], 37)) none)))))) (cond (Nat.ble pc 52) (cond (Nat.ble pc 45) (cond (Nat.ble pc 38) (cond (Nat.ble pc 37) (cond (Nat.beq pc 37) (some (42, 0, 0, [], 38)) none) (cond (Nat.beq pc 38) (some (5, 1, 1, [], 41)) none)) (cond (Nat.ble pc 41) (cond (Nat.beq pc 41) (some (15, 0, 2, [], 44)) none) (cond (Nat.ble pc 44) (cond (Nat.beq pc 44) (some (0, 0, 0, [], 45)) none) (cond (Nat.beq pc 45) (some (3, 0, 1, [], 46)) none)))) (cond (Nat.ble pc 47) (cond (Nat.ble pc 46) (cond (Nat.beq pc 46) (some (1, 0, 1, [], 47)) none) (cond (Nat.beq pc 47) (some (2, 0, 0, [], 48)) none)) (cond (Nat.ble pc 48) (cond (Nat.beq pc 48) (some (0, 2, 0, [], 49)) none) (cond (Nat.ble pc 49) (cond (Nat.beq pc 49) (some (40, 13, 71, [], 52)) none) (cond (Nat.beq pc 52) (some (16, 3, 71, [], 55)) none))))) (cond (Nat.ble pc 63) (cond (Nat.ble pc 56) (cond (Nat.ble pc 55) (cond (Nat.beq pc 55) (some (2, 0, 0, [], 56)) none) (cond (Nat.beq pc 56) (some (1, 0, 1, [], 57)) none)) (cond (Nat.ble pc 57) (cond (Nat.beq pc 57) (some (40, 94, 110, [], 60)) none) (cond (Nat.ble pc 60) (cond (Nat.beq pc 60) (some (17, 1, 65, [], 63)) none) (cond (Nat.beq pc 63) (some (0, 0, 0, [], 64)) none)))) (cond (Nat.ble pc 68) (cond (Nat.ble pc 64) (cond (Nat.beq pc 64) (some (42, 0, 0, [], 65)) none) (cond (Nat.ble pc 65) (cond (Nat.beq pc 65) (some (5, 1, 1, [], 68)) none) (cond (Nat.beq pc 68) (some (15, 0, 46, [], 71)) none))) (cond (Nat.ble pc 71) (cond (Nat.beq pc 71) (some (2, 0, 0, [], 72)) none) (cond (Nat.ble pc 72) (cond (Nat.beq pc 72) (some (40, 97, 108, [], 75)) none) (cond (Nat.beq pc 75) (some (42, 0, 0, [], 76)) none))))))) none
def qc113 (pc : Nat) : Option qX := cond (Nat.ble pc 200) (cond (Nat.ble pc 96) (cond (Nat.ble pc 43) (cond (Nat.ble pc 22) (cond (Nat.ble pc 10) (cond (Nat.ble pc 2) (cond (Nat.ble pc 0) (cond (Nat.beq pc 0) (some (2, 0, 0, [], 1)) none) (cond (Nat.ble pc 1) (cond (Nat.beq pc 1) (some (1, 0, 1, [], 2)) none) (cond (Nat.beq pc 2) (some (0, 0, 0, [], 3)) none))) (cond (Nat.ble pc 6) (cond (Nat.ble pc 3) (cond (Nat.beq pc 3) (some (40, 19, 72, [], 6)) none) (cond (Nat.beq pc 6) (some (17, 2, 30, [], 9)) none)) (cond (Nat.ble pc 9) (cond (Nat.beq pc 9) (some (2, 0, 0, [], 10)) none) (cond (Nat.beq pc 10) (some (0, 1, 0, [], 11)) none)))) (cond (Nat.ble pc 16) (cond (Nat.ble pc 11) (cond (Nat.beq pc 11) (some (40, 13, 71, [], 14)) none) (cond (Nat.ble pc 14) (cond (Nat.beq pc 14) (some (0, 29, 0, [], 16)) none) (cond (Nat.beq pc 16) (some (16, 4, 30, [], 19)) none))) (cond (Nat.ble pc 20) (cond (Nat.ble pc 19) (cond (Nat.beq pc 19) (some (2, 0, 0, [], 20)) none) (cond (Nat.beq pc 20) (some (1, 0, 1, [], 21)) none)) (cond (Nat.ble pc 21) (cond (Nat.beq pc 21) (some (0, 3, 0, [], 22)) none) (cond (Nat.beq pc 22) (some (40, 19, 72, [], 25)) none))))) (cond (Nat.ble pc 36) (cond (Nat.ble pc 30) (cond (Nat.ble pc 25) (cond (Nat.beq pc 25) (some (0, 80, 0, [], 27)) none) (cond (Nat.ble pc 27) (cond (Nat.beq pc 27) (some (16, 5, 32, [], 30)) none) (cond (Nat.beq pc 30) (some (0, 1, 0, [], 31)) none))) (cond (Nat.ble pc 32) (cond (Nat.ble pc 31) (cond (Nat.beq pc 31) (some (42, 0, 0, [], 32)) none) (cond (Nat.beq pc 32) (some (2, 0, 0, [], 33)) none)) (cond (Nat.ble pc 33) (cond (Nat.beq pc 33) (some (40, 69, 64, [], 36)) none) (cond (Nat.beq pc 36) (some (3, 0, 2, [], 37)) none)))) (cond (Nat.ble pc 39) (cond (Nat.ble pc 37) (cond (Nat.beq pc 37) (some (0, 0, 0, [], 38)) none) (cond (Nat.ble pc 38) (cond (Nat.beq pc 38) (some (3, 0, 3, [], 39)) none) (cond (Nat.beq pc 39) (some (1, 0, 3, [], 40)) none))) (cond (Nat.ble pc 41) (cond (Nat.ble pc 40) (cond (Nat.beq pc 40) (some (2, 0, 0, [], 41)) none) (cond (Nat.beq pc 41) (some (1, 0, 1, [], 42)) none)) (cond (Nat.ble pc 42) (cond (Nat.beq pc 42) (some (0, 3, 0, [], 43)) none) (cond (Nat.beq pc 43) (some (40, 19, 72, [], 46)) none)))))) (cond (Nat.ble pc 71) (cond (Nat.ble pc 56) (cond (Nat.ble pc 50) (cond (Nat.ble pc 46) (cond (Nat.beq pc 46) (some (16, 3, 66, [], 49)) none) (cond (Nat.ble pc 49) (cond (Nat.beq pc 49) (some (2, 0, 0, [], 50)) none) (cond (Nat.beq pc 50) (some (2, 0, 0, [], 51)) none))) (cond (Nat.ble pc 52) (cond (Nat.ble pc 51) (cond (Nat.beq pc 51) (some (1, 0, 1, [], 52)) none) (cond (Nat.beq pc 52) (some (1, 0, 3, [], 53)) none)) (cond (Nat.ble pc 53) (cond (Nat.beq pc 53) (some (40, 57, 73, [], 56)) none) (cond (Nat.beq pc 56) (some (40, 41, 63, [], 59)) none)))) (cond (Nat.ble pc 63) (cond (Nat.ble pc 59) (cond (Nat.beq pc 59) (some (3, 0, 2, [], 60)) none) (cond (Nat.ble pc 60) (cond (Nat.beq pc 60) (some (5, 1, 3, [], 63)) none) (cond (Nat.beq pc 63) (some (15, 0, 39, [], 66)) none))) (cond (Nat.ble pc 67) (cond (Nat.ble pc 66) (cond (Nat.beq pc 66) (some (2, 0, 0, [], 67)) none) (cond (Nat.beq pc 67) (some (0, 1, 0, [], 68)) none)) (cond (Nat.ble pc 68) (cond (Nat.beq pc 68) (some (40, 13, 71, [], 71)) none) (cond (Nat.beq pc 71) (some (3, 0, 3, [], 72)) none))))) (cond (Nat.ble pc 81) (cond (Nat.ble pc 74) (cond (Nat.ble pc 72) (cond (Nat.beq pc 72) (some (2, 0, 0, [], 73)) none) (cond (Nat.ble pc 73) (cond (Nat.beq pc 73) (some (0, 2, 0, [], 74)) none) (cond (Nat.beq pc 74) (some (40, 13, 71, [], 77)) none))) (cond (Nat.ble pc 79) (cond (Nat.ble pc 77) (cond (Nat.beq pc 77) (some (3, 0, 4, [], 79)) none) (cond (Nat.beq pc 79) (some (2, 0, 0, [], 80)) none)) (cond (Nat.ble pc 80) (cond (Nat.beq pc 80) (some (0, 3, 0, [], 81)) none) (cond (Nat.beq pc 81) (some (40, 13, 71, [], 84)) none)))) (cond (Nat.ble pc 87) (cond (Nat.ble pc 84) (cond (Nat.beq pc 84) (some (3, 0, 5, [], 86)) none) (cond (Nat.ble pc 86) (cond (Nat.beq pc 86) (some (2, 0, 0, [], 87)) none) (cond (Nat.beq pc 87) (some (40, 35, 103, [], 90)) none))) (cond (Nat.ble pc 92) (cond (Nat.ble pc 90) (cond (Nat.beq pc 90) (some (37, 0, 6, [], 92)) none) (cond (Nat.beq pc 92) (some (2, 0, 0, [], 93)) none)) (cond (Nat.ble pc 93) (cond (Nat.beq pc 93) (some (40, 101, 65, [], 96)) none) (cond (Nat.beq pc 96) (some (1, 0, 3, [], 97)) none))))))) (cond (Nat.ble pc 145) (cond (Nat.ble pc 121) (cond (Nat.ble pc 110) (cond (Nat.ble pc 101) (cond (Nat.ble pc 97) (cond (Nat.beq pc 97) (some (16, 1, 199, [], 100)) none) (cond (Nat.ble pc 100) (cond (Nat.beq pc 100) (some (1, 0, 2, [], 101)) none) (cond (Nat.beq pc 101) (some (17, 5, 199, [], 104)) none))) (cond (Nat.ble pc 105) (cond (Nat.ble pc 104) (cond (Nat.beq pc 104) (some (2, 0, 0, [], 105)) none) (cond (Nat.beq pc 105) (some (0, 9, 0, [], 107)) none)) (cond (Nat.ble pc 107) (cond (Nat.beq pc 107) (some (40, 13, 71, [], 110)) none) (cond (Nat.beq pc 110) (some (17, 1, 199, [], 113)) none)))) (cond (Nat.ble pc 115) (cond (Nat.ble pc 113) (cond (Nat.beq pc 113) (some (2, 0, 0, [], 114)) none) (cond (Nat.ble pc 114) (cond (Nat.beq pc 114) (some (1, 0, 3, [], 115)) none) (cond (Nat.beq pc 115) (some (0, 0, 0, [], 116)) none))) (cond (Nat.ble pc 119) (cond (Nat.ble pc 116) (cond (Nat.beq pc 116) (some (40, 19, 72, [], 119)) none) (cond (Nat.beq pc 119) (some (2, 0, 0, [], 120)) none)) (cond (Nat.ble pc 120) (cond (Nat.beq pc 120) (some (1, 0, 1, [], 121)) none) (cond (Nat.beq pc 121) (some (0, 0, 0, [], 122)) none))))) (cond (Nat.ble pc 134) (cond (Nat.ble pc 128) (cond (Nat.ble pc 122) (cond (Nat.beq pc 122) (some (40, 19, 72, [], 125)) none) (cond (Nat.ble pc 125) (cond (Nat.beq pc 125) (some (16, 1, 199, [], 128)) none) (cond (Nat.beq pc 128) (some (2, 0, 0, [], 129)) none))) (cond (Nat.ble pc 130) (cond (Nat.ble pc 129) (cond (Nat.beq pc 129) (some (1, 0, 3, [], 130)) none) (cond (Nat.beq pc 130) (some (0, 4, 0, [], 131)) none)) (cond (Nat.ble pc 131) (cond (Nat.beq pc 131) (some (40, 19, 72, [], 134)) none) (cond (Nat.beq pc 134) (some (2, 0, 0, [], 135)) none)))) (cond (Nat.ble pc 137) (cond (Nat.ble pc 135) (cond (Nat.beq pc 135) (some (1, 0, 1, [], 136)) none) (cond (Nat.ble pc 136) (cond (Nat.beq pc 136) (some (0, 4, 0, [], 137)) none) (cond (Nat.beq pc 137) (some (40, 19, 72, [], 140)) none))) (cond (Nat.ble pc 143) (cond (Nat.ble pc 140) (cond (Nat.beq pc 140) (some (16, 1, 199, [], 143)) none) (cond (Nat.beq pc 143) (some (2, 0, 0, [], 144)) none)) (cond (Nat.ble pc 144) (cond (Nat.beq pc 144) (some (1, 0, 3, [], 145)) none) (cond (Nat.beq pc 145) (some (0, 3, 0, [], 146)) none)))))) (cond (Nat.ble pc 170) (cond (Nat.ble pc 158) (cond (Nat.ble pc 150) (cond (Nat.ble pc 146) (cond (Nat.beq pc 146) (some (40, 19, 72, [], 149)) none) (cond (Nat.ble pc 149) (cond (Nat.beq pc 149) (some (2, 0, 0, [], 150)) none) (cond (Nat.beq pc 150) (some (1, 0, 1, [], 151)) none))) (cond (Nat.ble pc 152) (cond (Nat.ble pc 151) (cond (Nat.beq pc 151) (some (0, 3, 0, [], 152)) none) (cond (Nat.beq pc 152) (some (40, 19, 72, [], 155)) none)) (cond (Nat.ble pc 155) (cond (Nat.beq pc 155) (some (16, 1, 199, [], 158)) none) (cond (Nat.beq pc 158) (some (2, 0, 0, [], 159)) none)))) (cond (Nat.ble pc 163) (cond (Nat.ble pc 159) (cond (Nat.beq pc 159) (some (0, 2, 0, [], 160)) none) (cond (Nat.ble pc 160) (cond (Nat.beq pc 160) (some (40, 13, 71, [], 163)) none) (cond (Nat.beq pc 163) (some (1, 0, 4, [], 165)) none))) (cond (Nat.ble pc 168) (cond (Nat.ble pc 165) (cond (Nat.beq pc 165) (some (16, 1, 199, [], 168)) none) (cond (Nat.beq pc 168) (some (2, 0, 0, [], 169)) none)) (cond (Nat.ble pc 169) (cond (Nat.beq pc 169) (some (0, 3, 0, [], 170)) none) (cond (Nat.beq pc 170) (some (40, 13, 71, [], 173)) none))))) (cond (Nat.ble pc 186) (cond (Nat.ble pc 178) (cond (Nat.ble pc 173) (cond (Nat.beq pc 173) (some (1, 0, 5, [], 175)) none) (cond (Nat.ble pc 175) (cond (Nat.beq pc 175) (some (16, 1, 199, [], 178)) none) (cond (Nat.beq pc 178) (some (2, 0, 0, [], 179)) none))) (cond (Nat.ble pc 182) (cond (Nat.ble pc 179) (cond (Nat.beq pc 179) (some (40, 104, 70, [], 182)) none) (cond (Nat.beq pc 182) (some (17, 2, 199, [], 185)) none)) (cond (Nat.ble pc 185) (cond (Nat.beq pc 185) (some (2, 0, 0, [], 186)) none) (cond (Nat.beq pc 186) (some (40, 35, 103, [], 189)) none)))) (cond (Nat.ble pc 192) (cond (Nat.ble pc 189) (cond (Nat.beq pc 189) (some (36, 0, 6, [], 191)) none) (cond (Nat.ble pc 191) (cond (Nat.beq pc 191) (some (35, 1, 0, [], 192)) none) (cond (Nat.beq pc 192) (some (17, 1, 199, [], 195)) none))) (cond (Nat.ble pc 196) (cond (Nat.ble pc 195) (cond (Nat.beq pc 195) (some (0, 1, 0, [], 196)) none) (cond (Nat.beq pc 196) (some (15, 0, 200, [], 199)) none)) (cond (Nat.ble pc 199) (cond (Nat.beq pc 199) (some (0, 0, 0, [], 200)) none) (cond (Nat.beq pc 200) (some (42, 0, 0, [], 201)) none)))))))) none
def qc114 (pc : Nat) : Option qX := cond (Nat.ble pc 437) (cond (Nat.ble pc 233) (cond (Nat.ble pc 120) (cond (Nat.ble pc 41) (cond (Nat.ble pc 18) (cond (Nat.ble pc 7) (cond (Nat.ble pc 2) (cond (Nat.ble pc 0) (cond (Nat.beq pc 0) (some (2, 0, 0, [], 1)) none) (cond (Nat.ble pc 1) (cond (Nat.beq pc 1) (some (0, 1, 0, [], 2)) none) (cond (Nat.beq pc 2) (some (40, 13, 71, [], 5)) none))) (cond (Nat.ble pc 5) (cond (Nat.beq pc 5) (some (3, 0, 3, [], 6)) none) (cond (Nat.ble pc 6) (cond (Nat.beq pc 6) (some (2, 0, 0, [], 7)) none) (cond (Nat.beq pc 7) (some (0, 8, 0, [], 9)) none)))) (cond (Nat.ble pc 14) (cond (Nat.ble pc 9) (cond (Nat.beq pc 9) (some (40, 13, 71, [], 12)) none) (cond (Nat.ble pc 12) (cond (Nat.beq pc 12) (some (3, 0, 4, [], 14)) none) (cond (Nat.beq pc 14) (some (1, 0, 1, [], 15)) none))) (cond (Nat.ble pc 16) (cond (Nat.ble pc 15) (cond (Nat.beq pc 15) (some (0, 4, 0, [], 16)) none) (cond (Nat.beq pc 16) (some (11, 3, 0, [], 17)) none)) (cond (Nat.ble pc 17) (cond (Nat.beq pc 17) (some (1, 0, 3, [], 18)) none) (cond (Nat.beq pc 18) (some (0, 1, 0, [], 19)) none))))) (cond (Nat.ble pc 29) (cond (Nat.ble pc 23) (cond (Nat.ble pc 19) (cond (Nat.beq pc 19) (some (6, 0, 0, [], 20)) none) (cond (Nat.ble pc 20) (cond (Nat.beq pc 20) (some (40, 78, 102, [], 23)) none) (cond (Nat.beq pc 23) (some (3, 0, 5, [], 25)) none))) (cond (Nat.ble pc 26) (cond (Nat.ble pc 25) (cond (Nat.beq pc 25) (some (1, 0, 1, [], 26)) none) (cond (Nat.beq pc 26) (some (0, 9, 0, [], 28)) none)) (cond (Nat.ble pc 28) (cond (Nat.beq pc 28) (some (11, 3, 0, [], 29)) none) (cond (Nat.beq pc 29) (some (2, 0, 0, [], 30)) none)))) (cond (Nat.ble pc 34) (cond (Nat.ble pc 30) (cond (Nat.beq pc 30) (some (0, 2, 0, [], 31)) none) (cond (Nat.ble pc 31) (cond (Nat.beq pc 31) (some (40, 13, 71, [], 34)) none) (cond (Nat.beq pc 34) (some (0, 1, 0, [], 35)) none))) (cond (Nat.ble pc 36) (cond (Nat.ble pc 35) (cond (Nat.beq pc 35) (some (6, 0, 0, [], 36)) none) (cond (Nat.beq pc 36) (some (40, 78, 102, [], 39)) none)) (cond (Nat.ble pc 39) (cond (Nat.beq pc 39) (some (3, 0, 6, [], 41)) none) (cond (Nat.beq pc 41) (some (2, 0, 0, [], 42)) none)))))) (cond (Nat.ble pc 65) (cond (Nat.ble pc 54) (cond (Nat.ble pc 47) (cond (Nat.ble pc 42) (cond (Nat.beq pc 42) (some (40, 35, 103, [], 45)) none) (cond (Nat.ble pc 45) (cond (Nat.beq pc 45) (some (37, 0, 7, [], 47)) none) (cond (Nat.beq pc 47) (some (2, 0, 0, [], 48)) none))) (cond (Nat.ble pc 50) (cond (Nat.ble pc 48) (cond (Nat.beq pc 48) (some (1, 0, 5, [], 50)) none) (cond (Nat.beq pc 50) (some (0, 1, 0, [], 51)) none)) (cond (Nat.ble pc 51) (cond (Nat.beq pc 51) (some (40, 19, 72, [], 54)) none) (cond (Nat.beq pc 54) (some (2, 0, 0, [], 55)) none)))) (cond (Nat.ble pc 58) (cond (Nat.ble pc 55) (cond (Nat.beq pc 55) (some (1, 0, 5, [], 57)) none) (cond (Nat.ble pc 57) (cond (Nat.beq pc 57) (some (0, 2, 0, [], 58)) none) (cond (Nat.beq pc 58) (some (40, 19, 72, [], 61)) none))) (cond (Nat.ble pc 62) (cond (Nat.ble pc 61) (cond (Nat.beq pc 61) (some (6, 0, 0, [], 62)) none) (cond (Nat.beq pc 62) (some (3, 0, 9, [], 64)) none)) (cond (Nat.ble pc 64) (cond (Nat.beq pc 64) (some (2, 0, 0, [], 65)) none) (cond (Nat.beq pc 65) (some (1, 0, 5, [], 67)) none))))) (cond (Nat.ble pc 78) (cond (Nat.ble pc 72) (cond (Nat.ble pc 67) (cond (Nat.beq pc 67) (some (1, 0, 6, [], 69)) none) (cond (Nat.ble pc 69) (cond (Nat.beq pc 69) (some (40, 23, 74, [], 72)) none) (cond (Nat.beq pc 72) (some (3, 0, 10, [], 74)) none))) (cond (Nat.ble pc 75) (cond (Nat.ble pc 74) (cond (Nat.beq pc 74) (some (0, 0, 0, [], 75)) none) (cond (Nat.beq pc 75) (some (3, 0, 11, [], 77)) none)) (cond (Nat.ble pc 77) (cond (Nat.beq pc 77) (some (1, 0, 1, [], 78)) none) (cond (Nat.beq pc 78) (some (0, 8, 0, [], 80)) none)))) (cond (Nat.ble pc 112) (cond (Nat.ble pc 80) (cond (Nat.beq pc 80) (some (40, 78, 102, [], 83)) none) (cond (Nat.ble pc 83) (cond (Nat.beq pc 83) (some (20, 0, 259, [112, 123, 178, 240], 112)) none) (cond (Nat.beq pc 112) (some (2, 0, 0, [], 113)) none))) (cond (Nat.ble pc 115) (cond (Nat.ble pc 113) (cond (Nat.beq pc 113) (some (1, 0, 5, [], 115)) none) (cond (Nat.beq pc 115) (some (40, 44, 66, [], 118)) none)) (cond (Nat.ble pc 118) (cond (Nat.beq pc 118) (some (3, 0, 11, [], 120)) none) (cond (Nat.beq pc 120) (some (15, 0, 339, [], 123)) none))))))) (cond (Nat.ble pc 178) (cond (Nat.ble pc 150) (cond (Nat.ble pc 132) (cond (Nat.ble pc 126) (cond (Nat.ble pc 123) (cond (Nat.beq pc 123) (some (2, 0, 0, [], 124)) none) (cond (Nat.ble pc 124) (cond (Nat.beq pc 124) (some (1, 0, 5, [], 126)) none) (cond (Nat.beq pc 126) (some (1, 0, 6, [], 128)) none))) (cond (Nat.ble pc 129) (cond (Nat.ble pc 128) (cond (Nat.beq pc 128) (some (1, 0, 1, [], 129)) none) (cond (Nat.beq pc 129) (some (0, 12, 0, [], 131)) none)) (cond (Nat.ble pc 131) (cond (Nat.beq pc 131) (some (11, 3, 0, [], 132)) none) (cond (Nat.beq pc 132) (some (0, 1000, 0, [], 135)) none)))) (cond (Nat.ble pc 141) (cond (Nat.ble pc 135) (cond (Nat.beq pc 135) (some (40, 78, 102, [], 138)) none) (cond (Nat.ble pc 138) (cond (Nat.beq pc 138) (some (40, 47, 67, [], 141)) none) (cond (Nat.beq pc 141) (some (3, 0, 11, [], 143)) none))) (cond (Nat.ble pc 145) (cond (Nat.ble pc 143) (cond (Nat.beq pc 143) (some (1, 0, 11, [], 145)) none) (cond (Nat.beq pc 145) (some (17, 2, 339, [], 148)) none)) (cond (Nat.ble pc 148) (cond (Nat.beq pc 148) (some (1, 0, 11, [], 150)) none) (cond (Nat.beq pc 150) (some (1, 0, 10, [], 152)) none))))) (cond (Nat.ble pc 164) (cond (Nat.ble pc 156) (cond (Nat.ble pc 152) (cond (Nat.beq pc 152) (some (16, 1, 176, [], 155)) none) (cond (Nat.ble pc 155) (cond (Nat.beq pc 155) (some (2, 0, 0, [], 156)) none) (cond (Nat.beq pc 156) (some (1, 0, 5, [], 158)) none))) (cond (Nat.ble pc 160) (cond (Nat.ble pc 158) (cond (Nat.beq pc 158) (some (1, 0, 6, [], 160)) none) (cond (Nat.beq pc 160) (some (40, 23, 74, [], 163)) none)) (cond (Nat.ble pc 163) (cond (Nat.beq pc 163) (some (1, 0, 1, [], 164)) none) (cond (Nat.beq pc 164) (some (0, 12, 0, [], 166)) none)))) (cond (Nat.ble pc 170) (cond (Nat.ble pc 166) (cond (Nat.beq pc 166) (some (11, 3, 0, [], 167)) none) (cond (Nat.ble pc 167) (cond (Nat.beq pc 167) (some (0, 1000, 0, [], 170)) none) (cond (Nat.beq pc 170) (some (40, 78, 102, [], 173)) none))) (cond (Nat.ble pc 176) (cond (Nat.ble pc 173) (cond (Nat.beq pc 173) (some (16, 0, 339, [], 176)) none) (cond (Nat.beq pc 176) (some (0, 0, 0, [], 177)) none)) (cond (Nat.ble pc 177) (cond (Nat.beq pc 177) (some (42, 0, 0, [], 178)) none) (cond (Nat.beq pc 178) (some (2, 0, 0, [], 179)) none)))))) (cond (Nat.ble pc 206) (cond (Nat.ble pc 193) (cond (Nat.ble pc 183) (cond (Nat.ble pc 179) (cond (Nat.beq pc 179) (some (1, 0, 5, [], 181)) none) (cond (Nat.ble pc 181) (cond (Nat.beq pc 181) (some (1, 0, 6, [], 183)) none) (cond (Nat.beq pc 183) (some (40, 51, 68, [], 186)) none))) (cond (Nat.ble pc 188) (cond (Nat.ble pc 186) (cond (Nat.beq pc 186) (some (3, 0, 11, [], 188)) none) (cond (Nat.beq pc 188) (some (1, 0, 11, [], 190)) none)) (cond (Nat.ble pc 190) (cond (Nat.beq pc 190) (some (17, 2, 339, [], 193)) none) (cond (Nat.beq pc 193) (some (2, 0, 0, [], 194)) none)))) (cond (Nat.ble pc 197) (cond (Nat.ble pc 194) (cond (Nat.beq pc 194) (some (1, 0, 5, [], 196)) none) (cond (Nat.ble pc 196) (cond (Nat.beq pc 196) (some (0, 0, 0, [], 197)) none) (cond (Nat.beq pc 197) (some (40, 19, 72, [], 200)) none))) (cond (Nat.ble pc 202) (cond (Nat.ble pc 200) (cond (Nat.beq pc 200) (some (1, 0, 11, [], 202)) none) (cond (Nat.beq pc 202) (some (16, 1, 238, [], 205)) none)) (cond (Nat.ble pc 205) (cond (Nat.beq pc 205) (some (2, 0, 0, [], 206)) none) (cond (Nat.beq pc 206) (some (1, 0, 5, [], 208)) none))))) (cond (Nat.ble pc 221) (cond (Nat.ble pc 213) (cond (Nat.ble pc 208) (cond (Nat.beq pc 208) (some (1, 0, 6, [], 210)) none) (cond (Nat.ble pc 210) (cond (Nat.beq pc 210) (some (40, 23, 74, [], 213)) none) (cond (Nat.beq pc 213) (some (0, (-9), 0, [], 215)) none))) (cond (Nat.ble pc 218) (cond (Nat.ble pc 215) (cond (Nat.beq pc 215) (some (16, 1, 238, [], 218)) none) (cond (Nat.beq pc 218) (some (2, 0, 0, [], 219)) none)) (cond (Nat.ble pc 219) (cond (Nat.beq pc 219) (some (1, 0, 5, [], 221)) none) (cond (Nat.beq pc 221) (some (0, 1, 0, [], 222)) none)))) (cond (Nat.ble pc 226) (cond (Nat.ble pc 222) (cond (Nat.beq pc 222) (some (40, 19, 72, [], 225)) none) (cond (Nat.ble pc 225) (cond (Nat.beq pc 225) (some (2, 0, 0, [], 226)) none) (cond (Nat.beq pc 226) (some (1, 0, 5, [], 228)) none))) (cond (Nat.ble pc 229) (cond (Nat.ble pc 228) (cond (Nat.beq pc 228) (some (0, 2, 0, [], 229)) none) (cond (Nat.beq pc 229) (some (40, 19, 72, [], 232)) none)) (cond (Nat.ble pc 232) (cond (Nat.beq pc 232) (some (6, 0, 0, [], 233)) none) (cond (Nat.beq pc 233) (some (1, 0, 9, [], 235)) none)))))))) (cond (Nat.ble pc 328) (cond (Nat.ble pc 280) (cond (Nat.ble pc 256) (cond (Nat.ble pc 243) (cond (Nat.ble pc 239) (cond (Nat.ble pc 235) (cond (Nat.beq pc 235) (some (16, 2, 339, [], 238)) none) (cond (Nat.ble pc 238) (cond (Nat.beq pc 238) (some (0, 0, 0, [], 239)) none) (cond (Nat.beq pc 239) (some (42, 0, 0, [], 240)) none))) (cond (Nat.ble pc 241) (cond (Nat.ble pc 240) (cond (Nat.beq pc 240) (some (2, 0, 0, [], 241)) none) (cond (Nat.beq pc 241) (some (0, 1, 0, [], 242)) none)) (cond (Nat.ble pc 242) (cond (Nat.beq pc 242) (some (1, 0, 1, [], 243)) none) (cond (Nat.beq pc 243) (some (0, 12, 0, [], 245)) none)))) (cond (Nat.ble pc 247) (cond (Nat.ble pc 245) (cond (Nat.beq pc 245) (some (11, 3, 0, [], 246)) none) (cond (Nat.ble pc 246) (cond (Nat.beq pc 246) (some (0, 4, 0, [], 247)) none) (cond (Nat.beq pc 247) (some (40, 78, 102, [], 250)) none))) (cond (Nat.ble pc 251) (cond (Nat.ble pc 250) (cond (Nat.beq pc 250) (some (6, 0, 0, [], 251)) none) (cond (Nat.beq pc 251) (some (40, 54, 69, [], 254)) none)) (cond (Nat.ble pc 254) (cond (Nat.beq pc 254) (some (3, 0, 11, [], 256)) none) (cond (Nat.beq pc 256) (some (15, 0, 339, [], 259)) none))))) (cond (Nat.ble pc 269) (cond (Nat.ble pc 261) (cond (Nat.ble pc 259) (cond (Nat.beq pc 259) (some (2, 0, 0, [], 260)) none) (cond (Nat.ble pc 260) (cond (Nat.beq pc 260) (some (1, 0, 1, [], 261)) none) (cond (Nat.beq pc 261) (some (2, 0, 2, [], 262)) none))) (cond (Nat.ble pc 265) (cond (Nat.ble pc 262) (cond (Nat.beq pc 262) (some (40, 107, 105, [], 265)) none) (cond (Nat.beq pc 265) (some (2, 0, 0, [], 266)) none)) (cond (Nat.ble pc 266) (cond (Nat.beq pc 266) (some (40, 101, 65, [], 269)) none) (cond (Nat.beq pc 269) (some (3, 0, 11, [], 271)) none)))) (cond (Nat.ble pc 273) (cond (Nat.ble pc 271) (cond (Nat.beq pc 271) (some (2, 0, 2, [], 272)) none) (cond (Nat.ble pc 272) (cond (Nat.beq pc 272) (some (0, 0, 0, [], 273)) none) (cond (Nat.beq pc 273) (some (25, 0, 0, [], 274)) none))) (cond (Nat.ble pc 277) (cond (Nat.ble pc 274) (cond (Nat.beq pc 274) (some (17, 5, 298, [], 277)) none) (cond (Nat.beq pc 277) (some (1, 0, 3, [], 278)) none)) (cond (Nat.ble pc 278) (cond (Nat.beq pc 278) (some (0, 30, 0, [], 280)) none) (cond (Nat.beq pc 280) (some (16, 3, 298, [], 283)) none)))))) (cond (Nat.ble pc 305) (cond (Nat.ble pc 296) (cond (Nat.ble pc 286) (cond (Nat.ble pc 283) (cond (Nat.beq pc 283) (some (1, 0, 11, [], 285)) none) (cond (Nat.ble pc 285) (cond (Nat.beq pc 285) (some (1, 0, 3, [], 286)) none) (cond (Nat.beq pc 286) (some (16, 0, 298, [], 289)) none))) (cond (Nat.ble pc 291) (cond (Nat.ble pc 289) (cond (Nat.beq pc 289) (some (1, 0, 11, [], 291)) none) (cond (Nat.beq pc 291) (some (0, (-3), 0, [], 293)) none)) (cond (Nat.ble pc 293) (cond (Nat.beq pc 293) (some (16, 0, 298, [], 296)) none) (cond (Nat.beq pc 296) (some (0, 0, 0, [], 297)) none)))) (cond (Nat.ble pc 299) (cond (Nat.ble pc 297) (cond (Nat.beq pc 297) (some (42, 0, 0, [], 298)) none) (cond (Nat.ble pc 298) (cond (Nat.beq pc 298) (some (0, 0, 0, [], 299)) none) (cond (Nat.beq pc 299) (some (3, 0, 12, [], 301)) none))) (cond (Nat.ble pc 303) (cond (Nat.ble pc 301) (cond (Nat.beq pc 301) (some (1, 0, 12, [], 303)) none) (cond (Nat.beq pc 303) (some (2, 0, 2, [], 304)) none)) (cond (Nat.ble pc 304) (cond (Nat.beq pc 304) (some (0, 0, 0, [], 305)) none) (cond (Nat.beq pc 305) (some (25, 0, 0, [], 306)) none))))) (cond (Nat.ble pc 317) (cond (Nat.ble pc 311) (cond (Nat.ble pc 306) (cond (Nat.beq pc 306) (some (16, 3, 339, [], 309)) none) (cond (Nat.ble pc 309) (cond (Nat.beq pc 309) (some (1, 0, 11, [], 311)) none) (cond (Nat.beq pc 311) (some (1, 0, 3, [], 312)) none))) (cond (Nat.ble pc 315) (cond (Nat.ble pc 312) (cond (Nat.beq pc 312) (some (16, 1, 339, [], 315)) none) (cond (Nat.beq pc 315) (some (2, 0, 0, [], 316)) none)) (cond (Nat.ble pc 316) (cond (Nat.beq pc 316) (some (1, 0, 3, [], 317)) none) (cond (Nat.beq pc 317) (some (1, 0, 12, [], 319)) none)))) (cond (Nat.ble pc 323) (cond (Nat.ble pc 319) (cond (Nat.beq pc 319) (some (40, 57, 73, [], 322)) none) (cond (Nat.ble pc 322) (cond (Nat.beq pc 322) (some (2, 0, 2, [], 323)) none) (cond (Nat.beq pc 323) (some (1, 0, 12, [], 325)) none))) (cond (Nat.ble pc 326) (cond (Nat.ble pc 325) (cond (Nat.beq pc 325) (some (0, 1, 0, [], 326)) none) (cond (Nat.beq pc 326) (some (6, 0, 0, [], 327)) none)) (cond (Nat.ble pc 327) (cond (Nat.beq pc 327) (some (25, 0, 0, [], 328)) none) (cond (Nat.beq pc 328) (some (16, 0, 333, [], 331)) none))))))) (cond (Nat.ble pc 385) (cond (Nat.ble pc 357) (cond (Nat.ble pc 344) (cond (Nat.ble pc 333) (cond (Nat.ble pc 331) (cond (Nat.beq pc 331) (some (0, 0, 0, [], 332)) none) (cond (Nat.ble pc 332) (cond (Nat.beq pc 332) (some (42, 0, 0, [], 333)) none) (cond (Nat.beq pc 333) (some (5, 1, 12, [], 336)) none))) (cond (Nat.ble pc 339) (cond (Nat.ble pc 336) (cond (Nat.beq pc 336) (some (15, 0, 301, [], 339)) none) (cond (Nat.beq pc 339) (some (1, 0, 11, [], 341)) none)) (cond (Nat.ble pc 341) (cond (Nat.beq pc 341) (some (17, 3, 371, [], 344)) none) (cond (Nat.beq pc 344) (some (2, 0, 0, [], 345)) none)))) (cond (Nat.ble pc 350) (cond (Nat.ble pc 345) (cond (Nat.beq pc 345) (some (40, 35, 103, [], 348)) none) (cond (Nat.ble pc 348) (cond (Nat.beq pc 348) (some (36, 0, 7, [], 350)) none) (cond (Nat.beq pc 350) (some (35, 1, 0, [], 351)) none))) (cond (Nat.ble pc 354) (cond (Nat.ble pc 351) (cond (Nat.beq pc 351) (some (17, 1, 369, [], 354)) none) (cond (Nat.beq pc 354) (some (2, 0, 0, [], 355)) none)) (cond (Nat.ble pc 355) (cond (Nat.beq pc 355) (some (0, 8, 0, [], 357)) none) (cond (Nat.beq pc 357) (some (40, 13, 71, [], 360)) none))))) (cond (Nat.ble pc 371) (cond (Nat.ble pc 365) (cond (Nat.ble pc 360) (cond (Nat.beq pc 360) (some (1, 0, 4, [], 362)) none) (cond (Nat.ble pc 362) (cond (Nat.beq pc 362) (some (16, 1, 369, [], 365)) none) (cond (Nat.beq pc 365) (some (0, 1, 0, [], 366)) none))) (cond (Nat.ble pc 369) (cond (Nat.ble pc 366) (cond (Nat.beq pc 366) (some (15, 0, 370, [], 369)) none) (cond (Nat.beq pc 369) (some (0, 0, 0, [], 370)) none)) (cond (Nat.ble pc 370) (cond (Nat.beq pc 370) (some (42, 0, 0, [], 371)) none) (cond (Nat.beq pc 371) (some (2, 0, 0, [], 372)) none)))) (cond (Nat.ble pc 377) (cond (Nat.ble pc 372) (cond (Nat.beq pc 372) (some (0, 8, 0, [], 374)) none) (cond (Nat.ble pc 374) (cond (Nat.beq pc 374) (some (40, 13, 71, [], 377)) none) (cond (Nat.beq pc 377) (some (1, 0, 4, [], 379)) none))) (cond (Nat.ble pc 380) (cond (Nat.ble pc 379) (cond (Nat.beq pc 379) (some (0, 5, 0, [], 380)) none) (cond (Nat.beq pc 380) (some (16, 3, 390, [], 383)) none)) (cond (Nat.ble pc 383) (cond (Nat.beq pc 383) (some (1, 0, 4, [], 385)) none) (cond (Nat.beq pc 385) (some (0, 1, 0, [], 386)) none)))))) (cond (Nat.ble pc 409) (cond (Nat.ble pc 397) (cond (Nat.ble pc 390) (cond (Nat.ble pc 386) (cond (Nat.beq pc 386) (some (6, 0, 0, [], 387)) none) (cond (Nat.ble pc 387) (cond (Nat.beq pc 387) (some (15, 0, 391, [], 390)) none) (cond (Nat.beq pc 390) (some (0, 5, 0, [], 391)) none))) (cond (Nat.ble pc 394) (cond (Nat.ble pc 391) (cond (Nat.beq pc 391) (some (16, 1, 436, [], 394)) none) (cond (Nat.beq pc 394) (some (1, 0, 1, [], 395)) none)) (cond (Nat.ble pc 395) (cond (Nat.beq pc 395) (some (0, 24, 0, [], 397)) none) (cond (Nat.beq pc 397) (some (11, 3, 0, [], 398)) none)))) (cond (Nat.ble pc 400) (cond (Nat.ble pc 398) (cond (Nat.beq pc 398) (some (0, 3, 0, [], 399)) none) (cond (Nat.ble pc 399) (cond (Nat.beq pc 399) (some (11, 0, 0, [], 400)) none) (cond (Nat.beq pc 400) (some (17, 4, 432, [], 403)) none))) (cond (Nat.ble pc 404) (cond (Nat.ble pc 403) (cond (Nat.beq pc 403) (some (2, 0, 0, [], 404)) none) (cond (Nat.beq pc 404) (some (40, 104, 70, [], 407)) none)) (cond (Nat.ble pc 407) (cond (Nat.beq pc 407) (some (1, 0, 4, [], 409)) none) (cond (Nat.beq pc 409) (some (0, 5, 0, [], 410)) none))))) (cond (Nat.ble pc 423) (cond (Nat.ble pc 415) (cond (Nat.ble pc 410) (cond (Nat.beq pc 410) (some (16, 3, 418, [], 413)) none) (cond (Nat.ble pc 413) (cond (Nat.beq pc 413) (some (1, 0, 4, [], 415)) none) (cond (Nat.beq pc 415) (some (15, 0, 419, [], 418)) none))) (cond (Nat.ble pc 419) (cond (Nat.ble pc 418) (cond (Nat.beq pc 418) (some (0, 4, 0, [], 419)) none) (cond (Nat.beq pc 419) (some (16, 1, 436, [], 422)) none)) (cond (Nat.ble pc 422) (cond (Nat.beq pc 422) (some (2, 0, 0, [], 423)) none) (cond (Nat.beq pc 423) (some (40, 35, 103, [], 426)) none)))) (cond (Nat.ble pc 429) (cond (Nat.ble pc 426) (cond (Nat.beq pc 426) (some (36, 0, 7, [], 428)) none) (cond (Nat.ble pc 428) (cond (Nat.beq pc 428) (some (35, 1, 0, [], 429)) none) (cond (Nat.beq pc 429) (some (17, 1, 436, [], 432)) none))) (cond (Nat.ble pc 433) (cond (Nat.ble pc 432) (cond (Nat.beq pc 432) (some (0, 1, 0, [], 433)) none) (cond (Nat.beq pc 433) (some (15, 0, 437, [], 436)) none)) (cond (Nat.ble pc 436) (cond (Nat.beq pc 436) (some (0, 0, 0, [], 437)) none) (cond (Nat.beq pc 437) (some (42, 0, 0, [], 438)) none))))))))) none
def qcd (m pc : Nat) : Option qX := cond (Nat.ble m 56) (cond (Nat.ble m 27) (cond (Nat.ble m 13) (cond (Nat.ble m 6) (cond (Nat.ble m 2) (cond (Nat.ble m 0) (cond (Nat.beq m 0) (qc0 pc) (none)) (cond (Nat.ble m 1) (cond (Nat.beq m 1) (qc1 pc) (none)) (cond (Nat.beq m 2) (qc2 pc) (none)))) (cond (Nat.ble m 4) (cond (Nat.ble m 3) (cond (Nat.beq m 3) (qc3 pc) (none)) (cond (Nat.beq m 4) (qc4 pc) (none))) (cond (Nat.ble m 5) (cond (Nat.beq m 5) (qc5 pc) (none)) (cond (Nat.beq m 6) (qc6 pc) (none))))) (cond (Nat.ble m 9) (cond (Nat.ble m 7) (cond (Nat.beq m 7) (qc7 pc) (none)) (cond (Nat.ble m 8) (cond (Nat.beq m 8) (qc8 pc) (none)) (cond (Nat.beq m 9) (qc9 pc) (none)))) (cond (Nat.ble m 11) (cond (Nat.ble m 10) (cond (Nat.beq m 10) (qc10 pc) (none)) (cond (Nat.beq m 11) (qc11 pc) (none))) (cond (Nat.ble m 12) (cond (Nat.beq m 12) (qc12 pc) (none)) (cond (Nat.beq m 13) (qc13 pc) (none)))))) (cond (Nat.ble m 20) (cond (Nat.ble m 16) (cond (Nat.ble m 14) (cond (Nat.beq m 14) (qc14 pc) (none)) (cond (Nat.ble m 15) (cond (Nat.beq m 15) (qc15 pc) (none)) (cond (Nat.beq m 16) (qc16 pc) (none)))) (cond (Nat.ble m 18) (cond (Nat.ble m 17) (cond (Nat.beq m 17) (qc17 pc) (none)) (cond (Nat.beq m 18) (qc18 pc) (none))) (cond (Nat.ble m 19) (cond (Nat.beq m 19) (qc19 pc) (none)) (cond (Nat.beq m 20) (qc20 pc) (none))))) (cond (Nat.ble m 23) (cond (Nat.ble m 21) (cond (Nat.beq m 21) (qc21 pc) (none)) (cond (Nat.ble m 22) (cond (Nat.beq m 22) (qc22 pc) (none)) (cond (Nat.beq m 23) (qc23 pc) (none)))) (cond (Nat.ble m 25) (cond (Nat.ble m 24) (cond (Nat.beq m 24) (qc24 pc) (none)) (cond (Nat.beq m 25) (qc25 pc) (none))) (cond (Nat.ble m 26) (cond (Nat.beq m 26) (qc26 pc) (none)) (cond (Nat.beq m 27) (qc27 pc) (none))))))) (cond (Nat.ble m 41) (cond (Nat.ble m 34) (cond (Nat.ble m 30) (cond (Nat.ble m 28) (cond (Nat.beq m 28) (qc28 pc) (none)) (cond (Nat.ble m 29) (cond (Nat.beq m 29) (qc29 pc) (none)) (cond (Nat.beq m 30) (qc30 pc) (none)))) (cond (Nat.ble m 32) (cond (Nat.ble m 31) (cond (Nat.beq m 31) (qc31 pc) (none)) (cond (Nat.beq m 32) (qc32 pc) (none))) (cond (Nat.ble m 33) (cond (Nat.beq m 33) (qc33 pc) (none)) (cond (Nat.beq m 34) (qc34 pc) (none))))) (cond (Nat.ble m 37) (cond (Nat.ble m 35) (cond (Nat.beq m 35) (qc35 pc) (none)) (cond (Nat.ble m 36) (cond (Nat.beq m 36) (qc36 pc) (none)) (cond (Nat.beq m 37) (qc37 pc) (none)))) (cond (Nat.ble m 39) (cond (Nat.ble m 38) (cond (Nat.beq m 38) (qc38 pc) (none)) (cond (Nat.beq m 39) (qc39 pc) (none))) (cond (Nat.ble m 40) (cond (Nat.beq m 40) (qc40 pc) (none)) (cond (Nat.beq m 41) (qc41 pc) (none)))))) (cond (Nat.ble m 48) (cond (Nat.ble m 44) (cond (Nat.ble m 42) (cond (Nat.beq m 42) (qc42 pc) (none)) (cond (Nat.ble m 43) (cond (Nat.beq m 43) (qc43 pc) (none)) (cond (Nat.beq m 44) (qc44 pc) (none)))) (cond (Nat.ble m 46) (cond (Nat.ble m 45) (cond (Nat.beq m 45) (qc45 pc) (none)) (cond (Nat.beq m 46) (qc46 pc) (none))) (cond (Nat.ble m 47) (cond (Nat.beq m 47) (qc47 pc) (none)) (cond (Nat.beq m 48) (qc48 pc) (none))))) (cond (Nat.ble m 52) (cond (Nat.ble m 50) (cond (Nat.ble m 49) (cond (Nat.beq m 49) (qc49 pc) (none)) (cond (Nat.beq m 50) (qc50 pc) (none))) (cond (Nat.ble m 51) (cond (Nat.beq m 51) (qc51 pc) (none)) (cond (Nat.beq m 52) (qc52 pc) (none)))) (cond (Nat.ble m 54) (cond (Nat.ble m 53) (cond (Nat.beq m 53) (qc53 pc) (none)) (cond (Nat.beq m 54) (qc54 pc) (none))) (cond (Nat.ble m 55) (cond (Nat.beq m 55) (qc55 pc) (none)) (cond (Nat.beq m 56) (qc56 pc) (none)))))))) (cond (Nat.ble m 85) (cond (Nat.ble m 70) (cond (Nat.ble m 63) (cond (Nat.ble m 59) (cond (Nat.ble m 57) (cond (Nat.beq m 57) (qc57 pc) (none)) (cond (Nat.ble m 58) (cond (Nat.beq m 58) (qc58 pc) (none)) (cond (Nat.beq m 59) (qc59 pc) (none)))) (cond (Nat.ble m 61) (cond (Nat.ble m 60) (cond (Nat.beq m 60) (qc60 pc) (none)) (cond (Nat.beq m 61) (qc61 pc) (none))) (cond (Nat.ble m 62) (cond (Nat.beq m 62) (qc62 pc) (none)) (cond (Nat.beq m 63) (qc63 pc) (none))))) (cond (Nat.ble m 66) (cond (Nat.ble m 64) (cond (Nat.beq m 64) (qc64 pc) (none)) (cond (Nat.ble m 65) (cond (Nat.beq m 65) (qc65 pc) (none)) (cond (Nat.beq m 66) (qc66 pc) (none)))) (cond (Nat.ble m 68) (cond (Nat.ble m 67) (cond (Nat.beq m 67) (qc67 pc) (none)) (cond (Nat.beq m 68) (qc68 pc) (none))) (cond (Nat.ble m 69) (cond (Nat.beq m 69) (qc69 pc) (none)) (cond (Nat.beq m 70) (qc70 pc) (none)))))) (cond (Nat.ble m 77) (cond (Nat.ble m 73) (cond (Nat.ble m 71) (cond (Nat.beq m 71) (qc71 pc) (none)) (cond (Nat.ble m 72) (cond (Nat.beq m 72) (qc72 pc) (none)) (cond (Nat.beq m 73) (qc73 pc) (none)))) (cond (Nat.ble m 75) (cond (Nat.ble m 74) (cond (Nat.beq m 74) (qc74 pc) (none)) (cond (Nat.beq m 75) (qc75 pc) (none))) (cond (Nat.ble m 76) (cond (Nat.beq m 76) (qc76 pc) (none)) (cond (Nat.beq m 77) (qc77 pc) (none))))) (cond (Nat.ble m 81) (cond (Nat.ble m 79) (cond (Nat.ble m 78) (cond (Nat.beq m 78) (qc78 pc) (none)) (cond (Nat.beq m 79) (qc79 pc) (none))) (cond (Nat.ble m 80) (cond (Nat.beq m 80) (qc80 pc) (none)) (cond (Nat.beq m 81) (qc81 pc) (none)))) (cond (Nat.ble m 83) (cond (Nat.ble m 82) (cond (Nat.beq m 82) (qc82 pc) (none)) (cond (Nat.beq m 83) (qc83 pc) (none))) (cond (Nat.ble m 84) (cond (Nat.beq m 84) (qc84 pc) (none)) (cond (Nat.beq m 85) (qc85 pc) (none))))))) (cond (Nat.ble m 99) (cond (Nat.ble m 92) (cond (Nat.ble m 88) (cond (Nat.ble m 86) (cond (Nat.beq m 86) (qc86 pc) (none)) (cond (Nat.ble m 87) (cond (Nat.beq m 87) (qc87 pc) (none)) (cond (Nat.beq m 88) (qc88 pc) (none)))) (cond (Nat.ble m 90) (cond (Nat.ble m 89) (cond (Nat.beq m 89) (qc89 pc) (none)) (cond (Nat.beq m 90) (qc90 pc) (none))) (cond (Nat.ble m 91) (cond (Nat.beq m 91) (qc91 pc) (none)) (cond (Nat.beq m 92) (qc92 pc) (none))))) (cond (Nat.ble m 95) (cond (Nat.ble m 93) (cond (Nat.beq m 93) (qc93 pc) (none)) (cond (Nat.ble m 94) (cond (Nat.beq m 94) (qc94 pc) (none)) (cond (Nat.beq m 95) (qc95 pc) (none)))) (cond (Nat.ble m 97) (cond (Nat.ble m 96) (cond (Nat.beq m 96) (qc96 pc) (none)) (cond (Nat.beq m 97) (qc97 pc) (none))) (cond (Nat.ble m 98) (cond (Nat.beq m 98) (qc98 pc) (none)) (cond (Nat.beq m 99) (qc99 pc) (none)))))) (cond (Nat.ble m 106) (cond (Nat.ble m 102) (cond (Nat.ble m 100) (cond (Nat.beq m 100) (qc100 pc) (none)) (cond (Nat.ble m 101) (cond (Nat.beq m 101) (qc101 pc) (none)) (cond (Nat.beq m 102) (qc102 pc) (none)))) (cond (Nat.ble m 104) (cond (Nat.ble m 103) (cond (Nat.beq m 103) (qc103 pc) (none)) (cond (Nat.beq m 104) (qc104 pc) (none))) (cond (Nat.ble m 105) (cond (Nat.beq m 105) (qc105 pc) (none)) (cond (Nat.beq m 106) (qc106 pc) (none))))) (cond (Nat.ble m 110) (cond (Nat.ble m 108) (cond (Nat.ble m 107) (cond (Nat.beq m 107) (qc107 pc) (none)) (cond (Nat.beq m 108) (qc108 pc) (none))) (cond (Nat.ble m 109) (cond (Nat.beq m 109) (qc109 pc) (none)) (cond (Nat.beq m 110) (qc110 pc) (none)))) (cond (Nat.ble m 112) (cond (Nat.ble m 111) (cond (Nat.beq m 111) (qc111 pc) (none)) (cond (Nat.beq m 112) (qc112 pc) (none))) (cond (Nat.ble m 113) (cond (Nat.beq m 113) (qc113 pc) (none)) (cond (Nat.beq m 114) (qc114 pc) (none))))))))
/-- arguments (receiver counted), locals, kind (0 static, 1 virtual, 2 a constructor), class, what it returns (0 nothing, 1 int, 2 boolean, 3 a reference, 4 a long) -/
def qmi (m : Nat) : Nat × Nat × Nat × Nat × Nat := cond (Nat.ble m 56) (cond (Nat.ble m 27) (cond (Nat.ble m 13) (cond (Nat.ble m 6) (cond (Nat.ble m 2) (cond (Nat.ble m 0) (cond (Nat.beq m 0) ((1, 1, 2, 0, 0)) ((0, 0, 3, 0, 0))) (cond (Nat.ble m 1) (cond (Nat.beq m 1) ((1, 1, 1, 0, 0)) ((0, 0, 3, 0, 0))) (cond (Nat.beq m 2) ((2, 2, 1, 0, 0)) ((0, 0, 3, 0, 0))))) (cond (Nat.ble m 4) (cond (Nat.ble m 3) (cond (Nat.beq m 3) ((2, 2, 1, 0, 0)) ((0, 0, 3, 0, 0))) (cond (Nat.beq m 4) ((1, 1, 1, 0, 1)) ((0, 0, 3, 0, 0)))) (cond (Nat.ble m 5) (cond (Nat.beq m 5) ((1, 1, 1, 0, 1)) ((0, 0, 3, 0, 0))) (cond (Nat.beq m 6) ((1, 1, 1, 0, 1)) ((0, 0, 3, 0, 0)))))) (cond (Nat.ble m 9) (cond (Nat.ble m 7) (cond (Nat.beq m 7) ((2, 2, 1, 0, 1)) ((0, 0, 3, 0, 0))) (cond (Nat.ble m 8) (cond (Nat.beq m 8) ((2, 2, 1, 0, 2)) ((0, 0, 3, 0, 0))) (cond (Nat.beq m 9) ((2, 3, 1, 0, 1)) ((0, 0, 3, 0, 0))))) (cond (Nat.ble m 11) (cond (Nat.ble m 10) (cond (Nat.beq m 10) ((2, 3, 1, 0, 2)) ((0, 0, 3, 0, 0))) (cond (Nat.beq m 11) ((2, 4, 1, 0, 1)) ((0, 0, 3, 0, 0)))) (cond (Nat.ble m 12) (cond (Nat.beq m 12) ((2, 3, 1, 0, 2)) ((0, 0, 3, 0, 0))) (cond (Nat.beq m 13) ((2, 4, 1, 0, 1)) ((0, 0, 3, 0, 0))))))) (cond (Nat.ble m 20) (cond (Nat.ble m 16) (cond (Nat.ble m 14) (cond (Nat.beq m 14) ((1, 2, 2, 1, 0)) ((0, 0, 3, 0, 0))) (cond (Nat.ble m 15) (cond (Nat.beq m 15) ((1, 1, 1, 1, 1)) ((0, 0, 3, 0, 0))) (cond (Nat.beq m 16) ((2, 3, 1, 1, 0)) ((0, 0, 3, 0, 0))))) (cond (Nat.ble m 18) (cond (Nat.ble m 17) (cond (Nat.beq m 17) ((1, 3, 1, 1, 0)) ((0, 0, 3, 0, 0))) (cond (Nat.beq m 18) ((2, 3, 1, 1, 0)) ((0, 0, 3, 0, 0)))) (cond (Nat.ble m 19) (cond (Nat.beq m 19) ((1, 1, 2, 2, 0)) ((0, 0, 3, 0, 0))) (cond (Nat.beq m 20) ((1, 1, 1, 2, 1)) ((0, 0, 3, 0, 0)))))) (cond (Nat.ble m 23) (cond (Nat.ble m 21) (cond (Nat.beq m 21) ((2, 2, 1, 2, 0)) ((0, 0, 3, 0, 0))) (cond (Nat.ble m 22) (cond (Nat.beq m 22) ((2, 2, 1, 2, 1)) ((0, 0, 3, 0, 0))) (cond (Nat.beq m 23) ((2, 2, 1, 2, 1)) ((0, 0, 3, 0, 0))))) (cond (Nat.ble m 25) (cond (Nat.ble m 24) (cond (Nat.beq m 24) ((3, 4, 1, 2, 1)) ((0, 0, 3, 0, 0))) (cond (Nat.beq m 25) ((3, 5, 1, 2, 2)) ((0, 0, 3, 0, 0)))) (cond (Nat.ble m 26) (cond (Nat.beq m 26) ((1, 1, 2, 3, 0)) ((0, 0, 3, 0, 0))) (cond (Nat.beq m 27) ((2, 2, 1, 3, 0)) ((0, 0, 3, 0, 0)))))))) (cond (Nat.ble m 41) (cond (Nat.ble m 34) (cond (Nat.ble m 30) (cond (Nat.ble m 28) (cond (Nat.beq m 28) ((1, 1, 1, 3, 2)) ((0, 0, 3, 0, 0))) (cond (Nat.ble m 29) (cond (Nat.beq m 29) ((2, 2, 1, 3, 2)) ((0, 0, 3, 0, 0))) (cond (Nat.beq m 30) ((1, 1, 0, 3, 2)) ((0, 0, 3, 0, 0))))) (cond (Nat.ble m 32) (cond (Nat.ble m 31) (cond (Nat.beq m 31) ((1, 1, 1, 3, 0)) ((0, 0, 3, 0, 0))) (cond (Nat.beq m 32) ((3, 3, 1, 3, 2)) ((0, 0, 3, 0, 0)))) (cond (Nat.ble m 33) (cond (Nat.beq m 33) ((1, 1, 1, 3, 2)) ((0, 0, 3, 0, 0))) (cond (Nat.beq m 34) ((2, 2, 1, 3, 2)) ((0, 0, 3, 0, 0)))))) (cond (Nat.ble m 37) (cond (Nat.ble m 35) (cond (Nat.beq m 35) ((2, 2, 1, 3, 2)) ((0, 0, 3, 0, 0))) (cond (Nat.ble m 36) (cond (Nat.beq m 36) ((2, 2, 1, 3, 2)) ((0, 0, 3, 0, 0))) (cond (Nat.beq m 37) ((2, 4, 1, 3, 2)) ((0, 0, 3, 0, 0))))) (cond (Nat.ble m 39) (cond (Nat.ble m 38) (cond (Nat.beq m 38) ((2, 2, 1, 3, 2)) ((0, 0, 3, 0, 0))) (cond (Nat.beq m 39) ((2, 2, 2, 4, 0)) ((0, 0, 3, 0, 0)))) (cond (Nat.ble m 40) (cond (Nat.beq m 40) ((1, 1, 1, 4, 1)) ((0, 0, 3, 0, 0))) (cond (Nat.beq m 41) ((2, 2, 1, 4, 1)) ((0, 0, 3, 0, 0))))))) (cond (Nat.ble m 48) (cond (Nat.ble m 44) (cond (Nat.ble m 42) (cond (Nat.beq m 42) ((3, 3, 1, 4, 0)) ((0, 0, 3, 0, 0))) (cond (Nat.ble m 43) (cond (Nat.beq m 43) ((2, 2, 1, 4, 0)) ((0, 0, 3, 0, 0))) (cond (Nat.beq m 44) ((2, 2, 1, 4, 0)) ((0, 0, 3, 0, 0))))) (cond (Nat.ble m 46) (cond (Nat.ble m 45) (cond (Nat.beq m 45) ((2, 3, 1, 4, 0)) ((0, 0, 3, 0, 0))) (cond (Nat.beq m 46) ((1, 2, 2, 5, 0)) ((0, 0, 3, 0, 0)))) (cond (Nat.ble m 47) (cond (Nat.beq m 47) ((2, 3, 1, 5, 3)) ((0, 0, 3, 0, 0))) (cond (Nat.beq m 48) ((3, 4, 1, 5, 1)) ((0, 0, 3, 0, 0)))))) (cond (Nat.ble m 52) (cond (Nat.ble m 50) (cond (Nat.ble m 49) (cond (Nat.beq m 49) ((3, 3, 1, 5, 0)) ((0, 0, 3, 0, 0))) (cond (Nat.beq m 50) ((1, 1, 2, 6, 0)) ((0, 0, 3, 0, 0)))) (cond (Nat.ble m 51) (cond (Nat.beq m 51) ((2, 2, 1, 6, 0)) ((0, 0, 3, 0, 0))) (cond (Nat.beq m 52) ((3, 4, 1, 6, 1)) ((0, 0, 3, 0, 0))))) (cond (Nat.ble m 54) (cond (Nat.ble m 53) (cond (Nat.beq m 53) ((2, 2, 1, 6, 1)) ((0, 0, 3, 0, 0))) (cond (Nat.beq m 54) ((3, 3, 1, 6, 0)) ((0, 0, 3, 0, 0)))) (cond (Nat.ble m 55) (cond (Nat.beq m 55) ((2, 2, 1, 6, 2)) ((0, 0, 3, 0, 0))) (cond (Nat.beq m 56) ((1, 1, 1, 6, 1)) ((0, 0, 3, 0, 0))))))))) (cond (Nat.ble m 85) (cond (Nat.ble m 70) (cond (Nat.ble m 63) (cond (Nat.ble m 59) (cond (Nat.ble m 57) (cond (Nat.beq m 57) ((1, 3, 1, 6, 1)) ((0, 0, 3, 0, 0))) (cond (Nat.ble m 58) (cond (Nat.beq m 58) ((2, 4, 1, 6, 1)) ((0, 0, 3, 0, 0))) (cond (Nat.beq m 59) ((3, 5, 1, 6, 1)) ((0, 0, 3, 0, 0))))) (cond (Nat.ble m 61) (cond (Nat.ble m 60) (cond (Nat.beq m 60) ((3, 3, 1, 6, 1)) ((0, 0, 3, 0, 0))) (cond (Nat.beq m 61) ((4, 4, 1, 6, 0)) ((0, 0, 3, 0, 0)))) (cond (Nat.ble m 62) (cond (Nat.beq m 62) ((1, 1, 2, 7, 0)) ((0, 0, 3, 0, 0))) (cond (Nat.beq m 63) ((2, 2, 1, 7, 1)) ((0, 0, 3, 0, 0)))))) (cond (Nat.ble m 66) (cond (Nat.ble m 64) (cond (Nat.beq m 64) ((1, 2, 1, 7, 1)) ((0, 0, 3, 0, 0))) (cond (Nat.ble m 65) (cond (Nat.beq m 65) ((1, 3, 1, 7, 1)) ((0, 0, 3, 0, 0))) (cond (Nat.beq m 66) ((2, 2, 1, 7, 1)) ((0, 0, 3, 0, 0))))) (cond (Nat.ble m 68) (cond (Nat.ble m 67) (cond (Nat.beq m 67) ((4, 6, 1, 7, 1)) ((0, 0, 3, 0, 0))) (cond (Nat.beq m 68) ((3, 5, 1, 7, 1)) ((0, 0, 3, 0, 0)))) (cond (Nat.ble m 69) (cond (Nat.beq m 69) ((2, 2, 1, 7, 1)) ((0, 0, 3, 0, 0))) (cond (Nat.beq m 70) ((1, 1, 1, 7, 1)) ((0, 0, 3, 0, 0))))))) (cond (Nat.ble m 77) (cond (Nat.ble m 73) (cond (Nat.ble m 71) (cond (Nat.beq m 71) ((2, 2, 1, 7, 1)) ((0, 0, 3, 0, 0))) (cond (Nat.ble m 72) (cond (Nat.beq m 72) ((3, 4, 1, 7, 1)) ((0, 0, 3, 0, 0))) (cond (Nat.beq m 73) ((3, 4, 1, 7, 1)) ((0, 0, 3, 0, 0))))) (cond (Nat.ble m 75) (cond (Nat.ble m 74) (cond (Nat.beq m 74) ((3, 4, 1, 7, 1)) ((0, 0, 3, 0, 0))) (cond (Nat.beq m 75) ((3, 3, 1, 7, 1)) ((0, 0, 3, 0, 0)))) (cond (Nat.ble m 76) (cond (Nat.beq m 76) ((3, 4, 1, 7, 1)) ((0, 0, 3, 0, 0))) (cond (Nat.beq m 77) ((4, 5, 1, 7, 1)) ((0, 0, 3, 0, 0)))))) (cond (Nat.ble m 81) (cond (Nat.ble m 79) (cond (Nat.ble m 78) (cond (Nat.beq m 78) ((3, 4, 1, 7, 1)) ((0, 0, 3, 0, 0))) (cond (Nat.beq m 79) ((2, 2, 1, 7, 1)) ((0, 0, 3, 0, 0)))) (cond (Nat.ble m 80) (cond (Nat.beq m 80) ((1, 5, 1, 7, 1)) ((0, 0, 3, 0, 0))) (cond (Nat.beq m 81) ((2, 7, 1, 7, 1)) ((0, 0, 3, 0, 0))))) (cond (Nat.ble m 83) (cond (Nat.ble m 82) (cond (Nat.beq m 82) ((2, 2, 1, 7, 2)) ((0, 0, 3, 0, 0))) (cond (Nat.beq m 83) ((2, 2, 1, 7, 2)) ((0, 0, 3, 0, 0)))) (cond (Nat.ble m 84) (cond (Nat.beq m 84) ((2, 2, 1, 7, 2)) ((0, 0, 3, 0, 0))) (cond (Nat.beq m 85) ((2, 2, 1, 7, 2)) ((0, 0, 3, 0, 0)))))))) (cond (Nat.ble m 99) (cond (Nat.ble m 92) (cond (Nat.ble m 88) (cond (Nat.ble m 86) (cond (Nat.beq m 86) ((2, 2, 1, 7, 3)) ((0, 0, 3, 0, 0))) (cond (Nat.ble m 87) (cond (Nat.beq m 87) ((1, 2, 1, 7, 1)) ((0, 0, 3, 0, 0))) (cond (Nat.beq m 88) ((3, 3, 1, 7, 0)) ((0, 0, 3, 0, 0))))) (cond (Nat.ble m 90) (cond (Nat.ble m 89) (cond (Nat.beq m 89) ((3, 4, 1, 7, 0)) ((0, 0, 3, 0, 0))) (cond (Nat.beq m 90) ((4, 7, 1, 7, 0)) ((0, 0, 3, 0, 0)))) (cond (Nat.ble m 91) (cond (Nat.beq m 91) ((1, 3, 1, 7, 1)) ((0, 0, 3, 0, 0))) (cond (Nat.beq m 92) ((1, 3, 1, 7, 1)) ((0, 0, 3, 0, 0)))))) (cond (Nat.ble m 95) (cond (Nat.ble m 93) (cond (Nat.beq m 93) ((2, 6, 1, 7, 1)) ((0, 0, 3, 0, 0))) (cond (Nat.ble m 94) (cond (Nat.beq m 94) ((2, 5, 1, 7, 1)) ((0, 0, 3, 0, 0))) (cond (Nat.beq m 95) ((2, 4, 1, 7, 1)) ((0, 0, 3, 0, 0))))) (cond (Nat.ble m 97) (cond (Nat.ble m 96) (cond (Nat.beq m 96) ((2, 5, 1, 7, 1)) ((0, 0, 3, 0, 0))) (cond (Nat.beq m 97) ((3, 5, 1, 7, 1)) ((0, 0, 3, 0, 0)))) (cond (Nat.ble m 98) (cond (Nat.beq m 98) ((3, 7, 1, 7, 1)) ((0, 0, 3, 0, 0))) (cond (Nat.beq m 99) ((3, 5, 1, 7, 1)) ((0, 0, 3, 0, 0))))))) (cond (Nat.ble m 106) (cond (Nat.ble m 102) (cond (Nat.ble m 100) (cond (Nat.beq m 100) ((2, 2, 1, 7, 0)) ((0, 0, 3, 0, 0))) (cond (Nat.ble m 101) (cond (Nat.beq m 101) ((2, 2, 1, 7, 0)) ((0, 0, 3, 0, 0))) (cond (Nat.beq m 102) ((2, 2, 0, 8, 1)) ((0, 0, 3, 0, 0))))) (cond (Nat.ble m 104) (cond (Nat.ble m 103) (cond (Nat.beq m 103) ((1, 5, 0, 8, 4)) ((0, 0, 3, 0, 0))) (cond (Nat.beq m 104) ((1, 8, 0, 8, 2)) ((0, 0, 3, 0, 0)))) (cond (Nat.ble m 105) (cond (Nat.beq m 105) ((3, 10, 0, 8, 0)) ((0, 0, 3, 0, 0))) (cond (Nat.beq m 106) ((4, 4, 0, 8, 1)) ((0, 0, 3, 0, 0)))))) (cond (Nat.ble m 110) (cond (Nat.ble m 108) (cond (Nat.ble m 107) (cond (Nat.beq m 107) ((2, 13, 0, 8, 2)) ((0, 0, 3, 0, 0))) (cond (Nat.beq m 108) ((1, 12, 0, 8, 2)) ((0, 0, 3, 0, 0)))) (cond (Nat.ble m 109) (cond (Nat.beq m 109) ((3, 6, 0, 8, 1)) ((0, 0, 3, 0, 0))) (cond (Nat.beq m 110) ((2, 10, 0, 8, 2)) ((0, 0, 3, 0, 0))))) (cond (Nat.ble m 112) (cond (Nat.ble m 111) (cond (Nat.beq m 111) ((2, 7, 0, 8, 2)) ((0, 0, 3, 0, 0))) (cond (Nat.beq m 112) ((1, 2, 0, 8, 2)) ((0, 0, 3, 0, 0)))) (cond (Nat.ble m 113) (cond (Nat.beq m 113) ((2, 8, 0, 8, 2)) ((0, 0, 3, 0, 0))) (cond (Nat.beq m 114) ((3, 13, 0, 8, 2)) ((0, 0, 3, 0, 0)))))))))
def qNa (m : Nat) : Nat := (qmi m).1
def qNl (m : Nat) : Nat := (qmi m).2.1
def qKi (m : Nat) : Nat := (qmi m).2.2.1
def qCl (m : Nat) : Nat := (qmi m).2.2.2.1
def qRt (m : Nat) : Nat := (qmi m).2.2.2.2
/-- the places of longs among the locals -/
def qlj (m : Nat) : List Nat := cond (Nat.ble m 104) (cond (Nat.ble m 103) (cond (Nat.beq m 103) ([1]) ([])) (cond (Nat.beq m 104) ([1]) ([]))) (cond (Nat.ble m 113) (cond (Nat.beq m 113) ([6]) ([])) (cond (Nat.beq m 114) ([7]) ([])))
/-- the fields of a class: whether each is a reference -/
def qfs (c : Nat) : List Bool := cond (Nat.ble c 3) (cond (Nat.ble c 1) (cond (Nat.ble c 0) (cond (Nat.beq c 0) ([true, false]) ([])) (cond (Nat.beq c 1) ([true, false]) ([]))) (cond (Nat.ble c 2) (cond (Nat.beq c 2) ([true, true]) ([])) (cond (Nat.beq c 3) ([true, true, true, false, false, false, false]) ([])))) (cond (Nat.ble c 5) (cond (Nat.ble c 4) (cond (Nat.beq c 4) ([true, false]) ([])) (cond (Nat.beq c 5) ([true, true]) ([]))) (cond (Nat.ble c 6) (cond (Nat.beq c 6) ([true, true, false, false, false]) ([])) (cond (Nat.ble c 7) (cond (Nat.beq c 7) ([true, true, true, true, true, true, true, true]) ([])) (cond (Nat.beq c 8) ([]) ([])))))
end
section
/-! The abstract machine: values, memory, a step, a run. Memory: the kinds of the cells (0: an object of a class; 1: ints, and how many; c+2: references to class c, and how many), whole numbers by cell and place, references by cell and place. -/
abbrev qV : Type := Int ⊕ Nat ⊕ Int64
abbrev qA : Type := Option qV
abbrev qI (x : Int) : qA := some (Sum.inl x)
abbrev qK (k : Nat) : qA := some (Sum.inr (Sum.inl k))
abbrev qJ (x : Int64) : qA := some (Sum.inr (Sum.inr x))
/-- not a long -/
def qn1 : qA → Bool
  | some (.inr (.inr _)) => false
  | _ => true
def qnol (l : List qA) : Bool := l.all qn1
/-- operations of numbers that wrap around or look at bits -/
def qop2 (a : Int) (x y : Int) : Int :=
  let p := Int32.ofInt x
  let q := Int32.ofInt y
  (if a = 0 then p &&& q else if a = 1 then p ||| q else if a = 2 then p <<< (q &&& 31) else if a = 3 then p >>> (q &&& 31) else if a = 4 then p + q else p * q).toInt
abbrev qM : Type := List (Nat × Nat) × (Nat → Int → Int) × (Nat → Int → Option Nat)
abbrev qin (x : Int) : Prop := -2147483648 ≤ x ∧ x ≤ 2147483647
def qup {α : Type} (m : Nat → Int → α) (k : Nat) (i : Int) (v : α) : Nat → Int → α := fun a j => if a = k then (if j = i then v else m a j) else m a j
def qrow {α : Type} (m : Nat → Int → α) (k : Nat) (v : α) : Nat → Int → α := fun a j => if a = k then v else m a j
def qcmp (a : Int) (x y : Int) : Bool := if a = 0 then decide (x = y) else if a = 1 then decide (x ≠ y) else if a = 2 then decide (x < y) else if a = 3 then decide (y ≤ x) else if a = 4 then decide (y < x) else decide (x ≤ y)
def qold (σ : qM) (kd : Nat × Nat) : qM := (σ.1 ++ [kd], qrow σ.2.1 σ.1.length 0, qrow σ.2.2 σ.1.length none)
def qstep (op : Nat) (a : Int) (b : Nat) (c : List Nat) (nx : Nat) (pc : Nat) (L S : List qA) (σ : qM) : Option (Nat × List qA × List qA × qM) :=
  match op with
  | 0 => if qin a then some (nx, L, qI a :: S, σ) else none
  | 1 => match L[b]? with
    | some (some (.inl x)) => some (nx, L, qI x :: S, σ)
    | _ => none
  | 2 => match L[b]? with
    | some (some (.inr (.inl x))) => some (nx, L, qK x :: S, σ)
    | _ => none
  | 3 => match S with
    | some (.inl x) :: S' => if b < L.length then some (nx, L.set b (qI x), S', σ) else none
    | _ => none
  | 4 => match S with
    | some (.inr (.inl x)) :: S' => if b < L.length then some (nx, L.set b (qK x), S', σ) else none
    | _ => none
  | 5 => match L[b]? with
    | some (some (.inl x)) => if qin (x + a) then some (nx, L.set b (qI (x + a)), S, σ) else none
    | _ => none
  | 6 => match S with
    | some (.inl y) :: some (.inl x) :: S' => if qin (x + y) then some (nx, L, qI (x + y) :: S', σ) else none
    | _ => none
  | 7 => match S with
    | some (.inl y) :: some (.inl x) :: S' => if qin (x - y) then some (nx, L, qI (x - y) :: S', σ) else none
    | _ => none
  | 8 => match S with
    | some (.inl y) :: some (.inl x) :: S' => if qin (x * y) then some (nx, L, qI (x * y) :: S', σ) else none
    | _ => none
  | 9 => match S with
    | some (.inl y) :: some (.inl x) :: S' => if 0 ≤ x ∧ 0 < y then some (nx, L, qI (x / y) :: S', σ) else none
    | _ => none
  | 10 => match S with
    | some (.inl y) :: some (.inl x) :: S' => if 0 ≤ x ∧ 0 < y then some (nx, L, qI (x % y) :: S', σ) else none
    | _ => none
  | 11 => match S with
    | some (.inl y) :: some (.inl x) :: S' => some (nx, L, qI (qop2 a x y) :: S', σ)
    | _ => none
  | 12 => match S with
    | some x :: S' => if qn1 (some x) = true then some (nx, L, some x :: some x :: S', σ) else none
    | _ => none
  | 13 => match S with
    | some x :: some y :: S' => if qn1 (some x) = true ∧ qn1 (some y) = true then some (nx, L, some x :: some y :: some x :: some y :: S', σ) else none
    | _ => none
  | 14 => match S with
    | some x :: S' => if qn1 (some x) = true then some (nx, L, S', σ) else none
    | _ => none
  | 15 => some (b, L, S, σ)
  | 16 => match S with
    | some (.inl y) :: some (.inl x) :: S' => some (if qcmp a x y = true then b else nx, L, S', σ)
    | _ => none
  | 17 => match S with
    | some (.inl x) :: S' => some (if qcmp a x 0 = true then b else nx, L, S', σ)
    | _ => none
  | 18 => match S with
    | some (.inr (.inl _)) :: S' => some (nx, L, S', σ)
    | _ => none
  | 19 => match S with
    | some (.inr (.inl _)) :: S' => some (b, L, S', σ)
    | _ => none
  | 20 => match S with
    | some (.inl x) :: S' => some (if a ≤ x ∧ x < a + c.length then c.getD (x - a).toNat 0 else b, L, S', σ)
    | _ => none
  | 21 => match S with
    | some (.inr (.inl k)) :: S' => if 0 ≤ a ∧ σ.1[k]? = some (0, c.headD 0) ∧ (qfs (c.headD 0))[a.toNat]? = some false then some (nx, L, qI (σ.2.1 k a) :: S', σ) else none
    | _ => none
  | 22 => match S with
    | some (.inr (.inl k)) :: S' => if 0 ≤ a ∧ σ.1[k]? = some (0, c.headD 0) ∧ (qfs (c.headD 0))[a.toNat]? = some true then (match σ.2.2 k a with
      | some z => some (nx, L, qK z :: S', σ)
      | none => none) else none
    | _ => none
  | 23 => match S with
    | some (.inl x) :: some (.inr (.inl k)) :: S' => if 0 ≤ a ∧ σ.1[k]? = some (0, c.headD 0) ∧ (qfs (c.headD 0))[a.toNat]? = some false then some (nx, L, S', (σ.1, qup σ.2.1 k a x, σ.2.2)) else none
    | _ => none
  | 24 => match S with
    | some (.inr (.inl x)) :: some (.inr (.inl k)) :: S' => if 0 ≤ a ∧ σ.1[k]? = some (0, c.headD 0) ∧ (qfs (c.headD 0))[a.toNat]? = some true then some (nx, L, S', (σ.1, σ.2.1, qup σ.2.2 k a (some x))) else none
    | _ => none
  | 25 => match S with
    | some (.inl i) :: some (.inr (.inl k)) :: S' => match σ.1[k]? with
      | some (1, n) => if 0 ≤ i ∧ i < n then some (nx, L, qI (σ.2.1 k i) :: S', σ) else none
      | _ => none
    | _ => none
  | 26 => match S with
    | some (.inl x) :: some (.inl i) :: some (.inr (.inl k)) :: S' => match σ.1[k]? with
      | some (1, n) => if 0 ≤ i ∧ i < n then some (nx, L, S', (σ.1, qup σ.2.1 k i x, σ.2.2)) else none
      | _ => none
    | _ => none
  | 27 => match S with
    | some (.inl i) :: some (.inr (.inl k)) :: S' => match σ.1[k]? with
      | some (_ + 2, n) => if 0 ≤ i ∧ i < n then (match σ.2.2 k i with
        | some z => some (nx, L, qK z :: S', σ)
        | none => none) else none
      | _ => none
    | _ => none
  | 28 => match S with
    | some (.inr (.inl x)) :: some (.inl i) :: some (.inr (.inl k)) :: S' => match σ.1[k]? with
      | some (ci + 2, n) => if 0 ≤ i ∧ i < n ∧ σ.1[x]? = some (0, ci) then some (nx, L, S', (σ.1, σ.2.1, qup σ.2.2 k i (some x))) else none
      | _ => none
    | _ => none
  | 29 => match S with
    | some (.inr (.inl k)) :: S' => match σ.1[k]? with
      | some (_ + 1, n) => some (nx, L, qI n :: S', σ)
      | _ => none
    | _ => none
  | 30 => match S with
    | some (.inl n) :: S' => if 0 ≤ n ∧ n ≤ 100000 then some (nx, L, qK σ.1.length :: S', qold σ (1, n.toNat)) else none
    | _ => none
  | 31 => match S with
    | some (.inl n) :: S' => if 0 ≤ n ∧ n ≤ 100000 then some (nx, L, qK σ.1.length :: S', qold σ (c.headD 0 + 2, n.toNat)) else none
    | _ => none
  | 32 => some (nx, L, qK σ.1.length :: S, qold σ (0, c.headD 0))
  | 33 => match S with
    | some (.inl y) :: some (.inl x) :: S' => if S'.length ≤ 4 then some (nx, L, qI (if x < y then y else x) :: S', σ) else none
    | _ => none
  | 34 => match S with
    | some (.inr (.inl _)) :: S' => if S'.length ≤ 4 then some (nx, L, S', σ) else none
    | _ => none
  | 35 => if a = 0 then (match S with
    | some (.inl x) :: S' => some (nx, L, qJ (Int32.ofInt x).toInt64 :: S', σ)
    | _ => none) else (match S with
    | some (.inr (.inr y)) :: some (.inr (.inr x)) :: S' => if x = y then some (nx, L, qI 0 :: S', σ) else none
    | _ => none)
  | 36 => match L[b]? with
    | some (some (.inr (.inr x))) => some (nx, L, qJ x :: S, σ)
    | _ => none
  | 37 => match S with
    | some (.inr (.inr x)) :: S' => if b + 1 < L.length then some (nx, (L.set b (qJ x)).set (b + 1) none, S', σ) else none
    | _ => none
  | 38 => match S with
    | some (.inr (.inr y)) :: some (.inr (.inr x)) :: S' => some (nx, L, qJ (if a = 0 then x + y else x * y) :: S', σ)
    | _ => none
  | 39 => some (nx, L, qJ (Int64.ofInt a) :: S, σ)
  | _ => none
/-- the receiver of a call of method b: an object of its class -/
def qrcv (b : Nat) (as : List qA) (σ : qM) : Bool :=
  qnol as && match qKi b with
  | 0 => true
  | 1 => match as with
    | some (.inr (.inl k)) :: _ => decide (σ.1[k]? = some (0, qCl b))
    | _ => false
  | 2 => match as with
    | some (.inr (.inl _)) :: _ => true
    | _ => false
  | _ => false
def qent (b : Nat) (as : List qA) : List qA := as ++ List.replicate (qNl b - as.length) none
def qbody (ev : Nat → Nat → List qA → List qA → qM → Option (qA × qM)) (m pc : Nat) (L S : List qA) (σ : qM) : Option (qA × qM) :=
  match qcd m pc with
  | none => none
  | some (op, a, b, c, nx) =>
    if op < 40 then
      match qstep op a b c nx pc L S σ with
      | some (pc', L', S', σ') => ev m pc' L' S' σ'
      | none => none
    else if op = 40 then
      (if qNa b ≤ S.length ∧ S.length ≤ qNa b + 4 ∧ qrcv b (S.take (qNa b)).reverse σ = true ∧ qNa b ≤ qNl b then
        match ev b 0 (qent b (S.take (qNa b)).reverse) [] σ with
        | some (r, σ') => ev m nx L (if qRt b = 0 then S.drop (qNa b) else r :: S.drop (qNa b)) σ'
        | none => none
      else none)
    else if op = 41 then (match S with
      | [some (.inl x)] => some (qI x, σ)
      | _ => none)
    else if op = 42 then (match S with
      | [some (.inl x)] => if x = 0 ∨ x = 1 then some (qI x, σ) else none
      | _ => none)
    else if op = 43 then (match S with
      | [some (.inr (.inl x))] => some (qK x, σ)
      | _ => none)
    else if op = 44 then (match S with
      | [] => some (none, σ)
      | _ => none)
    else if op = 45 then (match S with
      | [some (.inr (.inr x))] => some (qJ x, σ)
      | _ => none)
    else none
def qev : Nat → Nat → Nat → List qA → List qA → qM → Option (qA × qM)
  | 0 => fun _ _ _ _ _ => none
  | n + 1 => qbody (qev n)
theorem qev_mono : ∀ (n : Nat) (m pc : Nat) (L S : List qA) (σ : qM) (x : qA × qM), qev n m pc L S σ = some x → ∀ k, n ≤ k → qev k m pc L S σ = some x := by
  intro n
  induction n with
  | zero => intro m pc L S σ x h; exact absurd h (by simp [qev])
  | succ n ih =>
    intro m pc L S σ x h k hk
    obtain ⟨k, rfl⟩ : ∃ j, k = j + 1 := ⟨k - 1, by omega⟩
    have hk : n ≤ k := by omega
    change qbody (qev n) m pc L S σ = some x at h
    change qbody (qev k) m pc L S σ = some x
    unfold qbody at h ⊢
    split at h
    · exact absurd h (by simp)
    · rename_i op a b c nx hc
      split at h
      · rename_i ho
        rw [if_pos ho]
        split at h
        · rename_i pc' L' S' σ' hs
          exact ih _ _ _ _ _ _ h k hk
        · exact absurd h (by simp)
      · rename_i ho
        rw [if_neg ho]
        split at h
        · rename_i ho2
          rw [if_pos ho2]
          split at h
          · rename_i hg
            rw [if_pos hg]
            split at h
            · rename_i r σ' hs
              rw [ih _ _ _ _ _ _ hs k hk]
              exact ih _ _ _ _ _ _ h k hk
            · exact absurd h (by simp)
          · exact absurd h (by simp)
        · rename_i ho2
          rw [if_neg ho2]
          exact h
/-- a method, from a place in it, comes to its end, and of its answer and the memory then Q holds -/
def qW (m pc : Nat) (L S : List qA) (σ : qM) (Q : qA → qM → Prop) : Prop := ∃ (n : Nat) (r : qA) (σ' : qM), qev n m pc L S σ = some (r, σ') ∧ Q r σ'
theorem qW_mono {m pc : Nat} {L S : List qA} {σ : qM} {Q Q' : qA → qM → Prop} (h : qW m pc L S σ Q) (hq : ∀ r σ', Q r σ' → Q' r σ') : qW m pc L S σ Q' := by
  obtain ⟨n, r, σ', h1, h2⟩ := h
  exact ⟨n, r, σ', h1, hq _ _ h2⟩
theorem qW_step {m pc : Nat} {L S : List qA} {σ : qM} {Q : qA → qM → Prop} {op : Nat} {a : Int} {b : Nat} {c : List Nat} {nx : Nat} {pc' : Nat} {L' S' : List qA} {σ' : qM} (hc : qcd m pc = some (op, a, b, c, nx)) (ho : op < 40) (hs : qstep op a b c nx pc L S σ = some (pc', L', S', σ')) (k : qW m pc' L' S' σ' Q) : qW m pc L S σ Q := by
  obtain ⟨n, r, σ2, h1, h2⟩ := k
  refine ⟨n + 1, r, σ2, ?_, h2⟩
  show qbody (qev n) m pc L S σ = _
  unfold qbody
  rw [hc]
  simp only [if_pos ho, hs, h1]
theorem qW_call {m pc : Nat} {L S : List qA} {σ : qM} {Q Q1 : qA → qM → Prop} {a : Int} {b : Nat} {c : List Nat} {nx : Nat} {L0 : List qA} (hc : qcd m pc = some (40, a, b, c, nx)) (hn : qNa b ≤ S.length ∧ S.length ≤ qNa b + 4 ∧ qNa b ≤ qNl b) (hr : qrcv b (S.take (qNa b)).reverse σ = true) (hL : qent b (S.take (qNa b)).reverse = L0) (h1 : qW b 0 L0 [] σ Q1)
    (k : ∀ r σ', Q1 r σ' → qW m nx L (if qRt b = 0 then S.drop (qNa b) else r :: S.drop (qNa b)) σ' Q) : qW m pc L S σ Q := by
  obtain ⟨n1, r1, σ1, e1, q1⟩ := h1
  obtain ⟨n2, r2, σ2, e2, q2⟩ := k r1 σ1 q1
  subst hL
  refine ⟨max n1 n2 + 1, r2, σ2, ?_, q2⟩
  show qbody (qev (max n1 n2)) m pc L S σ = _
  unfold qbody
  rw [hc]
  simp only [show ¬ (40 : Nat) < 40 from by decide, if_false, if_true, hn.1, hn.2.1, hn.2.2, hr, and_self]
  rw [qev_mono _ _ _ _ _ _ _ e1 _ (Nat.le_max_left _ _)]
  exact qev_mono _ _ _ _ _ _ _ e2 _ (Nat.le_max_right _ _)
/-- a method that answers v and leaves the memory as it is -/
abbrev qP (b : Nat) (L0 : List qA) (σ : qM) (v : qA) : Prop := qW b 0 L0 [] σ (fun r σ' => r = v ∧ σ' = σ)
theorem qW_ireturn {m pc : Nat} {L : List qA} {σ : qM} {Q : qA → qM → Prop} {x : Int} {a : Int} {b : Nat} {c : List Nat} {nx : Nat} (hc : qcd m pc = some (41, a, b, c, nx)) (h : Q (qI x) σ) : qW m pc L [qI x] σ Q := by
  refine ⟨1, qI x, σ, ?_, h⟩
  show qbody (qev 0) m pc _ _ σ = _
  unfold qbody
  rw [hc]; rfl
theorem qW_zreturn {m pc : Nat} {L : List qA} {σ : qM} {Q : qA → qM → Prop} {x : Int} {a : Int} {b : Nat} {c : List Nat} {nx : Nat} (hc : qcd m pc = some (42, a, b, c, nx)) (hx : x = 0 ∨ x = 1) (h : Q (qI x) σ) : qW m pc L [qI x] σ Q := by
  refine ⟨1, qI x, σ, ?_, h⟩
  show qbody (qev 0) m pc _ _ σ = _
  unfold qbody
  rw [hc]
  simp [hx]
theorem qW_areturn {m pc : Nat} {L : List qA} {σ : qM} {Q : qA → qM → Prop} {x : Nat} {a : Int} {b : Nat} {c : List Nat} {nx : Nat} (hc : qcd m pc = some (43, a, b, c, nx)) (h : Q (qK x) σ) : qW m pc L [qK x] σ Q := by
  refine ⟨1, qK x, σ, ?_, h⟩
  show qbody (qev 0) m pc _ _ σ = _
  unfold qbody
  rw [hc]; rfl
theorem qW_return {m pc : Nat} {L : List qA} {σ : qM} {Q : qA → qM → Prop} {a : Int} {b : Nat} {c : List Nat} {nx : Nat} (hc : qcd m pc = some (44, a, b, c, nx)) (h : Q none σ) : qW m pc L [] σ Q := by
  refine ⟨1, none, σ, ?_, h⟩
  show qbody (qev 0) m pc _ _ σ = _
  unfold qbody
  rw [hc]; rfl
theorem qW_lreturn {m pc : Nat} {L : List qA} {σ : qM} {Q : qA → qM → Prop} {x : Int64} {a : Int} {b : Nat} {c : List Nat} {nx : Nat} (hc : qcd m pc = some (45, a, b, c, nx)) (h : Q (qJ x) σ) : qW m pc L [qJ x] σ Q := by
  refine ⟨1, qJ x, σ, ?_, h⟩
  show qbody (qev 0) m pc _ _ σ = _
  unfold qbody
  rw [hc]; rfl
end
section
-- what the machine has of each method: name, bytes, the class that it stands in, return type, frames and locals that its calls want
def qy (m : Nat) : MethodName := cond (Nat.ble m 56) (cond (Nat.ble m 27) (cond (Nat.ble m 13) (cond (Nat.ble m 6) (cond (Nat.ble m 2) (cond (Nat.ble m 0) (cond (Nat.beq m 0) (yX0_init) (⟨"", "", ""⟩)) (cond (Nat.ble m 1) (cond (Nat.beq m 1) (yX0_clear) (⟨"", "", ""⟩)) (cond (Nat.beq m 2) (yX0_add) (⟨"", "", ""⟩)))) (cond (Nat.ble m 4) (cond (Nat.ble m 3) (cond (Nat.beq m 3) (yX0_copyFrom) (⟨"", "", ""⟩)) (cond (Nat.beq m 4) (yX0_size) (⟨"", "", ""⟩))) (cond (Nat.ble m 5) (cond (Nat.beq m 5) (yX0_leaves) (⟨"", "", ""⟩)) (cond (Nat.beq m 6) (yX0_branches) (⟨"", "", ""⟩))))) (cond (Nat.ble m 9) (cond (Nat.ble m 7) (cond (Nat.beq m 7) (yX0_at) (⟨"", "", ""⟩)) (cond (Nat.ble m 8) (cond (Nat.beq m 8) (yX0_isBranchAt) (⟨"", "", ""⟩)) (cond (Nat.beq m 9) (yX0_pathAt) (⟨"", "", ""⟩)))) (cond (Nat.ble m 11) (cond (Nat.ble m 10) (cond (Nat.beq m 10) (yX0_holds) (⟨"", "", ""⟩)) (cond (Nat.beq m 11) (yX0_leafPlace) (⟨"", "", ""⟩))) (cond (Nat.ble m 12) (cond (Nat.beq m 12) (yX0_isSameAs) (⟨"", "", ""⟩)) (cond (Nat.beq m 13) (yX0_leavesInCommon) (⟨"", "", ""⟩)))))) (cond (Nat.ble m 20) (cond (Nat.ble m 16) (cond (Nat.ble m 14) (cond (Nat.beq m 14) (yX1_init) (⟨"", "", ""⟩)) (cond (Nat.ble m 15) (cond (Nat.beq m 15) (yX1_size) (⟨"", "", ""⟩)) (cond (Nat.beq m 16) (yX1_keep) (⟨"", "", ""⟩)))) (cond (Nat.ble m 18) (cond (Nat.ble m 17) (cond (Nat.beq m 17) (yX1_forgetOldest) (⟨"", "", ""⟩)) (cond (Nat.beq m 18) (yX1_restore) (⟨"", "", ""⟩))) (cond (Nat.ble m 19) (cond (Nat.beq m 19) (yX2_init) (⟨"", "", ""⟩)) (cond (Nat.beq m 20) (yX2_size) (⟨"", "", ""⟩))))) (cond (Nat.ble m 23) (cond (Nat.ble m 21) (cond (Nat.beq m 21) (yX2_cutTo) (⟨"", "", ""⟩)) (cond (Nat.ble m 22) (cond (Nat.beq m 22) (yX2_letterOf) (⟨"", "", ""⟩)) (cond (Nat.beq m 23) (yX2_outerOf) (⟨"", "", ""⟩)))) (cond (Nat.ble m 25) (cond (Nat.ble m 24) (cond (Nat.beq m 24) (yX2_findOrAdd) (⟨"", "", ""⟩)) (cond (Nat.beq m 25) (yX2_isWithin) (⟨"", "", ""⟩))) (cond (Nat.ble m 26) (cond (Nat.beq m 26) (yX3_init) (⟨"", "", ""⟩)) (cond (Nat.beq m 27) (yX3_begin) (⟨"", "", ""⟩))))))) (cond (Nat.ble m 41) (cond (Nat.ble m 34) (cond (Nat.ble m 30) (cond (Nat.ble m 28) (cond (Nat.beq m 28) (yX3_isComplete) (⟨"", "", ""⟩)) (cond (Nat.ble m 29) (cond (Nat.beq m 29) (yX3_take) (⟨"", "", ""⟩)) (cond (Nat.beq m 30) (yX3_isDigit) (⟨"", "", ""⟩)))) (cond (Nat.ble m 32) (cond (Nat.ble m 31) (cond (Nat.beq m 31) (yX3_takeSpace) (⟨"", "", ""⟩)) (cond (Nat.beq m 32) (yX3_takeOpening) (⟨"", "", ""⟩))) (cond (Nat.ble m 33) (cond (Nat.beq m 33) (yX3_takeClosing) (⟨"", "", ""⟩)) (cond (Nat.beq m 34) (yX3_takeLetter) (⟨"", "", ""⟩))))) (cond (Nat.ble m 37) (cond (Nat.ble m 35) (cond (Nat.beq m 35) (yX3_takeColon) (⟨"", "", ""⟩)) (cond (Nat.ble m 36) (cond (Nat.beq m 36) (yX3_takeFirstDigit) (⟨"", "", ""⟩)) (cond (Nat.beq m 37) (yX3_takeNextDigit) (⟨"", "", ""⟩)))) (cond (Nat.ble m 39) (cond (Nat.ble m 38) (cond (Nat.beq m 38) (yX3_takeFieldEnd) (⟨"", "", ""⟩)) (cond (Nat.beq m 39) (yX4_init) (⟨"", "", ""⟩))) (cond (Nat.ble m 40) (cond (Nat.beq m 40) (yX4_size) (⟨"", "", ""⟩)) (cond (Nat.beq m 41) (yX4_at) (⟨"", "", ""⟩)))))) (cond (Nat.ble m 48) (cond (Nat.ble m 44) (cond (Nat.ble m 42) (cond (Nat.beq m 42) (yX4_put) (⟨"", "", ""⟩)) (cond (Nat.ble m 43) (cond (Nat.beq m 43) (yX4_add) (⟨"", "", ""⟩)) (cond (Nat.beq m 44) (yX4_cutTo) (⟨"", "", ""⟩)))) (cond (Nat.ble m 46) (cond (Nat.ble m 45) (cond (Nat.beq m 45) (yX4_copyFrom) (⟨"", "", ""⟩)) (cond (Nat.beq m 46) (yX5_init) (⟨"", "", ""⟩))) (cond (Nat.ble m 47) (cond (Nat.beq m 47) (yX5_formAt) (⟨"", "", ""⟩)) (cond (Nat.beq m 48) (yX5_numberFor) (⟨"", "", ""⟩))))) (cond (Nat.ble m 52) (cond (Nat.ble m 50) (cond (Nat.ble m 49) (cond (Nat.beq m 49) (yX5_keep) (⟨"", "", ""⟩)) (cond (Nat.beq m 50) (yX6_init) (⟨"", "", ""⟩))) (cond (Nat.ble m 51) (cond (Nat.beq m 51) (yX6_copyFrom) (⟨"", "", ""⟩)) (cond (Nat.beq m 52) (yX6_addRecord) (⟨"", "", ""⟩)))) (cond (Nat.ble m 54) (cond (Nat.ble m 53) (cond (Nat.beq m 53) (yX6_shapeOf) (⟨"", "", ""⟩)) (cond (Nat.beq m 54) (yX6_setShapeOf) (⟨"", "", ""⟩))) (cond (Nat.ble m 55) (cond (Nat.beq m 55) (yX6_has) (⟨"", "", ""⟩)) (cond (Nat.beq m 56) (yX6_recordsRead) (⟨"", "", ""⟩)))))))) (cond (Nat.ble m 85) (cond (Nat.ble m 70) (cond (Nat.ble m 63) (cond (Nat.ble m 59) (cond (Nat.ble m 57) (cond (Nat.beq m 57) (yX6_recordsLeft) (⟨"", "", ""⟩)) (cond (Nat.ble m 58) (cond (Nat.beq m 58) (yX6_recordsWith) (⟨"", "", ""⟩)) (cond (Nat.beq m 59) (yX6_recordWith) (⟨"", "", ""⟩)))) (cond (Nat.ble m 61) (cond (Nat.ble m 60) (cond (Nat.beq m 60) (yX6_valueAt) (⟨"", "", ""⟩)) (cond (Nat.beq m 61) (yX6_setValue) (⟨"", "", ""⟩))) (cond (Nat.ble m 62) (cond (Nat.beq m 62) (yX7_init) (⟨"", "", ""⟩)) (cond (Nat.beq m 63) (yX7_append) (⟨"", "", ""⟩))))) (cond (Nat.ble m 66) (cond (Nat.ble m 64) (cond (Nat.beq m 64) (yX7_clearText) (⟨"", "", ""⟩)) (cond (Nat.ble m 65) (cond (Nat.beq m 65) (yX7_read) (⟨"", "", ""⟩)) (cond (Nat.beq m 66) (yX7_discard) (⟨"", "", ""⟩)))) (cond (Nat.ble m 68) (cond (Nat.ble m 67) (cond (Nat.beq m 67) (yX7_change) (⟨"", "", ""⟩)) (cond (Nat.beq m 68) (yX7_drop) (⟨"", "", ""⟩))) (cond (Nat.ble m 69) (cond (Nat.beq m 69) (yX7_setBound) (⟨"", "", ""⟩)) (cond (Nat.beq m 70) (yX7_undo) (⟨"", "", ""⟩)))))) (cond (Nat.ble m 77) (cond (Nat.ble m 73) (cond (Nat.ble m 71) (cond (Nat.beq m 71) (yX7_count) (⟨"", "", ""⟩)) (cond (Nat.ble m 72) (cond (Nat.beq m 72) (yX7_record) (⟨"", "", ""⟩)) (cond (Nat.beq m 73) (yX7_character) (⟨"", "", ""⟩)))) (cond (Nat.ble m 75) (cond (Nat.ble m 74) (cond (Nat.beq m 74) (yX7_value) (⟨"", "", ""⟩)) (cond (Nat.beq m 75) (yX7_path) (⟨"", "", ""⟩))) (cond (Nat.ble m 76) (cond (Nat.beq m 76) (yX7_shape) (⟨"", "", ""⟩)) (cond (Nat.beq m 77) (yX7_column) (⟨"", "", ""⟩))))) (cond (Nat.ble m 81) (cond (Nat.ble m 79) (cond (Nat.ble m 78) (cond (Nat.beq m 78) (yX7_field) (⟨"", "", ""⟩)) (cond (Nat.beq m 79) (yX7_sizeWith) (⟨"", "", ""⟩))) (cond (Nat.ble m 80) (cond (Nat.beq m 80) (yX7_bestBound) (⟨"", "", ""⟩)) (cond (Nat.beq m 81) (yX7_like) (⟨"", "", ""⟩)))) (cond (Nat.ble m 83) (cond (Nat.ble m 82) (cond (Nat.beq m 82) (yX7_isPath) (⟨"", "", ""⟩)) (cond (Nat.beq m 83) (yX7_isShape) (⟨"", "", ""⟩))) (cond (Nat.ble m 84) (cond (Nat.beq m 84) (yX7_isBound) (⟨"", "", ""⟩)) (cond (Nat.beq m 85) (yX7_isCommon) (⟨"", "", ""⟩))))))) (cond (Nat.ble m 99) (cond (Nat.ble m 92) (cond (Nat.ble m 88) (cond (Nat.ble m 86) (cond (Nat.beq m 86) (yX7_formOf) (⟨"", "", ""⟩)) (cond (Nat.ble m 87) (cond (Nat.beq m 87) (yX7_takeText) (⟨"", "", ""⟩)) (cond (Nat.beq m 88) (yX7_learnShape) (⟨"", "", ""⟩)))) (cond (Nat.ble m 90) (cond (Nat.ble m 89) (cond (Nat.beq m 89) (yX7_fillRemainder) (⟨"", "", ""⟩)) (cond (Nat.beq m 90) (yX7_dropValues) (⟨"", "", ""⟩))) (cond (Nat.ble m 91) (cond (Nat.beq m 91) (yX7_commonShapes) (⟨"", "", ""⟩)) (cond (Nat.beq m 92) (yX7_rareRecords) (⟨"", "", ""⟩))))) (cond (Nat.ble m 95) (cond (Nat.ble m 93) (cond (Nat.beq m 93) (yX7_sizeFor) (⟨"", "", ""⟩)) (cond (Nat.ble m 94) (cond (Nat.beq m 94) (yX7_costOf) (⟨"", "", ""⟩)) (cond (Nat.beq m 95) (yX7_recordsHolding) (⟨"", "", ""⟩)))) (cond (Nat.ble m 97) (cond (Nat.ble m 96) (cond (Nat.beq m 96) (yX7_sumOfPath) (⟨"", "", ""⟩)) (cond (Nat.beq m 97) (yX7_sumOfRecord) (⟨"", "", ""⟩))) (cond (Nat.ble m 98) (cond (Nat.beq m 98) (yX7_writeText) (⟨"", "", ""⟩)) (cond (Nat.beq m 99) (yX7_writeClosings) (⟨"", "", ""⟩)))))) (cond (Nat.ble m 106) (cond (Nat.ble m 102) (cond (Nat.ble m 100) (cond (Nat.beq m 100) (yX7_writeName) (⟨"", "", ""⟩)) (cond (Nat.ble m 101) (cond (Nat.beq m 101) (yX7_writeNumber) (⟨"", "", ""⟩)) (cond (Nat.beq m 102) (yL_up) (⟨"", "", ""⟩)))) (cond (Nat.ble m 104) (cond (Nat.ble m 103) (cond (Nat.beq m 103) (yL_mark) (⟨"", "", ""⟩)) (cond (Nat.beq m 104) (yL_fails) (⟨"", "", ""⟩))) (cond (Nat.ble m 105) (cond (Nat.beq m 105) (yL_types) (⟨"", "", ""⟩)) (cond (Nat.beq m 106) (yL_put) (⟨"", "", ""⟩))))) (cond (Nat.ble m 110) (cond (Nat.ble m 108) (cond (Nat.ble m 107) (cond (Nat.beq m 107) (yL_text) (⟨"", "", ""⟩)) (cond (Nat.beq m 108) (yL_shapes) (⟨"", "", ""⟩))) (cond (Nat.ble m 109) (cond (Nat.beq m 109) (yL_leafOf) (⟨"", "", ""⟩)) (cond (Nat.beq m 110) (yL_paths) (⟨"", "", ""⟩)))) (cond (Nat.ble m 112) (cond (Nat.ble m 111) (cond (Nat.beq m 111) (yL_like) (⟨"", "", ""⟩)) (cond (Nat.beq m 112) (yL_sound) (⟨"", "", ""⟩))) (cond (Nat.ble m 113) (cond (Nat.beq m 113) (yL_again) (⟨"", "", ""⟩)) (cond (Nat.beq m 114) (yL_acts) (⟨"", "", ""⟩))))))))
def qb (m : Nat) : ByteArray := cond (Nat.ble m 56) (cond (Nat.ble m 27) (cond (Nat.ble m 13) (cond (Nat.ble m 6) (cond (Nat.ble m 2) (cond (Nat.ble m 0) (cond (Nat.beq m 0) (cX0_init) (⟨#[]⟩)) (cond (Nat.ble m 1) (cond (Nat.beq m 1) (cX0_clear) (⟨#[]⟩)) (cond (Nat.beq m 2) (cX0_add) (⟨#[]⟩)))) (cond (Nat.ble m 4) (cond (Nat.ble m 3) (cond (Nat.beq m 3) (cX0_copyFrom) (⟨#[]⟩)) (cond (Nat.beq m 4) (cX0_size) (⟨#[]⟩))) (cond (Nat.ble m 5) (cond (Nat.beq m 5) (cX0_leaves) (⟨#[]⟩)) (cond (Nat.beq m 6) (cX0_branches) (⟨#[]⟩))))) (cond (Nat.ble m 9) (cond (Nat.ble m 7) (cond (Nat.beq m 7) (cX0_at) (⟨#[]⟩)) (cond (Nat.ble m 8) (cond (Nat.beq m 8) (cX0_isBranchAt) (⟨#[]⟩)) (cond (Nat.beq m 9) (cX0_pathAt) (⟨#[]⟩)))) (cond (Nat.ble m 11) (cond (Nat.ble m 10) (cond (Nat.beq m 10) (cX0_holds) (⟨#[]⟩)) (cond (Nat.beq m 11) (cX0_leafPlace) (⟨#[]⟩))) (cond (Nat.ble m 12) (cond (Nat.beq m 12) (cX0_isSameAs) (⟨#[]⟩)) (cond (Nat.beq m 13) (cX0_leavesInCommon) (⟨#[]⟩)))))) (cond (Nat.ble m 20) (cond (Nat.ble m 16) (cond (Nat.ble m 14) (cond (Nat.beq m 14) (cX1_init) (⟨#[]⟩)) (cond (Nat.ble m 15) (cond (Nat.beq m 15) (cX1_size) (⟨#[]⟩)) (cond (Nat.beq m 16) (cX1_keep) (⟨#[]⟩)))) (cond (Nat.ble m 18) (cond (Nat.ble m 17) (cond (Nat.beq m 17) (cX1_forgetOldest) (⟨#[]⟩)) (cond (Nat.beq m 18) (cX1_restore) (⟨#[]⟩))) (cond (Nat.ble m 19) (cond (Nat.beq m 19) (cX2_init) (⟨#[]⟩)) (cond (Nat.beq m 20) (cX2_size) (⟨#[]⟩))))) (cond (Nat.ble m 23) (cond (Nat.ble m 21) (cond (Nat.beq m 21) (cX2_cutTo) (⟨#[]⟩)) (cond (Nat.ble m 22) (cond (Nat.beq m 22) (cX2_letterOf) (⟨#[]⟩)) (cond (Nat.beq m 23) (cX2_outerOf) (⟨#[]⟩)))) (cond (Nat.ble m 25) (cond (Nat.ble m 24) (cond (Nat.beq m 24) (cX2_findOrAdd) (⟨#[]⟩)) (cond (Nat.beq m 25) (cX2_isWithin) (⟨#[]⟩))) (cond (Nat.ble m 26) (cond (Nat.beq m 26) (cX3_init) (⟨#[]⟩)) (cond (Nat.beq m 27) (cX3_begin) (⟨#[]⟩))))))) (cond (Nat.ble m 41) (cond (Nat.ble m 34) (cond (Nat.ble m 30) (cond (Nat.ble m 28) (cond (Nat.beq m 28) (cX3_isComplete) (⟨#[]⟩)) (cond (Nat.ble m 29) (cond (Nat.beq m 29) (cX3_take) (⟨#[]⟩)) (cond (Nat.beq m 30) (cX3_isDigit) (⟨#[]⟩)))) (cond (Nat.ble m 32) (cond (Nat.ble m 31) (cond (Nat.beq m 31) (cX3_takeSpace) (⟨#[]⟩)) (cond (Nat.beq m 32) (cX3_takeOpening) (⟨#[]⟩))) (cond (Nat.ble m 33) (cond (Nat.beq m 33) (cX3_takeClosing) (⟨#[]⟩)) (cond (Nat.beq m 34) (cX3_takeLetter) (⟨#[]⟩))))) (cond (Nat.ble m 37) (cond (Nat.ble m 35) (cond (Nat.beq m 35) (cX3_takeColon) (⟨#[]⟩)) (cond (Nat.ble m 36) (cond (Nat.beq m 36) (cX3_takeFirstDigit) (⟨#[]⟩)) (cond (Nat.beq m 37) (cX3_takeNextDigit) (⟨#[]⟩)))) (cond (Nat.ble m 39) (cond (Nat.ble m 38) (cond (Nat.beq m 38) (cX3_takeFieldEnd) (⟨#[]⟩)) (cond (Nat.beq m 39) (cX4_init) (⟨#[]⟩))) (cond (Nat.ble m 40) (cond (Nat.beq m 40) (cX4_size) (⟨#[]⟩)) (cond (Nat.beq m 41) (cX4_at) (⟨#[]⟩)))))) (cond (Nat.ble m 48) (cond (Nat.ble m 44) (cond (Nat.ble m 42) (cond (Nat.beq m 42) (cX4_put) (⟨#[]⟩)) (cond (Nat.ble m 43) (cond (Nat.beq m 43) (cX4_add) (⟨#[]⟩)) (cond (Nat.beq m 44) (cX4_cutTo) (⟨#[]⟩)))) (cond (Nat.ble m 46) (cond (Nat.ble m 45) (cond (Nat.beq m 45) (cX4_copyFrom) (⟨#[]⟩)) (cond (Nat.beq m 46) (cX5_init) (⟨#[]⟩))) (cond (Nat.ble m 47) (cond (Nat.beq m 47) (cX5_formAt) (⟨#[]⟩)) (cond (Nat.beq m 48) (cX5_numberFor) (⟨#[]⟩))))) (cond (Nat.ble m 52) (cond (Nat.ble m 50) (cond (Nat.ble m 49) (cond (Nat.beq m 49) (cX5_keep) (⟨#[]⟩)) (cond (Nat.beq m 50) (cX6_init) (⟨#[]⟩))) (cond (Nat.ble m 51) (cond (Nat.beq m 51) (cX6_copyFrom) (⟨#[]⟩)) (cond (Nat.beq m 52) (cX6_addRecord) (⟨#[]⟩)))) (cond (Nat.ble m 54) (cond (Nat.ble m 53) (cond (Nat.beq m 53) (cX6_shapeOf) (⟨#[]⟩)) (cond (Nat.beq m 54) (cX6_setShapeOf) (⟨#[]⟩))) (cond (Nat.ble m 55) (cond (Nat.beq m 55) (cX6_has) (⟨#[]⟩)) (cond (Nat.beq m 56) (cX6_recordsRead) (⟨#[]⟩)))))))) (cond (Nat.ble m 85) (cond (Nat.ble m 70) (cond (Nat.ble m 63) (cond (Nat.ble m 59) (cond (Nat.ble m 57) (cond (Nat.beq m 57) (cX6_recordsLeft) (⟨#[]⟩)) (cond (Nat.ble m 58) (cond (Nat.beq m 58) (cX6_recordsWith) (⟨#[]⟩)) (cond (Nat.beq m 59) (cX6_recordWith) (⟨#[]⟩)))) (cond (Nat.ble m 61) (cond (Nat.ble m 60) (cond (Nat.beq m 60) (cX6_valueAt) (⟨#[]⟩)) (cond (Nat.beq m 61) (cX6_setValue) (⟨#[]⟩))) (cond (Nat.ble m 62) (cond (Nat.beq m 62) (cX7_init) (⟨#[]⟩)) (cond (Nat.beq m 63) (cX7_append) (⟨#[]⟩))))) (cond (Nat.ble m 66) (cond (Nat.ble m 64) (cond (Nat.beq m 64) (cX7_clearText) (⟨#[]⟩)) (cond (Nat.ble m 65) (cond (Nat.beq m 65) (cX7_read) (⟨#[]⟩)) (cond (Nat.beq m 66) (cX7_discard) (⟨#[]⟩)))) (cond (Nat.ble m 68) (cond (Nat.ble m 67) (cond (Nat.beq m 67) (cX7_change) (⟨#[]⟩)) (cond (Nat.beq m 68) (cX7_drop) (⟨#[]⟩))) (cond (Nat.ble m 69) (cond (Nat.beq m 69) (cX7_setBound) (⟨#[]⟩)) (cond (Nat.beq m 70) (cX7_undo) (⟨#[]⟩)))))) (cond (Nat.ble m 77) (cond (Nat.ble m 73) (cond (Nat.ble m 71) (cond (Nat.beq m 71) (cX7_count) (⟨#[]⟩)) (cond (Nat.ble m 72) (cond (Nat.beq m 72) (cX7_record) (⟨#[]⟩)) (cond (Nat.beq m 73) (cX7_character) (⟨#[]⟩)))) (cond (Nat.ble m 75) (cond (Nat.ble m 74) (cond (Nat.beq m 74) (cX7_value) (⟨#[]⟩)) (cond (Nat.beq m 75) (cX7_path) (⟨#[]⟩))) (cond (Nat.ble m 76) (cond (Nat.beq m 76) (cX7_shape) (⟨#[]⟩)) (cond (Nat.beq m 77) (cX7_column) (⟨#[]⟩))))) (cond (Nat.ble m 81) (cond (Nat.ble m 79) (cond (Nat.ble m 78) (cond (Nat.beq m 78) (cX7_field) (⟨#[]⟩)) (cond (Nat.beq m 79) (cX7_sizeWith) (⟨#[]⟩))) (cond (Nat.ble m 80) (cond (Nat.beq m 80) (cX7_bestBound) (⟨#[]⟩)) (cond (Nat.beq m 81) (cX7_like) (⟨#[]⟩)))) (cond (Nat.ble m 83) (cond (Nat.ble m 82) (cond (Nat.beq m 82) (cX7_isPath) (⟨#[]⟩)) (cond (Nat.beq m 83) (cX7_isShape) (⟨#[]⟩))) (cond (Nat.ble m 84) (cond (Nat.beq m 84) (cX7_isBound) (⟨#[]⟩)) (cond (Nat.beq m 85) (cX7_isCommon) (⟨#[]⟩))))))) (cond (Nat.ble m 99) (cond (Nat.ble m 92) (cond (Nat.ble m 88) (cond (Nat.ble m 86) (cond (Nat.beq m 86) (cX7_formOf) (⟨#[]⟩)) (cond (Nat.ble m 87) (cond (Nat.beq m 87) (cX7_takeText) (⟨#[]⟩)) (cond (Nat.beq m 88) (cX7_learnShape) (⟨#[]⟩)))) (cond (Nat.ble m 90) (cond (Nat.ble m 89) (cond (Nat.beq m 89) (cX7_fillRemainder) (⟨#[]⟩)) (cond (Nat.beq m 90) (cX7_dropValues) (⟨#[]⟩))) (cond (Nat.ble m 91) (cond (Nat.beq m 91) (cX7_commonShapes) (⟨#[]⟩)) (cond (Nat.beq m 92) (cX7_rareRecords) (⟨#[]⟩))))) (cond (Nat.ble m 95) (cond (Nat.ble m 93) (cond (Nat.beq m 93) (cX7_sizeFor) (⟨#[]⟩)) (cond (Nat.ble m 94) (cond (Nat.beq m 94) (cX7_costOf) (⟨#[]⟩)) (cond (Nat.beq m 95) (cX7_recordsHolding) (⟨#[]⟩)))) (cond (Nat.ble m 97) (cond (Nat.ble m 96) (cond (Nat.beq m 96) (cX7_sumOfPath) (⟨#[]⟩)) (cond (Nat.beq m 97) (cX7_sumOfRecord) (⟨#[]⟩))) (cond (Nat.ble m 98) (cond (Nat.beq m 98) (cX7_writeText) (⟨#[]⟩)) (cond (Nat.beq m 99) (cX7_writeClosings) (⟨#[]⟩)))))) (cond (Nat.ble m 106) (cond (Nat.ble m 102) (cond (Nat.ble m 100) (cond (Nat.beq m 100) (cX7_writeName) (⟨#[]⟩)) (cond (Nat.ble m 101) (cond (Nat.beq m 101) (cX7_writeNumber) (⟨#[]⟩)) (cond (Nat.beq m 102) (cL_up) (⟨#[]⟩)))) (cond (Nat.ble m 104) (cond (Nat.ble m 103) (cond (Nat.beq m 103) (cL_mark) (⟨#[]⟩)) (cond (Nat.beq m 104) (cL_fails) (⟨#[]⟩))) (cond (Nat.ble m 105) (cond (Nat.beq m 105) (cL_types) (⟨#[]⟩)) (cond (Nat.beq m 106) (cL_put) (⟨#[]⟩))))) (cond (Nat.ble m 110) (cond (Nat.ble m 108) (cond (Nat.ble m 107) (cond (Nat.beq m 107) (cL_text) (⟨#[]⟩)) (cond (Nat.beq m 108) (cL_shapes) (⟨#[]⟩))) (cond (Nat.ble m 109) (cond (Nat.beq m 109) (cL_leafOf) (⟨#[]⟩)) (cond (Nat.beq m 110) (cL_paths) (⟨#[]⟩)))) (cond (Nat.ble m 112) (cond (Nat.ble m 111) (cond (Nat.beq m 111) (cL_like) (⟨#[]⟩)) (cond (Nat.beq m 112) (cL_sound) (⟨#[]⟩))) (cond (Nat.ble m 113) (cond (Nat.beq m 113) (cL_again) (⟨#[]⟩)) (cond (Nat.beq m 114) (cL_acts) (⟨#[]⟩))))))))
def qret (m : Nat) : Option FieldType := cond (Nat.ble m 56) (cond (Nat.ble m 27) (cond (Nat.ble m 13) (cond (Nat.ble m 6) (cond (Nat.ble m 2) (cond (Nat.ble m 0) (cond (Nat.beq m 0) (none) (none)) (cond (Nat.ble m 1) (cond (Nat.beq m 1) (none) (none)) (cond (Nat.beq m 2) (none) (none)))) (cond (Nat.ble m 4) (cond (Nat.ble m 3) (cond (Nat.beq m 3) (none) (none)) (cond (Nat.beq m 4) (some .int) (none))) (cond (Nat.ble m 5) (cond (Nat.beq m 5) (some .int) (none)) (cond (Nat.beq m 6) (some .int) (none))))) (cond (Nat.ble m 9) (cond (Nat.ble m 7) (cond (Nat.beq m 7) (some .int) (none)) (cond (Nat.ble m 8) (cond (Nat.beq m 8) (some .boolean) (none)) (cond (Nat.beq m 9) (some .int) (none)))) (cond (Nat.ble m 11) (cond (Nat.ble m 10) (cond (Nat.beq m 10) (some .boolean) (none)) (cond (Nat.beq m 11) (some .int) (none))) (cond (Nat.ble m 12) (cond (Nat.beq m 12) (some .boolean) (none)) (cond (Nat.beq m 13) (some .int) (none)))))) (cond (Nat.ble m 20) (cond (Nat.ble m 16) (cond (Nat.ble m 14) (cond (Nat.beq m 14) (none) (none)) (cond (Nat.ble m 15) (cond (Nat.beq m 15) (some .int) (none)) (cond (Nat.beq m 16) (none) (none)))) (cond (Nat.ble m 18) (cond (Nat.ble m 17) (cond (Nat.beq m 17) (none) (none)) (cond (Nat.beq m 18) (none) (none))) (cond (Nat.ble m 19) (cond (Nat.beq m 19) (none) (none)) (cond (Nat.beq m 20) (some .int) (none))))) (cond (Nat.ble m 23) (cond (Nat.ble m 21) (cond (Nat.beq m 21) (none) (none)) (cond (Nat.ble m 22) (cond (Nat.beq m 22) (some .int) (none)) (cond (Nat.beq m 23) (some .int) (none)))) (cond (Nat.ble m 25) (cond (Nat.ble m 24) (cond (Nat.beq m 24) (some .int) (none)) (cond (Nat.beq m 25) (some .boolean) (none))) (cond (Nat.ble m 26) (cond (Nat.beq m 26) (none) (none)) (cond (Nat.beq m 27) (none) (none))))))) (cond (Nat.ble m 41) (cond (Nat.ble m 34) (cond (Nat.ble m 30) (cond (Nat.ble m 28) (cond (Nat.beq m 28) (some .boolean) (none)) (cond (Nat.ble m 29) (cond (Nat.beq m 29) (some .boolean) (none)) (cond (Nat.beq m 30) (some .boolean) (none)))) (cond (Nat.ble m 32) (cond (Nat.ble m 31) (cond (Nat.beq m 31) (none) (none)) (cond (Nat.beq m 32) (some .boolean) (none))) (cond (Nat.ble m 33) (cond (Nat.beq m 33) (some .boolean) (none)) (cond (Nat.beq m 34) (some .boolean) (none))))) (cond (Nat.ble m 37) (cond (Nat.ble m 35) (cond (Nat.beq m 35) (some .boolean) (none)) (cond (Nat.ble m 36) (cond (Nat.beq m 36) (some .boolean) (none)) (cond (Nat.beq m 37) (some .boolean) (none)))) (cond (Nat.ble m 39) (cond (Nat.ble m 38) (cond (Nat.beq m 38) (some .boolean) (none)) (cond (Nat.beq m 39) (none) (none))) (cond (Nat.ble m 40) (cond (Nat.beq m 40) (some .int) (none)) (cond (Nat.beq m 41) (some .int) (none)))))) (cond (Nat.ble m 48) (cond (Nat.ble m 44) (cond (Nat.ble m 42) (cond (Nat.beq m 42) (none) (none)) (cond (Nat.ble m 43) (cond (Nat.beq m 43) (none) (none)) (cond (Nat.beq m 44) (none) (none)))) (cond (Nat.ble m 46) (cond (Nat.ble m 45) (cond (Nat.beq m 45) (none) (none)) (cond (Nat.beq m 46) (none) (none))) (cond (Nat.ble m 47) (cond (Nat.beq m 47) (some (.object "LikeRecords$Form")) (none)) (cond (Nat.beq m 48) (some .int) (none))))) (cond (Nat.ble m 52) (cond (Nat.ble m 50) (cond (Nat.ble m 49) (cond (Nat.beq m 49) (none) (none)) (cond (Nat.beq m 50) (none) (none))) (cond (Nat.ble m 51) (cond (Nat.beq m 51) (none) (none)) (cond (Nat.beq m 52) (some .int) (none)))) (cond (Nat.ble m 54) (cond (Nat.ble m 53) (cond (Nat.beq m 53) (some .int) (none)) (cond (Nat.beq m 54) (none) (none))) (cond (Nat.ble m 55) (cond (Nat.beq m 55) (some .boolean) (none)) (cond (Nat.beq m 56) (some .int) (none)))))))) (cond (Nat.ble m 85) (cond (Nat.ble m 70) (cond (Nat.ble m 63) (cond (Nat.ble m 59) (cond (Nat.ble m 57) (cond (Nat.beq m 57) (some .int) (none)) (cond (Nat.ble m 58) (cond (Nat.beq m 58) (some .int) (none)) (cond (Nat.beq m 59) (some .int) (none)))) (cond (Nat.ble m 61) (cond (Nat.ble m 60) (cond (Nat.beq m 60) (some .int) (none)) (cond (Nat.beq m 61) (none) (none))) (cond (Nat.ble m 62) (cond (Nat.beq m 62) (none) (none)) (cond (Nat.beq m 63) (some .int) (none))))) (cond (Nat.ble m 66) (cond (Nat.ble m 64) (cond (Nat.beq m 64) (some .int) (none)) (cond (Nat.ble m 65) (cond (Nat.beq m 65) (some .int) (none)) (cond (Nat.beq m 66) (some .int) (none)))) (cond (Nat.ble m 68) (cond (Nat.ble m 67) (cond (Nat.beq m 67) (some .int) (none)) (cond (Nat.beq m 68) (some .int) (none))) (cond (Nat.ble m 69) (cond (Nat.beq m 69) (some .int) (none)) (cond (Nat.beq m 70) (some .int) (none)))))) (cond (Nat.ble m 77) (cond (Nat.ble m 73) (cond (Nat.ble m 71) (cond (Nat.beq m 71) (some .int) (none)) (cond (Nat.ble m 72) (cond (Nat.beq m 72) (some .int) (none)) (cond (Nat.beq m 73) (some .int) (none)))) (cond (Nat.ble m 75) (cond (Nat.ble m 74) (cond (Nat.beq m 74) (some .int) (none)) (cond (Nat.beq m 75) (some .int) (none))) (cond (Nat.ble m 76) (cond (Nat.beq m 76) (some .int) (none)) (cond (Nat.beq m 77) (some .int) (none))))) (cond (Nat.ble m 81) (cond (Nat.ble m 79) (cond (Nat.ble m 78) (cond (Nat.beq m 78) (some .int) (none)) (cond (Nat.beq m 79) (some .int) (none))) (cond (Nat.ble m 80) (cond (Nat.beq m 80) (some .int) (none)) (cond (Nat.beq m 81) (some .int) (none)))) (cond (Nat.ble m 83) (cond (Nat.ble m 82) (cond (Nat.beq m 82) (some .boolean) (none)) (cond (Nat.beq m 83) (some .boolean) (none))) (cond (Nat.ble m 84) (cond (Nat.beq m 84) (some .boolean) (none)) (cond (Nat.beq m 85) (some .boolean) (none))))))) (cond (Nat.ble m 99) (cond (Nat.ble m 92) (cond (Nat.ble m 88) (cond (Nat.ble m 86) (cond (Nat.beq m 86) (some (.object "LikeRecords$Form")) (none)) (cond (Nat.ble m 87) (cond (Nat.beq m 87) (some .int) (none)) (cond (Nat.beq m 88) (none) (none)))) (cond (Nat.ble m 90) (cond (Nat.ble m 89) (cond (Nat.beq m 89) (none) (none)) (cond (Nat.beq m 90) (none) (none))) (cond (Nat.ble m 91) (cond (Nat.beq m 91) (some .int) (none)) (cond (Nat.beq m 92) (some .int) (none))))) (cond (Nat.ble m 95) (cond (Nat.ble m 93) (cond (Nat.beq m 93) (some .int) (none)) (cond (Nat.ble m 94) (cond (Nat.beq m 94) (some .int) (none)) (cond (Nat.beq m 95) (some .int) (none)))) (cond (Nat.ble m 97) (cond (Nat.ble m 96) (cond (Nat.beq m 96) (some .int) (none)) (cond (Nat.beq m 97) (some .int) (none))) (cond (Nat.ble m 98) (cond (Nat.beq m 98) (some .int) (none)) (cond (Nat.beq m 99) (some .int) (none)))))) (cond (Nat.ble m 106) (cond (Nat.ble m 102) (cond (Nat.ble m 100) (cond (Nat.beq m 100) (none) (none)) (cond (Nat.ble m 101) (cond (Nat.beq m 101) (none) (none)) (cond (Nat.beq m 102) (some .int) (none)))) (cond (Nat.ble m 104) (cond (Nat.ble m 103) (cond (Nat.beq m 103) (some .long) (none)) (cond (Nat.beq m 104) (some .boolean) (none))) (cond (Nat.ble m 105) (cond (Nat.beq m 105) (none) (none)) (cond (Nat.beq m 106) (some .int) (none))))) (cond (Nat.ble m 110) (cond (Nat.ble m 108) (cond (Nat.ble m 107) (cond (Nat.beq m 107) (some .boolean) (none)) (cond (Nat.beq m 108) (some .boolean) (none))) (cond (Nat.ble m 109) (cond (Nat.beq m 109) (some .int) (none)) (cond (Nat.beq m 110) (some .boolean) (none)))) (cond (Nat.ble m 112) (cond (Nat.ble m 111) (cond (Nat.beq m 111) (some .boolean) (none)) (cond (Nat.beq m 112) (some .boolean) (none))) (cond (Nat.ble m 113) (cond (Nat.beq m 113) (some .boolean) (none)) (cond (Nat.beq m 114) (some .boolean) (none))))))))
def qfr (m : Nat) : Nat × Nat := cond (Nat.ble m 56) (cond (Nat.ble m 27) (cond (Nat.ble m 13) (cond (Nat.ble m 6) (cond (Nat.ble m 2) (cond (Nat.ble m 0) (cond (Nat.beq m 0) ((2, 42)) ((0, 0))) (cond (Nat.ble m 1) (cond (Nat.beq m 1) ((1, 21)) ((0, 0))) (cond (Nat.beq m 2) ((1, 21)) ((0, 0))))) (cond (Nat.ble m 4) (cond (Nat.ble m 3) (cond (Nat.beq m 3) ((2, 43)) ((0, 0))) (cond (Nat.beq m 4) ((1, 20)) ((0, 0)))) (cond (Nat.ble m 5) (cond (Nat.beq m 5) ((0, 0)) ((0, 0))) (cond (Nat.beq m 6) ((1, 20)) ((0, 0)))))) (cond (Nat.ble m 9) (cond (Nat.ble m 7) (cond (Nat.beq m 7) ((1, 21)) ((0, 0))) (cond (Nat.ble m 8) (cond (Nat.beq m 8) ((1, 21)) ((0, 0))) (cond (Nat.beq m 9) ((1, 21)) ((0, 0))))) (cond (Nat.ble m 11) (cond (Nat.ble m 10) (cond (Nat.beq m 10) ((1, 21)) ((0, 0))) (cond (Nat.beq m 11) ((2, 42)) ((0, 0)))) (cond (Nat.ble m 12) (cond (Nat.beq m 12) ((2, 42)) ((0, 0))) (cond (Nat.beq m 13) ((2, 43)) ((0, 0))))))) (cond (Nat.ble m 20) (cond (Nat.ble m 16) (cond (Nat.ble m 14) (cond (Nat.beq m 14) ((3, 62)) ((0, 0))) (cond (Nat.ble m 15) (cond (Nat.beq m 15) ((0, 0)) ((0, 0))) (cond (Nat.beq m 16) ((3, 64)) ((0, 0))))) (cond (Nat.ble m 18) (cond (Nat.ble m 17) (cond (Nat.beq m 17) ((0, 0)) ((0, 0))) (cond (Nat.beq m 18) ((3, 64)) ((0, 0)))) (cond (Nat.ble m 19) (cond (Nat.beq m 19) ((2, 42)) ((0, 0))) (cond (Nat.beq m 20) ((1, 20)) ((0, 0)))))) (cond (Nat.ble m 23) (cond (Nat.ble m 21) (cond (Nat.beq m 21) ((1, 21)) ((0, 0))) (cond (Nat.ble m 22) (cond (Nat.beq m 22) ((1, 21)) ((0, 0))) (cond (Nat.beq m 23) ((1, 21)) ((0, 0))))) (cond (Nat.ble m 25) (cond (Nat.ble m 24) (cond (Nat.beq m 24) ((1, 21)) ((0, 0))) (cond (Nat.beq m 25) ((1, 21)) ((0, 0)))) (cond (Nat.ble m 26) (cond (Nat.beq m 26) ((3, 62)) ((0, 0))) (cond (Nat.beq m 27) ((2, 42)) ((0, 0)))))))) (cond (Nat.ble m 41) (cond (Nat.ble m 34) (cond (Nat.ble m 30) (cond (Nat.ble m 28) (cond (Nat.beq m 28) ((0, 0)) ((0, 0))) (cond (Nat.ble m 29) (cond (Nat.beq m 29) ((4, 83)) ((0, 0))) (cond (Nat.beq m 30) ((0, 0)) ((0, 0))))) (cond (Nat.ble m 32) (cond (Nat.ble m 31) (cond (Nat.beq m 31) ((0, 0)) ((0, 0))) (cond (Nat.beq m 32) ((2, 42)) ((0, 0)))) (cond (Nat.ble m 33) (cond (Nat.beq m 33) ((2, 42)) ((0, 0))) (cond (Nat.beq m 34) ((2, 44)) ((0, 0)))))) (cond (Nat.ble m 37) (cond (Nat.ble m 35) (cond (Nat.beq m 35) ((0, 0)) ((0, 0))) (cond (Nat.ble m 36) (cond (Nat.beq m 36) ((2, 42)) ((0, 0))) (cond (Nat.beq m 37) ((1, 22)) ((0, 0))))) (cond (Nat.ble m 39) (cond (Nat.ble m 38) (cond (Nat.beq m 38) ((3, 62)) ((0, 0))) (cond (Nat.beq m 39) ((1, 21)) ((0, 0)))) (cond (Nat.ble m 40) (cond (Nat.beq m 40) ((0, 0)) ((0, 0))) (cond (Nat.beq m 41) ((0, 0)) ((0, 0))))))) (cond (Nat.ble m 48) (cond (Nat.ble m 44) (cond (Nat.ble m 42) (cond (Nat.beq m 42) ((0, 0)) ((0, 0))) (cond (Nat.ble m 43) (cond (Nat.beq m 43) ((0, 0)) ((0, 0))) (cond (Nat.beq m 44) ((0, 0)) ((0, 0))))) (cond (Nat.ble m 46) (cond (Nat.ble m 45) (cond (Nat.beq m 45) ((1, 21)) ((0, 0))) (cond (Nat.beq m 46) ((3, 62)) ((0, 0)))) (cond (Nat.ble m 47) (cond (Nat.beq m 47) ((0, 0)) ((0, 0))) (cond (Nat.beq m 48) ((3, 64)) ((0, 0)))))) (cond (Nat.ble m 52) (cond (Nat.ble m 50) (cond (Nat.ble m 49) (cond (Nat.beq m 49) ((3, 64)) ((0, 0))) (cond (Nat.beq m 50) ((2, 42)) ((0, 0)))) (cond (Nat.ble m 51) (cond (Nat.beq m 51) ((2, 43)) ((0, 0))) (cond (Nat.beq m 52) ((1, 21)) ((0, 0))))) (cond (Nat.ble m 54) (cond (Nat.ble m 53) (cond (Nat.beq m 53) ((1, 21)) ((0, 0))) (cond (Nat.beq m 54) ((1, 22)) ((0, 0)))) (cond (Nat.ble m 55) (cond (Nat.beq m 55) ((1, 21)) ((0, 0))) (cond (Nat.beq m 56) ((1, 20)) ((0, 0))))))))) (cond (Nat.ble m 85) (cond (Nat.ble m 70) (cond (Nat.ble m 63) (cond (Nat.ble m 59) (cond (Nat.ble m 57) (cond (Nat.beq m 57) ((2, 42)) ((0, 0))) (cond (Nat.ble m 58) (cond (Nat.beq m 58) ((1, 21)) ((0, 0))) (cond (Nat.beq m 59) ((1, 21)) ((0, 0))))) (cond (Nat.ble m 61) (cond (Nat.ble m 60) (cond (Nat.beq m 60) ((1, 21)) ((0, 0))) (cond (Nat.beq m 61) ((1, 22)) ((0, 0)))) (cond (Nat.ble m 62) (cond (Nat.beq m 62) ((4, 83)) ((0, 0))) (cond (Nat.beq m 63) ((1, 21)) ((0, 0)))))) (cond (Nat.ble m 66) (cond (Nat.ble m 64) (cond (Nat.beq m 64) ((1, 21)) ((0, 0))) (cond (Nat.ble m 65) (cond (Nat.beq m 65) ((6, 125)) ((0, 0))) (cond (Nat.beq m 66) ((4, 86)) ((0, 0))))) (cond (Nat.ble m 68) (cond (Nat.ble m 67) (cond (Nat.beq m 67) ((4, 86)) ((0, 0))) (cond (Nat.beq m 68) ((5, 108)) ((0, 0)))) (cond (Nat.ble m 69) (cond (Nat.beq m 69) ((4, 87)) ((0, 0))) (cond (Nat.beq m 70) ((4, 86)) ((0, 0))))))) (cond (Nat.ble m 77) (cond (Nat.ble m 73) (cond (Nat.ble m 71) (cond (Nat.beq m 71) ((4, 89)) ((0, 0))) (cond (Nat.ble m 72) (cond (Nat.beq m 72) ((4, 92)) ((0, 0))) (cond (Nat.beq m 73) ((4, 92)) ((0, 0))))) (cond (Nat.ble m 75) (cond (Nat.ble m 74) (cond (Nat.beq m 74) ((3, 65)) ((0, 0))) (cond (Nat.beq m 75) ((4, 89)) ((0, 0)))) (cond (Nat.ble m 76) (cond (Nat.beq m 76) ((4, 92)) ((0, 0))) (cond (Nat.beq m 77) ((3, 65)) ((0, 0)))))) (cond (Nat.ble m 81) (cond (Nat.ble m 79) (cond (Nat.ble m 78) (cond (Nat.beq m 78) ((2, 42)) ((0, 0))) (cond (Nat.beq m 79) ((4, 89)) ((0, 0)))) (cond (Nat.ble m 80) (cond (Nat.beq m 80) ((4, 89)) ((0, 0))) (cond (Nat.beq m 81) ((3, 66)) ((0, 0))))) (cond (Nat.ble m 83) (cond (Nat.ble m 82) (cond (Nat.beq m 82) ((0, 0)) ((0, 0))) (cond (Nat.beq m 83) ((0, 0)) ((0, 0)))) (cond (Nat.ble m 84) (cond (Nat.beq m 84) ((0, 0)) ((0, 0))) (cond (Nat.beq m 85) ((2, 44)) ((0, 0)))))))) (cond (Nat.ble m 99) (cond (Nat.ble m 92) (cond (Nat.ble m 88) (cond (Nat.ble m 86) (cond (Nat.beq m 86) ((2, 42)) ((0, 0))) (cond (Nat.ble m 87) (cond (Nat.beq m 87) ((5, 104)) ((0, 0))) (cond (Nat.beq m 88) ((4, 86)) ((0, 0))))) (cond (Nat.ble m 90) (cond (Nat.ble m 89) (cond (Nat.beq m 89) ((2, 45)) ((0, 0))) (cond (Nat.beq m 90) ((2, 45)) ((0, 0)))) (cond (Nat.ble m 91) (cond (Nat.beq m 91) ((3, 65)) ((0, 0))) (cond (Nat.beq m 92) ((3, 65)) ((0, 0)))))) (cond (Nat.ble m 95) (cond (Nat.ble m 93) (cond (Nat.beq m 93) ((3, 64)) ((0, 0))) (cond (Nat.ble m 94) (cond (Nat.beq m 94) ((3, 65)) ((0, 0))) (cond (Nat.beq m 95) ((2, 44)) ((0, 0))))) (cond (Nat.ble m 97) (cond (Nat.ble m 96) (cond (Nat.beq m 96) ((3, 65)) ((0, 0))) (cond (Nat.beq m 97) ((2, 43)) ((0, 0)))) (cond (Nat.ble m 98) (cond (Nat.beq m 98) ((3, 66)) ((0, 0))) (cond (Nat.beq m 99) ((2, 42)) ((0, 0))))))) (cond (Nat.ble m 106) (cond (Nat.ble m 102) (cond (Nat.ble m 100) (cond (Nat.beq m 100) ((2, 42)) ((0, 0))) (cond (Nat.ble m 101) (cond (Nat.beq m 101) ((1, 21)) ((0, 0))) (cond (Nat.beq m 102) ((0, 0)) ((0, 0))))) (cond (Nat.ble m 104) (cond (Nat.ble m 103) (cond (Nat.beq m 103) ((5, 115)) ((0, 0))) (cond (Nat.beq m 104) ((6, 139)) ((0, 0)))) (cond (Nat.ble m 105) (cond (Nat.beq m 105) ((3, 65)) ((0, 0))) (cond (Nat.beq m 106) ((2, 42)) ((0, 0)))))) (cond (Nat.ble m 110) (cond (Nat.ble m 108) (cond (Nat.ble m 107) (cond (Nat.beq m 107) ((5, 115)) ((0, 0))) (cond (Nat.beq m 108) ((6, 140)) ((0, 0)))) (cond (Nat.ble m 109) (cond (Nat.beq m 109) ((5, 115)) ((0, 0))) (cond (Nat.beq m 110) ((5, 115)) ((0, 0))))) (cond (Nat.ble m 112) (cond (Nat.ble m 111) (cond (Nat.beq m 111) ((5, 115)) ((0, 0))) (cond (Nat.beq m 112) ((7, 171)) ((0, 0)))) (cond (Nat.ble m 113) (cond (Nat.beq m 113) ((7, 147)) ((0, 0))) (cond (Nat.beq m 114) ((7, 147)) ((0, 0)))))))))
def qR (c : Nat) : String := cond (Nat.ble c 3) (cond (Nat.ble c 1) (cond (Nat.ble c 0) (cond (Nat.beq c 0) (RX0) ("")) (cond (Nat.beq c 1) (RX1) (""))) (cond (Nat.ble c 2) (cond (Nat.beq c 2) (RX2) ("")) (cond (Nat.beq c 3) (RX3) ("")))) (cond (Nat.ble c 5) (cond (Nat.ble c 4) (cond (Nat.beq c 4) (RX4) ("")) (cond (Nat.beq c 5) (RX5) (""))) (cond (Nat.ble c 6) (cond (Nat.beq c 6) (RX6) ("")) (cond (Nat.ble c 7) (cond (Nat.beq c 7) (RX7) ("")) (cond (Nat.beq c 8) (RL) ("")))))
def qT (c : Nat) : u_T := cond (Nat.ble c 3) (cond (Nat.ble c 1) (cond (Nat.ble c 0) (cond (Nat.beq c 0) (TX0) (TX0)) (cond (Nat.beq c 1) (TX1) (TX0))) (cond (Nat.ble c 2) (cond (Nat.beq c 2) (TX2) (TX0)) (cond (Nat.beq c 3) (TX3) (TX0)))) (cond (Nat.ble c 5) (cond (Nat.ble c 4) (cond (Nat.beq c 4) (TX4) (TX0)) (cond (Nat.beq c 5) (TX5) (TX0))) (cond (Nat.ble c 6) (cond (Nat.beq c 6) (TX6) (TX0)) (cond (Nat.beq c 7) (TX7) (TX0))))
def qty (c : Nat) : Nat → FieldType := cond (Nat.ble c 3) (cond (Nat.ble c 1) (cond (Nat.ble c 0) (cond (Nat.beq c 0) (tyX0) (tyX0)) (cond (Nat.beq c 1) (tyX1) (tyX0))) (cond (Nat.ble c 2) (cond (Nat.beq c 2) (tyX2) (tyX0)) (cond (Nat.beq c 3) (tyX3) (tyX0)))) (cond (Nat.ble c 5) (cond (Nat.ble c 4) (cond (Nat.beq c 4) (tyX4) (tyX0)) (cond (Nat.beq c 5) (tyX5) (tyX0))) (cond (Nat.ble c 6) (cond (Nat.beq c 6) (tyX6) (tyX0)) (cond (Nat.beq c 7) (tyX7) (tyX0))))
def qfl : List (Nat × Nat × Nat × Nat × Nat) := [(0, 14, 0, 0, 93), (0, 20, 0, 1, 94), (1, 11, 1, 0, 181), (1, 18, 1, 1, 182), (2, 14, 2, 0, 78), (2, 20, 2, 1, 79), (3, 12, 3, 0, 102), (3, 21, 3, 1, 104), (3, 30, 3, 2, 106), (3, 34, 3, 3, 108), (3, 38, 3, 4, 109), (3, 41, 3, 5, 110), (3, 44, 3, 6, 111), (4, 15, 4, 0, 56), (4, 21, 4, 1, 57), (5, 11, 5, 0, 136), (5, 18, 5, 1, 137), (6, 14, 6, 0, 153), (6, 20, 6, 1, 154), (6, 23, 6, 2, 155), (6, 27, 6, 3, 157), (6, 30, 6, 4, 159), (7, 14, 7, 0, 188), (7, 18, 7, 1, 189), (7, 24, 7, 2, 190), (7, 28, 3, 0, 103), (7, 32, 7, 3, 191), (7, 36, 7, 4, 192), (7, 43, 7, 5, 193), (7, 50, 7, 6, 194), (7, 57, 7, 7, 195), (7, 71, 6, 2, 156), (7, 85, 3, 1, 105), (7, 88, 6, 3, 158), (7, 109, 3, 2, 107), (7, 160, 6, 4, 160)]
theorem qfl_ok : qfl.all (fun q => decide (lw_tbl[q.2.2.2.2]? = some (Cond.fieldLink (qR q.1) q.2.1 (qT q.2.2.1 q.2.2.2.1).1 (qT q.2.2.1 q.2.2.2.1).2.1 (qT q.2.2.1 q.2.2.2.1).2.2.1))) = true := by decide +kernel
def qml : List (Nat × Nat × Nat × Nat) := [(0, 11, 39, 92), (0, 24, 44, 233), (0, 27, 43, 263), (0, 30, 45, 382), (0, 34, 40, 290), (0, 38, 41, 291), (0, 42, 8, 527), (0, 46, 4, 334), (0, 47, 7, 338), (0, 48, 10, 629), (1, 17, 50, 180), (1, 22, 17, 355), (1, 25, 51, 359), (2, 11, 39, 77), (2, 23, 40, 284), (2, 27, 44, 225), (2, 30, 41, 275), (2, 34, 43, 285), (3, 11, 19, 72), (3, 20, 0, 87), (3, 27, 39, 101), (3, 47, 21, 221), (3, 50, 1, 229), (3, 53, 44, 234), (3, 54, 31, 251), (3, 57, 32, 255), (3, 61, 33, 267), (3, 65, 34, 276), (3, 69, 35, 292), (3, 72, 30, 296), (3, 75, 36, 299), (3, 78, 37, 305), (3, 81, 38, 314), (3, 84, 2, 259), (3, 87, 23, 271), (3, 91, 24, 280), (3, 95, 10, 286), (3, 98, 40, 303), (3, 102, 43, 304), (3, 103, 41, 309), (3, 106, 42, 310), (4, 25, 40, 367), (4, 28, 41, 368), (4, 32, 43, 369), (5, 17, 0, 135), (5, 22, 47, 326), (5, 26, 12, 330), (5, 30, 3, 378), (6, 11, 39, 152), (6, 33, 45, 363), (6, 37, 43, 388), (6, 40, 41, 389), (6, 44, 40, 346), (6, 48, 42, 570), (6, 52, 55, 410), (7, 11, 39, 49), (7, 23, 26, 66), (7, 35, 46, 129), (7, 42, 0, 144), (7, 49, 50, 147), (7, 56, 14, 174), (7, 61, 40, 239), (7, 65, 43, 481), (7, 68, 44, 383), (7, 75, 27, 217), (7, 78, 87, 235), (7, 81, 28, 318), (7, 91, 48, 322), (7, 95, 56, 342), (7, 98, 20, 347), (7, 101, 16, 351), (7, 105, 88, 370), (7, 112, 52, 384), (7, 116, 55, 468), (7, 120, 54, 566), (7, 124, 57, 406), (7, 127, 82, 519), (7, 130, 86, 469), (7, 134, 11, 523), (7, 138, 60, 503), (7, 142, 61, 575), (7, 146, 10, 536), (7, 149, 89, 583), (7, 153, 90, 593), (7, 157, 84, 601), (7, 163, 91, 414), (7, 166, 15, 394), (7, 167, 18, 398), (7, 170, 92, 426), (7, 173, 93, 430), (7, 176, 53, 473), (7, 179, 5, 436), (7, 182, 6, 440), (7, 185, 98, 477), (7, 188, 97, 511), (7, 191, 41, 243), (7, 194, 22, 495), (7, 197, 23, 486), (7, 200, 95, 532), (7, 203, 96, 537), (7, 206, 94, 541), (7, 209, 83, 549), (7, 212, 47, 434), (7, 215, 58, 422), (7, 218, 85, 418), (7, 221, 59, 613), (7, 224, 4, 435), (7, 225, 7, 557), (7, 226, 13, 625), (7, 230, 29, 247), (7, 233, 49, 374), (7, 235, 1, 587), (7, 238, 9, 482), (7, 241, 25, 588), (7, 245, 2, 592), (7, 246, 8, 499), (7, 249, 99, 487), (7, 252, 100, 491), (7, 255, 101, 507), (8, 13, 71, 402), (8, 19, 72, 464), (8, 23, 74, 515), (8, 26, 75, 528), (8, 29, 76, 545), (8, 32, 78, 553), (8, 35, 103, 459), (8, 41, 63, 558), (8, 44, 66, 562), (8, 47, 67, 571), (8, 51, 68, 579), (8, 54, 69, 597), (8, 57, 73, 605), (8, 60, 77, 609), (8, 63, 79, 617), (8, 66, 81, 621), (8, 69, 64, 651), (8, 73, 106, 661), (8, 78, 102, 452), (8, 81, 109, 645), (8, 85, 80, 444), (8, 88, 107, 633), (8, 92, 111, 636), (8, 94, 110, 639), (8, 97, 108, 642), (8, 101, 65, 213), (8, 104, 70, 390), (8, 107, 105, 658)]
theorem qml_ok : qml.all (fun q => decide (lw_tbl[q.2.2.2]? = some (Cond.methodLink (qR q.1) q.2.1 (qy q.2.2.1)))) = true := by decide +kernel
def qcl : List (Nat × Nat × Nat × Nat) := [(0, 9, 4, 91), (1, 9, 6, 178), (2, 9, 4, 76), (3, 9, 2, 70), (3, 18, 0, 85), (3, 25, 4, 100), (5, 9, 0, 133), (6, 9, 4, 151), (7, 9, 4, 47), (7, 21, 3, 64), (7, 33, 5, 127), (7, 40, 0, 143), (7, 47, 6, 145), (7, 54, 1, 172)]
theorem qcl_ok : qcl.all (fun q => decide (lw_tbl[q.2.2.2]? = some (Cond.classLink (qR q.1) q.2.1 (qR q.2.2.1)))) = true := by decide +kernel
def qmx : List (Nat × Nat × Nat) := [(4, 9, 53)]
theorem qmx_ok : qmx.all (fun q => decide (lw_tbl[q.2.2]? = some (Cond.methodLink (qR q.1) q.2.1 Lib.Math.max.name))) = true := by decide +kernel
def qoi : List (Nat × Nat × Nat) := [(0, 3, 90), (1, 3, 177), (2, 3, 75), (3, 3, 69), (4, 3, 52), (5, 3, 132), (6, 3, 150), (7, 3, 44)]
theorem qoi_ok : qoi.all (fun q => decide (lw_tbl[q.2.2]? = some (Cond.methodLink (qR q.1) q.2.1 Lib.objectInit))) = true := by decide +kernel
theorem qw_max : lw_tbl[54]? = some (Cond.static Lib.Math.max.name) ∧ lw_tbl[32]? = some (Cond.initialized "java/lang/Math") ∧ lw_tbl[55]? = some (Cond.code Lib.Math.max.name Lib.Math.max.code 2 (some .int)) := by decide +kernel
theorem qw_oin : lw_tbl[45]? = some (Cond.instanceMethod Lib.objectInit) ∧ lw_tbl[46]? = some (Cond.code Lib.objectInit ⟨#[0xb1]⟩ 1 none) := by decide +kernel
theorem qw_arr : lw_tbl[63]? = some (Cond.arrayClass .int) := by decide +kernel
def qao : List (Nat × Nat) := [(0, 134), (6, 179)]
theorem qao_ok : qao.all (fun q => decide (lw_tbl[q.2]? = some (Cond.arrayOver (.object (qR q.1))))) = true := by decide +kernel
def qld : List (Nat × Int × Nat) := [(8, 2147483647, 455), (77, 1103515245, 664)]
theorem qld_ok : qld.all (fun q => decide (lw_tbl[q.2.2]? = some (Cond.constant (qR 8) q.1 (Int32.ofInt q.2.1)))) = true := by decide +kernel
def qll : List (Nat × Int × Nat) := [(9, 17, 462), (11, 31, 463)]
theorem qll_ok : qll.all (fun q => decide (lw_tbl[q.2.2]? = some (Cond.constantLong (qR 8) q.1 (Int64.ofInt q.2.1)))) = true := by decide +kernel
theorem qu_0 : ∀ w ∈ u_ws RX0 TX0 2, w ∈ lw_tbl := by
  intro w hw
  have h : u_ws RX0 TX0 2 = [95, 97].filterMap (fun i => lw_tbl[i]?) := by decide +kernel
  rw [h] at hw
  obtain ⟨i, -, hi⟩ := List.mem_filterMap.mp hw
  exact List.mem_of_getElem? hi
theorem qu_1 : ∀ w ∈ u_ws RX1 TX1 2, w ∈ lw_tbl := by
  intro w hw
  have h : u_ws RX1 TX1 2 = [183, 185].filterMap (fun i => lw_tbl[i]?) := by decide +kernel
  rw [h] at hw
  obtain ⟨i, -, hi⟩ := List.mem_filterMap.mp hw
  exact List.mem_of_getElem? hi
theorem qu_2 : ∀ w ∈ u_ws RX2 TX2 2, w ∈ lw_tbl := by
  intro w hw
  have h : u_ws RX2 TX2 2 = [80, 82].filterMap (fun i => lw_tbl[i]?) := by decide +kernel
  rw [h] at hw
  obtain ⟨i, -, hi⟩ := List.mem_filterMap.mp hw
  exact List.mem_of_getElem? hi
theorem qu_3 : ∀ w ∈ u_ws RX3 TX3 7, w ∈ lw_tbl := by
  intro w hw
  have h : u_ws RX3 TX3 7 = [112, 114, 116, 118, 120, 122, 124].filterMap (fun i => lw_tbl[i]?) := by decide +kernel
  rw [h] at hw
  obtain ⟨i, -, hi⟩ := List.mem_filterMap.mp hw
  exact List.mem_of_getElem? hi
theorem qu_4 : ∀ w ∈ u_ws RX4 TX4 2, w ∈ lw_tbl := by
  intro w hw
  have h : u_ws RX4 TX4 2 = [58, 60].filterMap (fun i => lw_tbl[i]?) := by decide +kernel
  rw [h] at hw
  obtain ⟨i, -, hi⟩ := List.mem_filterMap.mp hw
  exact List.mem_of_getElem? hi
theorem qu_5 : ∀ w ∈ u_ws RX5 TX5 2, w ∈ lw_tbl := by
  intro w hw
  have h : u_ws RX5 TX5 2 = [138, 140].filterMap (fun i => lw_tbl[i]?) := by decide +kernel
  rw [h] at hw
  obtain ⟨i, -, hi⟩ := List.mem_filterMap.mp hw
  exact List.mem_of_getElem? hi
theorem qu_6 : ∀ w ∈ u_ws RX6 TX6 5, w ∈ lw_tbl := by
  intro w hw
  have h : u_ws RX6 TX6 5 = [161, 163, 165, 167, 169].filterMap (fun i => lw_tbl[i]?) := by decide +kernel
  rw [h] at hw
  obtain ⟨i, -, hi⟩ := List.mem_filterMap.mp hw
  exact List.mem_of_getElem? hi
theorem qu_7 : ∀ w ∈ u_ws RX7 TX7 8, w ∈ lw_tbl := by
  intro w hw
  have h : u_ws RX7 TX7 8 = [196, 198, 200, 202, 204, 206, 208, 210].filterMap (fun i => lw_tbl[i]?) := by decide +kernel
  rw [h] at hw
  obtain ⟨i, -, hi⟩ := List.mem_filterMap.mp hw
  exact List.mem_of_getElem? hi
def qcp (c : Nat) : Nat × Nat := cond (Nat.ble c 3) (cond (Nat.ble c 1) (cond (Nat.ble c 0) (cond (Nat.beq c 0) ((86, 35)) ((0, 0))) (cond (Nat.beq c 1) ((173, 38)) ((0, 0)))) (cond (Nat.ble c 2) (cond (Nat.beq c 2) ((71, 34)) ((0, 0))) (cond (Nat.beq c 3) ((65, 33)) ((0, 0))))) (cond (Nat.ble c 5) (cond (Nat.ble c 4) (cond (Nat.beq c 4) ((48, 31)) ((0, 0))) (cond (Nat.beq c 5) ((128, 36)) ((0, 0)))) (cond (Nat.ble c 6) (cond (Nat.beq c 6) ((146, 37)) ((0, 0))) (cond (Nat.ble c 7) (cond (Nat.beq c 7) ((40, 30)) ((0, 0))) (cond (Nat.beq c 8) ((0, 29)) ((0, 0))))))
theorem qcp_ok : (List.range 9).all (fun c => decide ((c < 8 → lw_tbl[(qcp c).1]? = some (Cond.instantiable (qR c) (qfs c).length)) ∧ lw_tbl[(qcp c).2]? = some (Cond.initialized (qR c)))) = true := by decide +kernel
def qmp (m : Nat) : Nat × Nat × Nat := cond (Nat.ble m 56) (cond (Nat.ble m 27) (cond (Nat.ble m 13) (cond (Nat.ble m 6) (cond (Nat.ble m 2) (cond (Nat.ble m 0) (cond (Nat.beq m 0) ((89, 88, 88)) ((0, 0, 0))) (cond (Nat.ble m 1) (cond (Nat.beq m 1) ((232, 230, 231)) ((0, 0, 0))) (cond (Nat.beq m 2) ((262, 260, 261)) ((0, 0, 0))))) (cond (Nat.ble m 4) (cond (Nat.ble m 3) (cond (Nat.beq m 3) ((381, 379, 380)) ((0, 0, 0))) (cond (Nat.beq m 4) ((337, 335, 336)) ((0, 0, 0)))) (cond (Nat.ble m 5) (cond (Nat.beq m 5) ((439, 437, 438)) ((0, 0, 0))) (cond (Nat.beq m 6) ((443, 441, 442)) ((0, 0, 0)))))) (cond (Nat.ble m 9) (cond (Nat.ble m 7) (cond (Nat.beq m 7) ((341, 339, 340)) ((0, 0, 0))) (cond (Nat.ble m 8) (cond (Nat.beq m 8) ((502, 500, 501)) ((0, 0, 0))) (cond (Nat.beq m 9) ((485, 483, 484)) ((0, 0, 0))))) (cond (Nat.ble m 11) (cond (Nat.ble m 10) (cond (Nat.beq m 10) ((289, 287, 288)) ((0, 0, 0))) (cond (Nat.beq m 11) ((526, 524, 525)) ((0, 0, 0)))) (cond (Nat.ble m 12) (cond (Nat.beq m 12) ((333, 331, 332)) ((0, 0, 0))) (cond (Nat.beq m 13) ((628, 626, 627)) ((0, 0, 0))))))) (cond (Nat.ble m 20) (cond (Nat.ble m 16) (cond (Nat.ble m 14) (cond (Nat.beq m 14) ((176, 175, 175)) ((0, 0, 0))) (cond (Nat.ble m 15) (cond (Nat.beq m 15) ((397, 395, 396)) ((0, 0, 0))) (cond (Nat.beq m 16) ((354, 352, 353)) ((0, 0, 0))))) (cond (Nat.ble m 18) (cond (Nat.ble m 17) (cond (Nat.beq m 17) ((358, 357, 9)) ((0, 0, 0))) (cond (Nat.beq m 18) ((401, 399, 400)) ((0, 0, 0)))) (cond (Nat.ble m 19) (cond (Nat.beq m 19) ((74, 73, 73)) ((0, 0, 0))) (cond (Nat.beq m 20) ((350, 348, 349)) ((0, 0, 0)))))) (cond (Nat.ble m 23) (cond (Nat.ble m 21) (cond (Nat.beq m 21) ((224, 222, 223)) ((0, 0, 0))) (cond (Nat.ble m 22) (cond (Nat.beq m 22) ((498, 496, 497)) ((0, 0, 0))) (cond (Nat.beq m 23) ((274, 272, 273)) ((0, 0, 0))))) (cond (Nat.ble m 25) (cond (Nat.ble m 24) (cond (Nat.beq m 24) ((283, 281, 282)) ((0, 0, 0))) (cond (Nat.beq m 25) ((591, 589, 590)) ((0, 0, 0)))) (cond (Nat.ble m 26) (cond (Nat.beq m 26) ((68, 67, 67)) ((0, 0, 0))) (cond (Nat.beq m 27) ((220, 218, 219)) ((0, 0, 0)))))))) (cond (Nat.ble m 41) (cond (Nat.ble m 34) (cond (Nat.ble m 30) (cond (Nat.ble m 28) (cond (Nat.beq m 28) ((321, 319, 320)) ((0, 0, 0))) (cond (Nat.ble m 29) (cond (Nat.beq m 29) ((250, 248, 249)) ((0, 0, 0))) (cond (Nat.beq m 30) ((298, 297, 297)) ((0, 0, 0))))) (cond (Nat.ble m 32) (cond (Nat.ble m 31) (cond (Nat.beq m 31) ((254, 253, 1)) ((0, 0, 0))) (cond (Nat.beq m 32) ((258, 257, 2)) ((0, 0, 0)))) (cond (Nat.ble m 33) (cond (Nat.beq m 33) ((270, 269, 3)) ((0, 0, 0))) (cond (Nat.beq m 34) ((279, 278, 4)) ((0, 0, 0)))))) (cond (Nat.ble m 37) (cond (Nat.ble m 35) (cond (Nat.beq m 35) ((295, 294, 5)) ((0, 0, 0))) (cond (Nat.ble m 36) (cond (Nat.beq m 36) ((302, 301, 6)) ((0, 0, 0))) (cond (Nat.beq m 37) ((308, 307, 7)) ((0, 0, 0))))) (cond (Nat.ble m 39) (cond (Nat.ble m 38) (cond (Nat.beq m 38) ((317, 316, 8)) ((0, 0, 0))) (cond (Nat.beq m 39) ((51, 50, 50)) ((0, 0, 0)))) (cond (Nat.ble m 40) (cond (Nat.beq m 40) ((242, 240, 241)) ((0, 0, 0))) (cond (Nat.beq m 41) ((246, 244, 245)) ((0, 0, 0))))))) (cond (Nat.ble m 48) (cond (Nat.ble m 44) (cond (Nat.ble m 42) (cond (Nat.beq m 42) ((313, 311, 312)) ((0, 0, 0))) (cond (Nat.ble m 43) (cond (Nat.beq m 43) ((266, 264, 265)) ((0, 0, 0))) (cond (Nat.beq m 44) ((228, 226, 227)) ((0, 0, 0))))) (cond (Nat.ble m 46) (cond (Nat.ble m 45) (cond (Nat.beq m 45) ((366, 364, 365)) ((0, 0, 0))) (cond (Nat.beq m 46) ((131, 130, 130)) ((0, 0, 0)))) (cond (Nat.ble m 47) (cond (Nat.beq m 47) ((329, 327, 328)) ((0, 0, 0))) (cond (Nat.beq m 48) ((325, 323, 324)) ((0, 0, 0)))))) (cond (Nat.ble m 52) (cond (Nat.ble m 50) (cond (Nat.ble m 49) (cond (Nat.beq m 49) ((377, 375, 376)) ((0, 0, 0))) (cond (Nat.beq m 50) ((149, 148, 148)) ((0, 0, 0)))) (cond (Nat.ble m 51) (cond (Nat.beq m 51) ((362, 360, 361)) ((0, 0, 0))) (cond (Nat.beq m 52) ((387, 385, 386)) ((0, 0, 0))))) (cond (Nat.ble m 54) (cond (Nat.ble m 53) (cond (Nat.beq m 53) ((476, 474, 475)) ((0, 0, 0))) (cond (Nat.beq m 54) ((569, 567, 568)) ((0, 0, 0)))) (cond (Nat.ble m 55) (cond (Nat.beq m 55) ((413, 411, 412)) ((0, 0, 0))) (cond (Nat.beq m 56) ((345, 343, 344)) ((0, 0, 0))))))))) (cond (Nat.ble m 85) (cond (Nat.ble m 70) (cond (Nat.ble m 63) (cond (Nat.ble m 59) (cond (Nat.ble m 57) (cond (Nat.beq m 57) ((409, 407, 408)) ((0, 0, 0))) (cond (Nat.ble m 58) (cond (Nat.beq m 58) ((425, 423, 424)) ((0, 0, 0))) (cond (Nat.beq m 59) ((616, 614, 615)) ((0, 0, 0))))) (cond (Nat.ble m 61) (cond (Nat.ble m 60) (cond (Nat.beq m 60) ((506, 504, 505)) ((0, 0, 0))) (cond (Nat.beq m 61) ((578, 576, 577)) ((0, 0, 0)))) (cond (Nat.ble m 62) (cond (Nat.beq m 62) ((43, 42, 42)) ((0, 0, 0))) (cond (Nat.beq m 63) ((561, 559, 560)) ((0, 0, 0)))))) (cond (Nat.ble m 66) (cond (Nat.ble m 64) (cond (Nat.beq m 64) ((654, 652, 653)) ((0, 0, 0))) (cond (Nat.ble m 65) (cond (Nat.beq m 65) ((216, 214, 215)) ((0, 0, 0))) (cond (Nat.beq m 66) ((565, 563, 564)) ((0, 0, 0))))) (cond (Nat.ble m 68) (cond (Nat.ble m 67) (cond (Nat.beq m 67) ((574, 572, 573)) ((0, 0, 0))) (cond (Nat.beq m 68) ((582, 580, 581)) ((0, 0, 0)))) (cond (Nat.ble m 69) (cond (Nat.beq m 69) ((600, 598, 599)) ((0, 0, 0))) (cond (Nat.beq m 70) ((393, 391, 392)) ((0, 0, 0))))))) (cond (Nat.ble m 77) (cond (Nat.ble m 73) (cond (Nat.ble m 71) (cond (Nat.beq m 71) ((405, 403, 404)) ((0, 0, 0))) (cond (Nat.ble m 72) (cond (Nat.beq m 72) ((467, 465, 466)) ((0, 0, 0))) (cond (Nat.beq m 73) ((608, 606, 607)) ((0, 0, 0))))) (cond (Nat.ble m 75) (cond (Nat.ble m 74) (cond (Nat.beq m 74) ((518, 516, 517)) ((0, 0, 0))) (cond (Nat.beq m 75) ((531, 529, 530)) ((0, 0, 0)))) (cond (Nat.ble m 76) (cond (Nat.beq m 76) ((548, 546, 547)) ((0, 0, 0))) (cond (Nat.beq m 77) ((612, 610, 611)) ((0, 0, 0)))))) (cond (Nat.ble m 81) (cond (Nat.ble m 79) (cond (Nat.ble m 78) (cond (Nat.beq m 78) ((556, 554, 555)) ((0, 0, 0))) (cond (Nat.beq m 79) ((620, 618, 619)) ((0, 0, 0)))) (cond (Nat.ble m 80) (cond (Nat.beq m 80) ((447, 445, 446)) ((0, 0, 0))) (cond (Nat.beq m 81) ((624, 622, 623)) ((0, 0, 0))))) (cond (Nat.ble m 83) (cond (Nat.ble m 82) (cond (Nat.beq m 82) ((522, 521, 21)) ((0, 0, 0))) (cond (Nat.beq m 83) ((552, 551, 25)) ((0, 0, 0)))) (cond (Nat.ble m 84) (cond (Nat.beq m 84) ((604, 603, 28)) ((0, 0, 0))) (cond (Nat.beq m 85) ((421, 420, 12)) ((0, 0, 0)))))))) (cond (Nat.ble m 99) (cond (Nat.ble m 92) (cond (Nat.ble m 88) (cond (Nat.ble m 86) (cond (Nat.beq m 86) ((472, 471, 15)) ((0, 0, 0))) (cond (Nat.ble m 87) (cond (Nat.beq m 87) ((238, 237, 0)) ((0, 0, 0))) (cond (Nat.beq m 88) ((373, 372, 10)) ((0, 0, 0))))) (cond (Nat.ble m 90) (cond (Nat.ble m 89) (cond (Nat.beq m 89) ((586, 585, 26)) ((0, 0, 0))) (cond (Nat.beq m 90) ((596, 595, 27)) ((0, 0, 0)))) (cond (Nat.ble m 91) (cond (Nat.beq m 91) ((417, 416, 11)) ((0, 0, 0))) (cond (Nat.beq m 92) ((429, 428, 13)) ((0, 0, 0)))))) (cond (Nat.ble m 95) (cond (Nat.ble m 93) (cond (Nat.beq m 93) ((433, 432, 14)) ((0, 0, 0))) (cond (Nat.ble m 94) (cond (Nat.beq m 94) ((544, 543, 24)) ((0, 0, 0))) (cond (Nat.beq m 95) ((535, 534, 22)) ((0, 0, 0))))) (cond (Nat.ble m 97) (cond (Nat.ble m 96) (cond (Nat.beq m 96) ((540, 539, 23)) ((0, 0, 0))) (cond (Nat.beq m 97) ((514, 513, 20)) ((0, 0, 0)))) (cond (Nat.ble m 98) (cond (Nat.beq m 98) ((480, 479, 16)) ((0, 0, 0))) (cond (Nat.beq m 99) ((490, 489, 17)) ((0, 0, 0))))))) (cond (Nat.ble m 106) (cond (Nat.ble m 102) (cond (Nat.ble m 100) (cond (Nat.beq m 100) ((494, 493, 18)) ((0, 0, 0))) (cond (Nat.ble m 101) (cond (Nat.beq m 101) ((510, 509, 19)) ((0, 0, 0))) (cond (Nat.beq m 102) ((454, 453, 453)) ((0, 0, 0))))) (cond (Nat.ble m 104) (cond (Nat.ble m 103) (cond (Nat.beq m 103) ((461, 460, 460)) ((0, 0, 0))) (cond (Nat.beq m 104) ((458, 457, 457)) ((0, 0, 0)))) (cond (Nat.ble m 105) (cond (Nat.beq m 105) ((660, 659, 659)) ((0, 0, 0))) (cond (Nat.beq m 106) ((663, 662, 662)) ((0, 0, 0)))))) (cond (Nat.ble m 110) (cond (Nat.ble m 108) (cond (Nat.ble m 107) (cond (Nat.beq m 107) ((635, 634, 634)) ((0, 0, 0))) (cond (Nat.beq m 108) ((644, 643, 643)) ((0, 0, 0)))) (cond (Nat.ble m 109) (cond (Nat.beq m 109) ((647, 646, 646)) ((0, 0, 0))) (cond (Nat.beq m 110) ((641, 640, 640)) ((0, 0, 0))))) (cond (Nat.ble m 112) (cond (Nat.ble m 111) (cond (Nat.beq m 111) ((638, 637, 637)) ((0, 0, 0))) (cond (Nat.beq m 112) ((632, 631, 631)) ((0, 0, 0)))) (cond (Nat.ble m 113) (cond (Nat.beq m 113) ((650, 649, 649)) ((0, 0, 0))) (cond (Nat.beq m 114) ((657, 656, 656)) ((0, 0, 0)))))))))
def qrt_ok (m : Nat) : Bool := match qRt m, qret m with
  | 0, none => true
  | 1, some .int => true
  | 2, some .boolean => true
  | 3, some (.object _) => true
  | 4, some .long => true
  | _, _ => false
theorem qmp_ok2 : (List.range 115).all (fun m => match qKi m with
  | 0 => decide (lw_tbl[(qmp m).2.1]? = some (Cond.static (qy m)) ∧ (parseMethodDescriptor (qy m).desc).map (fun d => d.parameters.length) = some (qNa m))
  | 1 => decide (lw_tbl[(qmp m).2.1]? = some (Cond.instanceMethod (qy m)) ∧ lw_tbl[(qmp m).2.2]? = some (Cond.selects (qR (qCl m)) (qy m) (qy m)) ∧ (parseMethodDescriptor (qy m).desc).map (fun d => d.parameters.length + 1) = some (qNa m))
  | 2 => decide (lw_tbl[(qmp m).2.1]? = some (Cond.instanceMethod (qy m)) ∧ (qy m).name = "<init>" ∧ qret m = none ∧ (parseMethodDescriptor (qy m).desc).map (fun d => d.parameters.length + 1) = some (qNa m))
  | _ => false) = true := by decide +kernel
theorem qmp_ok3 : (List.range 115).all (fun m => decide ((qy m).cls = qR (qCl m) ∧ qCl m < 9 ∧ (qKi m = 0 ∨ qCl m < 8) ∧ plainName (qy m).cls = true ∧ (qy m).cls ≠ "java/lang/invoke/MethodHandle" ∧ (qy m).cls ≠ "java/lang/invoke/VarHandle" ∧ qrt_ok m = true)) = true := by decide +kernel

set_option maxRecDepth 20000 in
theorem qcw_0 : lw_tbl[89]? = some (Cond.code (qy 0) (qb 0) (qNl 0) (qret 0)) := rfl
set_option maxRecDepth 20000 in
theorem qcw_1 : lw_tbl[232]? = some (Cond.code (qy 1) (qb 1) (qNl 1) (qret 1)) := rfl
set_option maxRecDepth 20000 in
theorem qcw_2 : lw_tbl[262]? = some (Cond.code (qy 2) (qb 2) (qNl 2) (qret 2)) := rfl
set_option maxRecDepth 20000 in
theorem qcw_3 : lw_tbl[381]? = some (Cond.code (qy 3) (qb 3) (qNl 3) (qret 3)) := rfl
set_option maxRecDepth 20000 in
theorem qcw_4 : lw_tbl[337]? = some (Cond.code (qy 4) (qb 4) (qNl 4) (qret 4)) := rfl
set_option maxRecDepth 20000 in
theorem qcw_5 : lw_tbl[439]? = some (Cond.code (qy 5) (qb 5) (qNl 5) (qret 5)) := rfl
set_option maxRecDepth 20000 in
theorem qcw_6 : lw_tbl[443]? = some (Cond.code (qy 6) (qb 6) (qNl 6) (qret 6)) := rfl
set_option maxRecDepth 20000 in
theorem qcw_7 : lw_tbl[341]? = some (Cond.code (qy 7) (qb 7) (qNl 7) (qret 7)) := rfl
set_option maxRecDepth 20000 in
theorem qcw_8 : lw_tbl[502]? = some (Cond.code (qy 8) (qb 8) (qNl 8) (qret 8)) := rfl
set_option maxRecDepth 20000 in
theorem qcw_9 : lw_tbl[485]? = some (Cond.code (qy 9) (qb 9) (qNl 9) (qret 9)) := rfl
set_option maxRecDepth 20000 in
theorem qcw_10 : lw_tbl[289]? = some (Cond.code (qy 10) (qb 10) (qNl 10) (qret 10)) := rfl
set_option maxRecDepth 20000 in
theorem qcw_11 : lw_tbl[526]? = some (Cond.code (qy 11) (qb 11) (qNl 11) (qret 11)) := rfl
set_option maxRecDepth 20000 in
theorem qcw_12 : lw_tbl[333]? = some (Cond.code (qy 12) (qb 12) (qNl 12) (qret 12)) := rfl
set_option maxRecDepth 20000 in
theorem qcw_13 : lw_tbl[628]? = some (Cond.code (qy 13) (qb 13) (qNl 13) (qret 13)) := rfl
set_option maxRecDepth 20000 in
theorem qcw_14 : lw_tbl[176]? = some (Cond.code (qy 14) (qb 14) (qNl 14) (qret 14)) := rfl
set_option maxRecDepth 20000 in
theorem qcw_15 : lw_tbl[397]? = some (Cond.code (qy 15) (qb 15) (qNl 15) (qret 15)) := rfl
set_option maxRecDepth 20000 in
theorem qcw_16 : lw_tbl[354]? = some (Cond.code (qy 16) (qb 16) (qNl 16) (qret 16)) := rfl
set_option maxRecDepth 20000 in
theorem qcw_17 : lw_tbl[358]? = some (Cond.code (qy 17) (qb 17) (qNl 17) (qret 17)) := rfl
set_option maxRecDepth 20000 in
theorem qcw_18 : lw_tbl[401]? = some (Cond.code (qy 18) (qb 18) (qNl 18) (qret 18)) := rfl
set_option maxRecDepth 20000 in
theorem qcw_19 : lw_tbl[74]? = some (Cond.code (qy 19) (qb 19) (qNl 19) (qret 19)) := rfl
set_option maxRecDepth 20000 in
theorem qcw_20 : lw_tbl[350]? = some (Cond.code (qy 20) (qb 20) (qNl 20) (qret 20)) := rfl
set_option maxRecDepth 20000 in
theorem qcw_21 : lw_tbl[224]? = some (Cond.code (qy 21) (qb 21) (qNl 21) (qret 21)) := rfl
set_option maxRecDepth 20000 in
theorem qcw_22 : lw_tbl[498]? = some (Cond.code (qy 22) (qb 22) (qNl 22) (qret 22)) := rfl
set_option maxRecDepth 20000 in
theorem qcw_23 : lw_tbl[274]? = some (Cond.code (qy 23) (qb 23) (qNl 23) (qret 23)) := rfl
set_option maxRecDepth 20000 in
theorem qcw_24 : lw_tbl[283]? = some (Cond.code (qy 24) (qb 24) (qNl 24) (qret 24)) := rfl
set_option maxRecDepth 20000 in
theorem qcw_25 : lw_tbl[591]? = some (Cond.code (qy 25) (qb 25) (qNl 25) (qret 25)) := rfl
set_option maxRecDepth 20000 in
theorem qcw_26 : lw_tbl[68]? = some (Cond.code (qy 26) (qb 26) (qNl 26) (qret 26)) := rfl
set_option maxRecDepth 20000 in
theorem qcw_27 : lw_tbl[220]? = some (Cond.code (qy 27) (qb 27) (qNl 27) (qret 27)) := rfl
set_option maxRecDepth 20000 in
theorem qcw_28 : lw_tbl[321]? = some (Cond.code (qy 28) (qb 28) (qNl 28) (qret 28)) := rfl
set_option maxRecDepth 20000 in
theorem qcw_29 : lw_tbl[250]? = some (Cond.code (qy 29) (qb 29) (qNl 29) (qret 29)) := rfl
set_option maxRecDepth 20000 in
theorem qcw_30 : lw_tbl[298]? = some (Cond.code (qy 30) (qb 30) (qNl 30) (qret 30)) := rfl
set_option maxRecDepth 20000 in
theorem qcw_31 : lw_tbl[254]? = some (Cond.code (qy 31) (qb 31) (qNl 31) (qret 31)) := rfl
set_option maxRecDepth 20000 in
theorem qcw_32 : lw_tbl[258]? = some (Cond.code (qy 32) (qb 32) (qNl 32) (qret 32)) := rfl
set_option maxRecDepth 20000 in
theorem qcw_33 : lw_tbl[270]? = some (Cond.code (qy 33) (qb 33) (qNl 33) (qret 33)) := rfl
set_option maxRecDepth 20000 in
theorem qcw_34 : lw_tbl[279]? = some (Cond.code (qy 34) (qb 34) (qNl 34) (qret 34)) := rfl
set_option maxRecDepth 20000 in
theorem qcw_35 : lw_tbl[295]? = some (Cond.code (qy 35) (qb 35) (qNl 35) (qret 35)) := rfl
set_option maxRecDepth 20000 in
theorem qcw_36 : lw_tbl[302]? = some (Cond.code (qy 36) (qb 36) (qNl 36) (qret 36)) := rfl
set_option maxRecDepth 20000 in
theorem qcw_37 : lw_tbl[308]? = some (Cond.code (qy 37) (qb 37) (qNl 37) (qret 37)) := rfl
set_option maxRecDepth 20000 in
theorem qcw_38 : lw_tbl[317]? = some (Cond.code (qy 38) (qb 38) (qNl 38) (qret 38)) := rfl
set_option maxRecDepth 20000 in
theorem qcw_39 : lw_tbl[51]? = some (Cond.code (qy 39) (qb 39) (qNl 39) (qret 39)) := rfl
set_option maxRecDepth 20000 in
theorem qcw_40 : lw_tbl[242]? = some (Cond.code (qy 40) (qb 40) (qNl 40) (qret 40)) := rfl
set_option maxRecDepth 20000 in
theorem qcw_41 : lw_tbl[246]? = some (Cond.code (qy 41) (qb 41) (qNl 41) (qret 41)) := rfl
set_option maxRecDepth 20000 in
theorem qcw_42 : lw_tbl[313]? = some (Cond.code (qy 42) (qb 42) (qNl 42) (qret 42)) := rfl
set_option maxRecDepth 20000 in
theorem qcw_43 : lw_tbl[266]? = some (Cond.code (qy 43) (qb 43) (qNl 43) (qret 43)) := rfl
set_option maxRecDepth 20000 in
theorem qcw_44 : lw_tbl[228]? = some (Cond.code (qy 44) (qb 44) (qNl 44) (qret 44)) := rfl
set_option maxRecDepth 20000 in
theorem qcw_45 : lw_tbl[366]? = some (Cond.code (qy 45) (qb 45) (qNl 45) (qret 45)) := rfl
set_option maxRecDepth 20000 in
theorem qcw_46 : lw_tbl[131]? = some (Cond.code (qy 46) (qb 46) (qNl 46) (qret 46)) := rfl
set_option maxRecDepth 20000 in
theorem qcw_47 : lw_tbl[329]? = some (Cond.code (qy 47) (qb 47) (qNl 47) (qret 47)) := rfl
set_option maxRecDepth 20000 in
theorem qcw_48 : lw_tbl[325]? = some (Cond.code (qy 48) (qb 48) (qNl 48) (qret 48)) := rfl
set_option maxRecDepth 20000 in
theorem qcw_49 : lw_tbl[377]? = some (Cond.code (qy 49) (qb 49) (qNl 49) (qret 49)) := rfl
set_option maxRecDepth 20000 in
theorem qcw_50 : lw_tbl[149]? = some (Cond.code (qy 50) (qb 50) (qNl 50) (qret 50)) := rfl
set_option maxRecDepth 20000 in
theorem qcw_51 : lw_tbl[362]? = some (Cond.code (qy 51) (qb 51) (qNl 51) (qret 51)) := rfl
set_option maxRecDepth 20000 in
theorem qcw_52 : lw_tbl[387]? = some (Cond.code (qy 52) (qb 52) (qNl 52) (qret 52)) := rfl
set_option maxRecDepth 20000 in
theorem qcw_53 : lw_tbl[476]? = some (Cond.code (qy 53) (qb 53) (qNl 53) (qret 53)) := rfl
set_option maxRecDepth 20000 in
theorem qcw_54 : lw_tbl[569]? = some (Cond.code (qy 54) (qb 54) (qNl 54) (qret 54)) := rfl
set_option maxRecDepth 20000 in
theorem qcw_55 : lw_tbl[413]? = some (Cond.code (qy 55) (qb 55) (qNl 55) (qret 55)) := rfl
set_option maxRecDepth 20000 in
theorem qcw_56 : lw_tbl[345]? = some (Cond.code (qy 56) (qb 56) (qNl 56) (qret 56)) := rfl
set_option maxRecDepth 20000 in
theorem qcw_57 : lw_tbl[409]? = some (Cond.code (qy 57) (qb 57) (qNl 57) (qret 57)) := rfl
set_option maxRecDepth 20000 in
theorem qcw_58 : lw_tbl[425]? = some (Cond.code (qy 58) (qb 58) (qNl 58) (qret 58)) := rfl
set_option maxRecDepth 20000 in
theorem qcw_59 : lw_tbl[616]? = some (Cond.code (qy 59) (qb 59) (qNl 59) (qret 59)) := rfl
set_option maxRecDepth 20000 in
theorem qcw_60 : lw_tbl[506]? = some (Cond.code (qy 60) (qb 60) (qNl 60) (qret 60)) := rfl
set_option maxRecDepth 20000 in
theorem qcw_61 : lw_tbl[578]? = some (Cond.code (qy 61) (qb 61) (qNl 61) (qret 61)) := rfl
set_option maxRecDepth 20000 in
theorem qcw_62 : lw_tbl[43]? = some (Cond.code (qy 62) (qb 62) (qNl 62) (qret 62)) := rfl
set_option maxRecDepth 20000 in
theorem qcw_63 : lw_tbl[561]? = some (Cond.code (qy 63) (qb 63) (qNl 63) (qret 63)) := rfl
set_option maxRecDepth 20000 in
theorem qcw_64 : lw_tbl[654]? = some (Cond.code (qy 64) (qb 64) (qNl 64) (qret 64)) := rfl
set_option maxRecDepth 20000 in
theorem qcw_65 : lw_tbl[216]? = some (Cond.code (qy 65) (qb 65) (qNl 65) (qret 65)) := rfl
set_option maxRecDepth 20000 in
theorem qcw_66 : lw_tbl[565]? = some (Cond.code (qy 66) (qb 66) (qNl 66) (qret 66)) := rfl
set_option maxRecDepth 20000 in
theorem qcw_67 : lw_tbl[574]? = some (Cond.code (qy 67) (qb 67) (qNl 67) (qret 67)) := rfl
set_option maxRecDepth 20000 in
theorem qcw_68 : lw_tbl[582]? = some (Cond.code (qy 68) (qb 68) (qNl 68) (qret 68)) := rfl
set_option maxRecDepth 20000 in
theorem qcw_69 : lw_tbl[600]? = some (Cond.code (qy 69) (qb 69) (qNl 69) (qret 69)) := rfl
set_option maxRecDepth 20000 in
theorem qcw_70 : lw_tbl[393]? = some (Cond.code (qy 70) (qb 70) (qNl 70) (qret 70)) := rfl
set_option maxRecDepth 20000 in
theorem qcw_71 : lw_tbl[405]? = some (Cond.code (qy 71) (qb 71) (qNl 71) (qret 71)) := rfl
set_option maxRecDepth 20000 in
theorem qcw_72 : lw_tbl[467]? = some (Cond.code (qy 72) (qb 72) (qNl 72) (qret 72)) := rfl
set_option maxRecDepth 20000 in
theorem qcw_73 : lw_tbl[608]? = some (Cond.code (qy 73) (qb 73) (qNl 73) (qret 73)) := rfl
set_option maxRecDepth 20000 in
theorem qcw_74 : lw_tbl[518]? = some (Cond.code (qy 74) (qb 74) (qNl 74) (qret 74)) := rfl
set_option maxRecDepth 20000 in
theorem qcw_75 : lw_tbl[531]? = some (Cond.code (qy 75) (qb 75) (qNl 75) (qret 75)) := rfl
set_option maxRecDepth 20000 in
theorem qcw_76 : lw_tbl[548]? = some (Cond.code (qy 76) (qb 76) (qNl 76) (qret 76)) := rfl
set_option maxRecDepth 20000 in
theorem qcw_77 : lw_tbl[612]? = some (Cond.code (qy 77) (qb 77) (qNl 77) (qret 77)) := rfl
set_option maxRecDepth 20000 in
theorem qcw_78 : lw_tbl[556]? = some (Cond.code (qy 78) (qb 78) (qNl 78) (qret 78)) := rfl
set_option maxRecDepth 20000 in
theorem qcw_79 : lw_tbl[620]? = some (Cond.code (qy 79) (qb 79) (qNl 79) (qret 79)) := rfl
set_option maxRecDepth 20000 in
theorem qcw_80 : lw_tbl[447]? = some (Cond.code (qy 80) (qb 80) (qNl 80) (qret 80)) := rfl
set_option maxRecDepth 20000 in
theorem qcw_81 : lw_tbl[624]? = some (Cond.code (qy 81) (qb 81) (qNl 81) (qret 81)) := rfl
set_option maxRecDepth 20000 in
theorem qcw_82 : lw_tbl[522]? = some (Cond.code (qy 82) (qb 82) (qNl 82) (qret 82)) := rfl
set_option maxRecDepth 20000 in
theorem qcw_83 : lw_tbl[552]? = some (Cond.code (qy 83) (qb 83) (qNl 83) (qret 83)) := rfl
set_option maxRecDepth 20000 in
theorem qcw_84 : lw_tbl[604]? = some (Cond.code (qy 84) (qb 84) (qNl 84) (qret 84)) := rfl
set_option maxRecDepth 20000 in
theorem qcw_85 : lw_tbl[421]? = some (Cond.code (qy 85) (qb 85) (qNl 85) (qret 85)) := rfl
set_option maxRecDepth 20000 in
theorem qcw_86 : lw_tbl[472]? = some (Cond.code (qy 86) (qb 86) (qNl 86) (qret 86)) := rfl
set_option maxRecDepth 20000 in
theorem qcw_87 : lw_tbl[238]? = some (Cond.code (qy 87) (qb 87) (qNl 87) (qret 87)) := rfl
set_option maxRecDepth 20000 in
theorem qcw_88 : lw_tbl[373]? = some (Cond.code (qy 88) (qb 88) (qNl 88) (qret 88)) := rfl
set_option maxRecDepth 20000 in
theorem qcw_89 : lw_tbl[586]? = some (Cond.code (qy 89) (qb 89) (qNl 89) (qret 89)) := rfl
set_option maxRecDepth 20000 in
theorem qcw_90 : lw_tbl[596]? = some (Cond.code (qy 90) (qb 90) (qNl 90) (qret 90)) := rfl
set_option maxRecDepth 20000 in
theorem qcw_91 : lw_tbl[417]? = some (Cond.code (qy 91) (qb 91) (qNl 91) (qret 91)) := rfl
set_option maxRecDepth 20000 in
theorem qcw_92 : lw_tbl[429]? = some (Cond.code (qy 92) (qb 92) (qNl 92) (qret 92)) := rfl
set_option maxRecDepth 20000 in
theorem qcw_93 : lw_tbl[433]? = some (Cond.code (qy 93) (qb 93) (qNl 93) (qret 93)) := rfl
set_option maxRecDepth 20000 in
theorem qcw_94 : lw_tbl[544]? = some (Cond.code (qy 94) (qb 94) (qNl 94) (qret 94)) := rfl
set_option maxRecDepth 20000 in
theorem qcw_95 : lw_tbl[535]? = some (Cond.code (qy 95) (qb 95) (qNl 95) (qret 95)) := rfl
set_option maxRecDepth 20000 in
theorem qcw_96 : lw_tbl[540]? = some (Cond.code (qy 96) (qb 96) (qNl 96) (qret 96)) := rfl
set_option maxRecDepth 20000 in
theorem qcw_97 : lw_tbl[514]? = some (Cond.code (qy 97) (qb 97) (qNl 97) (qret 97)) := rfl
set_option maxRecDepth 20000 in
theorem qcw_98 : lw_tbl[480]? = some (Cond.code (qy 98) (qb 98) (qNl 98) (qret 98)) := rfl
set_option maxRecDepth 20000 in
theorem qcw_99 : lw_tbl[490]? = some (Cond.code (qy 99) (qb 99) (qNl 99) (qret 99)) := rfl
set_option maxRecDepth 20000 in
theorem qcw_100 : lw_tbl[494]? = some (Cond.code (qy 100) (qb 100) (qNl 100) (qret 100)) := rfl
set_option maxRecDepth 20000 in
theorem qcw_101 : lw_tbl[510]? = some (Cond.code (qy 101) (qb 101) (qNl 101) (qret 101)) := rfl
set_option maxRecDepth 20000 in
theorem qcw_102 : lw_tbl[454]? = some (Cond.code (qy 102) (qb 102) (qNl 102) (qret 102)) := rfl
set_option maxRecDepth 20000 in
theorem qcw_103 : lw_tbl[461]? = some (Cond.code (qy 103) (qb 103) (qNl 103) (qret 103)) := rfl
set_option maxRecDepth 20000 in
theorem qcw_104 : lw_tbl[458]? = some (Cond.code (qy 104) (qb 104) (qNl 104) (qret 104)) := rfl
set_option maxRecDepth 20000 in
theorem qcw_105 : lw_tbl[660]? = some (Cond.code (qy 105) (qb 105) (qNl 105) (qret 105)) := rfl
set_option maxRecDepth 20000 in
theorem qcw_106 : lw_tbl[663]? = some (Cond.code (qy 106) (qb 106) (qNl 106) (qret 106)) := rfl
set_option maxRecDepth 20000 in
theorem qcw_107 : lw_tbl[635]? = some (Cond.code (qy 107) (qb 107) (qNl 107) (qret 107)) := rfl
set_option maxRecDepth 20000 in
theorem qcw_108 : lw_tbl[644]? = some (Cond.code (qy 108) (qb 108) (qNl 108) (qret 108)) := rfl
set_option maxRecDepth 20000 in
theorem qcw_109 : lw_tbl[647]? = some (Cond.code (qy 109) (qb 109) (qNl 109) (qret 109)) := rfl
set_option maxRecDepth 20000 in
theorem qcw_110 : lw_tbl[641]? = some (Cond.code (qy 110) (qb 110) (qNl 110) (qret 110)) := rfl
set_option maxRecDepth 20000 in
theorem qcw_111 : lw_tbl[638]? = some (Cond.code (qy 111) (qb 111) (qNl 111) (qret 111)) := rfl
set_option maxRecDepth 20000 in
theorem qcw_112 : lw_tbl[632]? = some (Cond.code (qy 112) (qb 112) (qNl 112) (qret 112)) := rfl
set_option maxRecDepth 20000 in
theorem qcw_113 : lw_tbl[650]? = some (Cond.code (qy 113) (qb 113) (qNl 113) (qret 113)) := rfl
set_option maxRecDepth 20000 in
theorem qcw_114 : lw_tbl[657]? = some (Cond.code (qy 114) (qb 114) (qNl 114) (qret 114)) := rfl
def qcwP (m : Nat) : Prop := Cond.code (qy m) (qb m) (qNl m) (qret m) ∈ lw_tbl
theorem qcwA_0 : ∀ m, m < 20 → qcwP m := lt_s (lt_s (lt_s (lt_s (lt_s (lt_s (lt_s (lt_s (lt_s (lt_s (lt_s (lt_s (lt_s (lt_s (lt_s (lt_s (lt_s (lt_s (lt_s (lt_s (lt_0) (List.mem_of_getElem? qcw_0)) (List.mem_of_getElem? qcw_1)) (List.mem_of_getElem? qcw_2)) (List.mem_of_getElem? qcw_3)) (List.mem_of_getElem? qcw_4)) (List.mem_of_getElem? qcw_5)) (List.mem_of_getElem? qcw_6)) (List.mem_of_getElem? qcw_7)) (List.mem_of_getElem? qcw_8)) (List.mem_of_getElem? qcw_9)) (List.mem_of_getElem? qcw_10)) (List.mem_of_getElem? qcw_11)) (List.mem_of_getElem? qcw_12)) (List.mem_of_getElem? qcw_13)) (List.mem_of_getElem? qcw_14)) (List.mem_of_getElem? qcw_15)) (List.mem_of_getElem? qcw_16)) (List.mem_of_getElem? qcw_17)) (List.mem_of_getElem? qcw_18)) (List.mem_of_getElem? qcw_19)
theorem qcwA_20 : ∀ m, m < 40 → qcwP m := lt_s (lt_s (lt_s (lt_s (lt_s (lt_s (lt_s (lt_s (lt_s (lt_s (lt_s (lt_s (lt_s (lt_s (lt_s (lt_s (lt_s (lt_s (lt_s (lt_s (qcwA_0) (List.mem_of_getElem? qcw_20)) (List.mem_of_getElem? qcw_21)) (List.mem_of_getElem? qcw_22)) (List.mem_of_getElem? qcw_23)) (List.mem_of_getElem? qcw_24)) (List.mem_of_getElem? qcw_25)) (List.mem_of_getElem? qcw_26)) (List.mem_of_getElem? qcw_27)) (List.mem_of_getElem? qcw_28)) (List.mem_of_getElem? qcw_29)) (List.mem_of_getElem? qcw_30)) (List.mem_of_getElem? qcw_31)) (List.mem_of_getElem? qcw_32)) (List.mem_of_getElem? qcw_33)) (List.mem_of_getElem? qcw_34)) (List.mem_of_getElem? qcw_35)) (List.mem_of_getElem? qcw_36)) (List.mem_of_getElem? qcw_37)) (List.mem_of_getElem? qcw_38)) (List.mem_of_getElem? qcw_39)
theorem qcwA_40 : ∀ m, m < 60 → qcwP m := lt_s (lt_s (lt_s (lt_s (lt_s (lt_s (lt_s (lt_s (lt_s (lt_s (lt_s (lt_s (lt_s (lt_s (lt_s (lt_s (lt_s (lt_s (lt_s (lt_s (qcwA_20) (List.mem_of_getElem? qcw_40)) (List.mem_of_getElem? qcw_41)) (List.mem_of_getElem? qcw_42)) (List.mem_of_getElem? qcw_43)) (List.mem_of_getElem? qcw_44)) (List.mem_of_getElem? qcw_45)) (List.mem_of_getElem? qcw_46)) (List.mem_of_getElem? qcw_47)) (List.mem_of_getElem? qcw_48)) (List.mem_of_getElem? qcw_49)) (List.mem_of_getElem? qcw_50)) (List.mem_of_getElem? qcw_51)) (List.mem_of_getElem? qcw_52)) (List.mem_of_getElem? qcw_53)) (List.mem_of_getElem? qcw_54)) (List.mem_of_getElem? qcw_55)) (List.mem_of_getElem? qcw_56)) (List.mem_of_getElem? qcw_57)) (List.mem_of_getElem? qcw_58)) (List.mem_of_getElem? qcw_59)
theorem qcwA_60 : ∀ m, m < 80 → qcwP m := lt_s (lt_s (lt_s (lt_s (lt_s (lt_s (lt_s (lt_s (lt_s (lt_s (lt_s (lt_s (lt_s (lt_s (lt_s (lt_s (lt_s (lt_s (lt_s (lt_s (qcwA_40) (List.mem_of_getElem? qcw_60)) (List.mem_of_getElem? qcw_61)) (List.mem_of_getElem? qcw_62)) (List.mem_of_getElem? qcw_63)) (List.mem_of_getElem? qcw_64)) (List.mem_of_getElem? qcw_65)) (List.mem_of_getElem? qcw_66)) (List.mem_of_getElem? qcw_67)) (List.mem_of_getElem? qcw_68)) (List.mem_of_getElem? qcw_69)) (List.mem_of_getElem? qcw_70)) (List.mem_of_getElem? qcw_71)) (List.mem_of_getElem? qcw_72)) (List.mem_of_getElem? qcw_73)) (List.mem_of_getElem? qcw_74)) (List.mem_of_getElem? qcw_75)) (List.mem_of_getElem? qcw_76)) (List.mem_of_getElem? qcw_77)) (List.mem_of_getElem? qcw_78)) (List.mem_of_getElem? qcw_79)
theorem qcwA_80 : ∀ m, m < 100 → qcwP m := lt_s (lt_s (lt_s (lt_s (lt_s (lt_s (lt_s (lt_s (lt_s (lt_s (lt_s (lt_s (lt_s (lt_s (lt_s (lt_s (lt_s (lt_s (lt_s (lt_s (qcwA_60) (List.mem_of_getElem? qcw_80)) (List.mem_of_getElem? qcw_81)) (List.mem_of_getElem? qcw_82)) (List.mem_of_getElem? qcw_83)) (List.mem_of_getElem? qcw_84)) (List.mem_of_getElem? qcw_85)) (List.mem_of_getElem? qcw_86)) (List.mem_of_getElem? qcw_87)) (List.mem_of_getElem? qcw_88)) (List.mem_of_getElem? qcw_89)) (List.mem_of_getElem? qcw_90)) (List.mem_of_getElem? qcw_91)) (List.mem_of_getElem? qcw_92)) (List.mem_of_getElem? qcw_93)) (List.mem_of_getElem? qcw_94)) (List.mem_of_getElem? qcw_95)) (List.mem_of_getElem? qcw_96)) (List.mem_of_getElem? qcw_97)) (List.mem_of_getElem? qcw_98)) (List.mem_of_getElem? qcw_99)
theorem qcwA_100 : ∀ m, m < 115 → qcwP m := lt_s (lt_s (lt_s (lt_s (lt_s (lt_s (lt_s (lt_s (lt_s (lt_s (lt_s (lt_s (lt_s (lt_s (lt_s (qcwA_80) (List.mem_of_getElem? qcw_100)) (List.mem_of_getElem? qcw_101)) (List.mem_of_getElem? qcw_102)) (List.mem_of_getElem? qcw_103)) (List.mem_of_getElem? qcw_104)) (List.mem_of_getElem? qcw_105)) (List.mem_of_getElem? qcw_106)) (List.mem_of_getElem? qcw_107)) (List.mem_of_getElem? qcw_108)) (List.mem_of_getElem? qcw_109)) (List.mem_of_getElem? qcw_110)) (List.mem_of_getElem? qcw_111)) (List.mem_of_getElem? qcw_112)) (List.mem_of_getElem? qcw_113)) (List.mem_of_getElem? qcw_114)
def qN : Nat := 115
theorem qcw_all : ∀ m, m < qN → qcwP m := qcwA_100
/-- the words that are kept over calls -/
def qtb : List Cond := lw_tbl.filter goodWord
theorem qtb_in {w : Cond} (h : w ∈ lw_tbl) (g : goodWord w = true) : w ∈ qtb := List.mem_filter.mpr ⟨h, g⟩
theorem qtb_at {w : Cond} {i : Nat} (h : lw_tbl[i]? = some w) (g : goodWord w = true) : w ∈ qtb := qtb_in (List.mem_of_getElem? h) g
theorem qtb_good {w : Cond} (h : w ∈ qtb) : (w.onTables && w.keeps) = true ∨ ∃ ty, w = .arrayClass ty := good_of_word (List.mem_filter.mp h).2
/-- an instruction of a method against the bytes and the words -/
def qcc (a : Int) : ClassFile.Cond := if a = 0 then .eq else if a = 1 then .ne else if a = 2 then .lt else if a = 3 then .ge else if a = 4 then .gt else .le
def qdec (m pc : Nat) (i : ClassFile.Instr) (n : Nat) : Bool := decide (decode (qb m) pc = .ok (i, n))
/-- no long stands ahead of this place -/
def qnb (m b : Nat) : Bool := (qlj m).all (fun j => !(j + 1 == b))
def qok (m pc : Nat) (x : qX) : Bool :=
  let a := x.2.1
  let b := x.2.2.1
  let c := x.2.2.2.1
  let nx := x.2.2.2.2
  match x.1 with
  | 0 => (qdec m pc (.iconst a) 1 && decide (nx = pc + 1)) || (qdec m pc (.bipush a) 2 && decide (nx = pc + 2 ∧ (Int8.ofInt a).toInt32 = Int32.ofInt a)) || (qdec m pc (.sipush a) 3 && decide (nx = pc + 3 ∧ (Int16.ofInt a).toInt32 = Int32.ofInt a)) || (qdec m pc (.ldc b) 2 && decide (nx = pc + 2 ∧ qCl m = 8) && qld.any (fun q => q.1 == b && q.2.1 == a))
  | 1 => (decide (b < 4 ∧ nx = pc + 1) && qdec m pc (.iload_n (Fin.ofNat 4 b)) 1) || (qdec m pc (.iload b) 2 && decide (nx = pc + 2))
  | 2 => (decide (b < 4 ∧ nx = pc + 1) && qdec m pc (.aload_n (Fin.ofNat 4 b)) 1) || (qdec m pc (.aload b) 2 && decide (nx = pc + 2))
  | 3 => ((decide (b < 4 ∧ nx = pc + 1) && qdec m pc (.istore_n (Fin.ofNat 4 b)) 1) || (qdec m pc (.istore b) 2 && decide (nx = pc + 2))) && qnb m b
  | 4 => ((decide (b < 4 ∧ nx = pc + 1) && qdec m pc (.astore_n (Fin.ofNat 4 b)) 1) || (qdec m pc (.astore b) 2 && decide (nx = pc + 2))) && qnb m b
  | 5 => qdec m pc (.iinc b a) 3 && decide (nx = pc + 3) && qnb m b
  | 6 => qdec m pc .iadd 1 && decide (nx = pc + 1)
  | 7 => qdec m pc .isub 1 && decide (nx = pc + 1)
  | 8 => qdec m pc .imul 1 && decide (nx = pc + 1)
  | 9 => qdec m pc .idiv 1 && decide (nx = pc + 1)
  | 10 => qdec m pc .irem 1 && decide (nx = pc + 1)
  | 11 => (if a = 0 then qdec m pc .iand 1 else if a = 1 then qdec m pc .ior 1 else if a = 2 then qdec m pc .ishl 1 else if a = 3 then qdec m pc .ishr 1 else if a = 4 then qdec m pc .iadd 1 else qdec m pc .imul 1) && decide (nx = pc + 1)
  | 12 => qdec m pc .dup 1 && decide (nx = pc + 1)
  | 13 => qdec m pc .dup2 1 && decide (nx = pc + 1)
  | 14 => qdec m pc .pop 1 && decide (nx = pc + 1)
  | 15 => qdec m pc (.goto ((b : Int) - pc)) 3
  | 16 => qdec m pc (.if_icmp (qcc a) ((b : Int) - pc)) 3 && decide (nx = pc + 3)
  | 17 => qdec m pc (.ifCond (qcc a) ((b : Int) - pc)) 3 && decide (nx = pc + 3)
  | 18 => qdec m pc (.ifnull ((b : Int) - pc)) 3 && decide (nx = pc + 3)
  | 19 => qdec m pc (.ifnonnull ((b : Int) - pc)) 3 && decide (nx = pc + 3)
  | 20 => qdec m pc (.tableswitch ((b : Int) - pc) a (a + c.length - 1) (c.map (fun (t : Nat) => (t : Int) - pc)).toArray) (nx - pc)
  | 21 => qdec m pc (.getfield b) 3 && decide (nx = pc + 3) && qfl.any (fun q => q.1 == qCl m && q.2.1 == b && q.2.2.1 == c.headD 0 && q.2.2.2.1 == a.toNat)
  | 22 => qdec m pc (.getfield b) 3 && decide (nx = pc + 3) && qfl.any (fun q => q.1 == qCl m && q.2.1 == b && q.2.2.1 == c.headD 0 && q.2.2.2.1 == a.toNat)
  | 23 => qdec m pc (.putfield b) 3 && decide (nx = pc + 3) && qfl.any (fun q => q.1 == qCl m && q.2.1 == b && q.2.2.1 == c.headD 0 && q.2.2.2.1 == a.toNat) && decide ((qT (c.headD 0) a.toNat).2.2.2 = false)
  | 24 => qdec m pc (.putfield b) 3 && decide (nx = pc + 3) && qfl.any (fun q => q.1 == qCl m && q.2.1 == b && q.2.2.1 == c.headD 0 && q.2.2.2.1 == a.toNat) && decide ((qT (c.headD 0) a.toNat).2.2.2 = true ∧ (qy m).name = "<init>" ∧ (qT (c.headD 0) a.toNat).1 = qR (qCl m))
  | 25 => qdec m pc .iaload 1 && decide (nx = pc + 1)
  | 26 => qdec m pc .iastore 1 && decide (nx = pc + 1)
  | 27 => qdec m pc .aaload 1 && decide (nx = pc + 1)
  | 28 => qdec m pc .aastore 1 && decide (nx = pc + 1)
  | 29 => qdec m pc .arraylength 1 && decide (nx = pc + 1)
  | 30 => qdec m pc (.newarray .int) 2 && decide (nx = pc + 2)
  | 31 => qdec m pc (.anewarray b) 3 && decide (nx = pc + 3 ∧ c.headD 0 < 8) && qcl.any (fun q => q.1 == qCl m && q.2.1 == b && q.2.2.1 == c.headD 0) && qao.any (fun q => q.1 == c.headD 0)
  | 32 => qdec m pc (.new b) 3 && decide (nx = pc + 3 ∧ c.headD 0 < 8) && qcl.any (fun q => q.1 == qCl m && q.2.1 == b && q.2.2.1 == c.headD 0)
  | 33 => qdec m pc (.invokestatic b) 3 && decide (nx = pc + 3 ∧ 1 ≤ (qfr m).1 ∧ 21 ≤ (qfr m).2) && qmx.any (fun q => q.1 == qCl m && q.2.1 == b)
  | 34 => qdec m pc (.invokespecial b) 3 && decide (nx = pc + 3 ∧ 1 ≤ (qfr m).1 ∧ 20 ≤ (qfr m).2) && qoi.any (fun q => q.1 == qCl m && q.2.1 == b)
  | 35 => (if a = 0 then qdec m pc .i2l 1 else qdec m pc .lcmp 1) && decide (nx = pc + 1)
  | 36 => (decide (b < 4 ∧ nx = pc + 1) && qdec m pc (.lload_n (Fin.ofNat 4 b)) 1) || (qdec m pc (.lload b) 2 && decide (nx = pc + 2))
  | 37 => ((decide (b < 4 ∧ nx = pc + 1) && qdec m pc (.lstore_n (Fin.ofNat 4 b)) 1) || (qdec m pc (.lstore b) 2 && decide (nx = pc + 2))) && (qnb m b && (qlj m).contains b)
  | 38 => (if a = 0 then qdec m pc .ladd 1 else qdec m pc .lmul 1) && decide (nx = pc + 1)
  | 39 => qdec m pc (.ldc2_w b) 3 && decide (nx = pc + 3 ∧ qCl m = 8) && qll.any (fun q => q.1 == b && q.2.1 == a)
  | 40 => decide (nx = pc + 3 ∧ b < qN ∧ 0 ≤ a ∧ (qfr b).1 + 1 ≤ (qfr m).1 ∧ 19 + qNl b + (qfr b).2 ≤ (qfr m).2) && qml.any (fun q => q.1 == qCl m && q.2.1 == a.toNat && q.2.2.1 == b) && (match qKi b with
    | 0 => qdec m pc (.invokestatic a.toNat) 3
    | 1 => qdec m pc (.invokevirtual a.toNat) 3
    | 2 => qdec m pc (.invokespecial a.toNat) 3
    | _ => false)
  | 41 => qdec m pc .ireturn 1 && decide (qRt m = 1)
  | 42 => qdec m pc .ireturn 1 && decide (qRt m = 2)
  | 43 => qdec m pc .areturn 1 && decide (qRt m = 3)
  | 44 => qdec m pc .return_ 1 && decide (qRt m = 0)
  | 45 => qdec m pc .lreturn 1 && decide (qRt m = 4)
  | _ => false
def qokP (m : Nat) : Prop := ∀ (pc : Nat) (x : qX), qcd m pc = some x → qok m pc x = true
end
section
theorem qble {a b : Nat} (h : b < a) : Nat.ble a b = false := by
  cases e : Nat.ble a b with
  | false => rfl
  | true => exact absurd (Nat.le_of_ble_eq_true e) (by omega)
/-- a tree of places holds nothing behind its last place: checked up to there, it is checked -/
theorem qok_of {m n : Nat} {f : Nat → Option qX} (hf : qcd m = f) (hn : ∀ pc, n ≤ pc → f pc = none) (h : (List.range n).all (fun pc => match f pc with
  | none => true
  | some x => qok m pc x) = true) : qokP m := by
  intro pc x hx
  rw [hf] at hx
  by_cases hp : pc < n
  · have h1 := List.all_eq_true.mp h pc (List.mem_range.mpr hp)
    rw [hx] at h1
    exact h1
  · rw [hn pc (by omega)] at hx
    cases hx
theorem qk_0 : qokP 0 := qok_of (f := qc0) rfl (n := 23) (fun pc h => by unfold qc0; rw [qble (by omega : 22 < pc)]; rfl) (by decide +kernel)
theorem qk_1 : qokP 1 := qok_of (f := qc1) rfl (n := 14) (fun pc h => by unfold qc1; rw [qble (by omega : 13 < pc)]; rfl) (by decide +kernel)
theorem qk_2 : qokP 2 := qok_of (f := qc2) rfl (n := 25) (fun pc h => by unfold qc2; rw [qble (by omega : 24 < pc)]; rfl) (by decide +kernel)
theorem qk_3 : qokP 3 := qok_of (f := qc3) rfl (n := 20) (fun pc h => by unfold qc3; rw [qble (by omega : 19 < pc)]; rfl) (by decide +kernel)
theorem qk_4 : qokP 4 := qok_of (f := qc4) rfl (n := 8) (fun pc h => by unfold qc4; rw [qble (by omega : 7 < pc)]; rfl) (by decide +kernel)
theorem qk_5 : qokP 5 := qok_of (f := qc5) rfl (n := 5) (fun pc h => by unfold qc5; rw [qble (by omega : 4 < pc)]; rfl) (by decide +kernel)
theorem qk_6 : qokP 6 := qok_of (f := qc6) rfl (n := 13) (fun pc h => by unfold qc6; rw [qble (by omega : 12 < pc)]; rfl) (by decide +kernel)
theorem qk_7 : qokP 7 := qok_of (f := qc7) rfl (n := 9) (fun pc h => by unfold qc7; rw [qble (by omega : 8 < pc)]; rfl) (by decide +kernel)
theorem qk_8 : qokP 8 := qok_of (f := qc8) rfl (n := 19) (fun pc h => by unfold qc8; rw [qble (by omega : 18 < pc)]; rfl) (by decide +kernel)
theorem qk_9 : qokP 9 := qok_of (f := qc9) rfl (n := 24) (fun pc h => by unfold qc9; rw [qble (by omega : 23 < pc)]; rfl) (by decide +kernel)
theorem qk_10 : qokP 10 := qok_of (f := qc10) rfl (n := 35) (fun pc h => by unfold qc10; rw [qble (by omega : 34 < pc)]; rfl) (by decide +kernel)
theorem qk_11 : qokP 11 := qok_of (f := qc11) rfl (n := 49) (fun pc h => by unfold qc11; rw [qble (by omega : 48 < pc)]; rfl) (by decide +kernel)
theorem qk_12 : qokP 12 := qok_of (f := qc12) rfl (n := 55) (fun pc h => by unfold qc12; rw [qble (by omega : 54 < pc)]; rfl) (by decide +kernel)
theorem qk_13 : qokP 13 := qok_of (f := qc13) rfl (n := 49) (fun pc h => by unfold qc13; rw [qble (by omega : 48 < pc)]; rfl) (by decide +kernel)
theorem qk_14 : qokP 14 := qok_of (f := qc14) rfl (n := 48) (fun pc h => by unfold qc14; rw [qble (by omega : 47 < pc)]; rfl) (by decide +kernel)
theorem qk_15 : qokP 15 := qok_of (f := qc15) rfl (n := 5) (fun pc h => by unfold qc15; rw [qble (by omega : 4 < pc)]; rfl) (by decide +kernel)
theorem qk_16 : qokP 16 := qok_of (f := qc16) rfl (n := 65) (fun pc h => by unfold qc16; rw [qble (by omega : 64 < pc)]; rfl) (by decide +kernel)
theorem qk_17 : qokP 17 := qok_of (f := qc17) rfl (n := 65) (fun pc h => by unfold qc17; rw [qble (by omega : 64 < pc)]; rfl) (by decide +kernel)
theorem qk_18 : qokP 18 := qok_of (f := qc18) rfl (n := 51) (fun pc h => by unfold qc18; rw [qble (by omega : 50 < pc)]; rfl) (by decide +kernel)
theorem qk_19 : qokP 19 := qok_of (f := qc19) rfl (n := 31) (fun pc h => by unfold qc19; rw [qble (by omega : 30 < pc)]; rfl) (by decide +kernel)
theorem qk_20 : qokP 20 := qok_of (f := qc20) rfl (n := 8) (fun pc h => by unfold qc20; rw [qble (by omega : 7 < pc)]; rfl) (by decide +kernel)
theorem qk_21 : qokP 21 := qok_of (f := qc21) rfl (n := 17) (fun pc h => by unfold qc21; rw [qble (by omega : 16 < pc)]; rfl) (by decide +kernel)
theorem qk_22 : qokP 22 := qok_of (f := qc22) rfl (n := 9) (fun pc h => by unfold qc22; rw [qble (by omega : 8 < pc)]; rfl) (by decide +kernel)
theorem qk_23 : qokP 23 := qok_of (f := qc23) rfl (n := 9) (fun pc h => by unfold qc23; rw [qble (by omega : 8 < pc)]; rfl) (by decide +kernel)
theorem qk_24 : qokP 24 := qok_of (f := qc24) rfl (n := 71) (fun pc h => by unfold qc24; rw [qble (by omega : 70 < pc)]; rfl) (by decide +kernel)
theorem qk_25 : qokP 25 := qok_of (f := qc25) rfl (n := 41) (fun pc h => by unfold qc25; rw [qble (by omega : 40 < pc)]; rfl) (by decide +kernel)
theorem qk_26 : qokP 26 := qok_of (f := qc26) rfl (n := 62) (fun pc h => by unfold qc26; rw [qble (by omega : 61 < pc)]; rfl) (by decide +kernel)
theorem qk_27 : qokP 27 := qok_of (f := qc27) rfl (n := 46) (fun pc h => by unfold qc27; rw [qble (by omega : 45 < pc)]; rfl) (by decide +kernel)
theorem qk_28 : qokP 28 := qok_of (f := qc28) rfl (n := 15) (fun pc h => by unfold qc28; rw [qble (by omega : 14 < pc)]; rfl) (by decide +kernel)
theorem qk_29 : qokP 29 := qok_of (f := qc29) rfl (n := 153) (fun pc h => by unfold qc29; rw [qble (by omega : 152 < pc)]; rfl) (by decide +kernel)
theorem qk_30 : qokP 30 := qok_of (f := qc30) rfl (n := 18) (fun pc h => by unfold qc30; rw [qble (by omega : 17 < pc)]; rfl) (by decide +kernel)
theorem qk_31 : qokP 31 := qok_of (f := qc31) rfl (n := 15) (fun pc h => by unfold qc31; rw [qble (by omega : 14 < pc)]; rfl) (by decide +kernel)
theorem qk_32 : qokP 32 := qok_of (f := qc32) rfl (n := 55) (fun pc h => by unfold qc32; rw [qble (by omega : 54 < pc)]; rfl) (by decide +kernel)
theorem qk_33 : qokP 33 := qok_of (f := qc33) rfl (n := 45) (fun pc h => by unfold qc33; rw [qble (by omega : 44 < pc)]; rfl) (by decide +kernel)
theorem qk_34 : qokP 34 := qok_of (f := qc34) rfl (n := 72) (fun pc h => by unfold qc34; rw [qble (by omega : 71 < pc)]; rfl) (by decide +kernel)
theorem qk_35 : qokP 35 := qok_of (f := qc35) rfl (n := 17) (fun pc h => by unfold qc35; rw [qble (by omega : 16 < pc)]; rfl) (by decide +kernel)
theorem qk_36 : qokP 36 := qok_of (f := qc36) rfl (n := 43) (fun pc h => by unfold qc36; rw [qble (by omega : 42 < pc)]; rfl) (by decide +kernel)
theorem qk_37 : qokP 37 := qok_of (f := qc37) rfl (n := 50) (fun pc h => by unfold qc37; rw [qble (by omega : 49 < pc)]; rfl) (by decide +kernel)
theorem qk_38 : qokP 38 := qok_of (f := qc38) rfl (n := 28) (fun pc h => by unfold qc38; rw [qble (by omega : 27 < pc)]; rfl) (by decide +kernel)
theorem qk_39 : qokP 39 := qok_of (f := qc39) rfl (n := 21) (fun pc h => by unfold qc39; rw [qble (by omega : 20 < pc)]; rfl) (by decide +kernel)
theorem qk_40 : qokP 40 := qok_of (f := qc40) rfl (n := 5) (fun pc h => by unfold qc40; rw [qble (by omega : 4 < pc)]; rfl) (by decide +kernel)
theorem qk_41 : qokP 41 := qok_of (f := qc41) rfl (n := 33) (fun pc h => by unfold qc41; rw [qble (by omega : 32 < pc)]; rfl) (by decide +kernel)
theorem qk_42 : qokP 42 := qok_of (f := qc42) rfl (n := 29) (fun pc h => by unfold qc42; rw [qble (by omega : 28 < pc)]; rfl) (by decide +kernel)
theorem qk_43 : qokP 43 := qok_of (f := qc43) rfl (n := 40) (fun pc h => by unfold qc43; rw [qble (by omega : 39 < pc)]; rfl) (by decide +kernel)
theorem qk_44 : qokP 44 := qok_of (f := qc44) rfl (n := 18) (fun pc h => by unfold qc44; rw [qble (by omega : 17 < pc)]; rfl) (by decide +kernel)
theorem qk_45 : qokP 45 := qok_of (f := qc45) rfl (n := 31) (fun pc h => by unfold qc45; rw [qble (by omega : 30 < pc)]; rfl) (by decide +kernel)
theorem qk_46 : qokP 46 := qok_of (f := qc46) rfl (n := 55) (fun pc h => by unfold qc46; rw [qble (by omega : 54 < pc)]; rfl) (by decide +kernel)
theorem qk_47 : qokP 47 := qok_of (f := qc47) rfl (n := 38) (fun pc h => by unfold qc47; rw [qble (by omega : 37 < pc)]; rfl) (by decide +kernel)
theorem qk_48 : qokP 48 := qok_of (f := qc48) rfl (n := 29) (fun pc h => by unfold qc48; rw [qble (by omega : 28 < pc)]; rfl) (by decide +kernel)
theorem qk_49 : qokP 49 := qok_of (f := qc49) rfl (n := 23) (fun pc h => by unfold qc49; rw [qble (by omega : 22 < pc)]; rfl) (by decide +kernel)
theorem qk_50 : qokP 50 := qok_of (f := qc50) rfl (n := 47) (fun pc h => by unfold qc50; rw [qble (by omega : 46 < pc)]; rfl) (by decide +kernel)
theorem qk_51 : qokP 51 := qok_of (f := qc51) rfl (n := 47) (fun pc h => by unfold qc51; rw [qble (by omega : 46 < pc)]; rfl) (by decide +kernel)
theorem qk_52 : qokP 52 := qok_of (f := qc52) rfl (n := 44) (fun pc h => by unfold qc52; rw [qble (by omega : 43 < pc)]; rfl) (by decide +kernel)
theorem qk_53 : qokP 53 := qok_of (f := qc53) rfl (n := 9) (fun pc h => by unfold qc53; rw [qble (by omega : 8 < pc)]; rfl) (by decide +kernel)
theorem qk_54 : qokP 54 := qok_of (f := qc54) rfl (n := 10) (fun pc h => by unfold qc54; rw [qble (by omega : 9 < pc)]; rfl) (by decide +kernel)
theorem qk_55 : qokP 55 := qok_of (f := qc55) rfl (n := 19) (fun pc h => by unfold qc55; rw [qble (by omega : 18 < pc)]; rfl) (by decide +kernel)
theorem qk_56 : qokP 56 := qok_of (f := qc56) rfl (n := 8) (fun pc h => by unfold qc56; rw [qble (by omega : 7 < pc)]; rfl) (by decide +kernel)
theorem qk_57 : qokP 57 := qok_of (f := qc57) rfl (n := 34) (fun pc h => by unfold qc57; rw [qble (by omega : 33 < pc)]; rfl) (by decide +kernel)
theorem qk_58 : qokP 58 := qok_of (f := qc58) rfl (n := 38) (fun pc h => by unfold qc58; rw [qble (by omega : 37 < pc)]; rfl) (by decide +kernel)
theorem qk_59 : qokP 59 := qok_of (f := qc59) rfl (n := 50) (fun pc h => by unfold qc59; rw [qble (by omega : 49 < pc)]; rfl) (by decide +kernel)
theorem qk_60 : qokP 60 := qok_of (f := qc60) rfl (n := 14) (fun pc h => by unfold qc60; rw [qble (by omega : 13 < pc)]; rfl) (by decide +kernel)
theorem qk_61 : qokP 61 := qok_of (f := qc61) rfl (n := 15) (fun pc h => by unfold qc61; rw [qble (by omega : 14 < pc)]; rfl) (by decide +kernel)
theorem qk_62 : qokP 62 := qok_of (f := qc62) rfl (n := 97) (fun pc h => by unfold qc62; rw [qble (by omega : 96 < pc)]; rfl) (by decide +kernel)
theorem qk_63 : qokP 63 := qok_of (f := qc63) rfl (n := 45) (fun pc h => by unfold qc63; rw [qble (by omega : 44 < pc)]; rfl) (by decide +kernel)
theorem qk_64 : qokP 64 := qok_of (f := qc64) rfl (n := 18) (fun pc h => by unfold qc64; rw [qble (by omega : 17 < pc)]; rfl) (by decide +kernel)
theorem qk_65 : qokP 65 := qok_of (f := qc65) rfl (n := 162) (fun pc h => by unfold qc65; rw [qble (by omega : 161 < pc)]; rfl) (by decide +kernel)
theorem qk_66 : qokP 66 := qok_of (f := qc66) rfl (n := 42) (fun pc h => by unfold qc66; rw [qble (by omega : 41 < pc)]; rfl) (by decide +kernel)
theorem qk_67 : qokP 67 := qok_of (f := qc67) rfl (n := 90) (fun pc h => by unfold qc67; rw [qble (by omega : 89 < pc)]; rfl) (by decide +kernel)
theorem qk_68 : qokP 68 := qok_of (f := qc68) rfl (n := 126) (fun pc h => by unfold qc68; rw [qble (by omega : 125 < pc)]; rfl) (by decide +kernel)
theorem qk_69 : qokP 69 := qok_of (f := qc69) rfl (n := 34) (fun pc h => by unfold qc69; rw [qble (by omega : 33 < pc)]; rfl) (by decide +kernel)
theorem qk_70 : qokP 70 := qok_of (f := qc70) rfl (n := 32) (fun pc h => by unfold qc70; rw [qble (by omega : 31 < pc)]; rfl) (by decide +kernel)
theorem qk_71 : qokP 71 := qok_of (f := qc71) rfl (n := 136) (fun pc h => by unfold qc71; rw [qble (by omega : 135 < pc)]; rfl) (by decide +kernel)
theorem qk_72 : qokP 72 := qok_of (f := qc72) rfl (n := 94) (fun pc h => by unfold qc72; rw [qble (by omega : 93 < pc)]; rfl) (by decide +kernel)
theorem qk_73 : qokP 73 := qok_of (f := qc73) rfl (n := 47) (fun pc h => by unfold qc73; rw [qble (by omega : 46 < pc)]; rfl) (by decide +kernel)
theorem qk_74 : qokP 74 := qok_of (f := qc74) rfl (n := 52) (fun pc h => by unfold qc74; rw [qble (by omega : 51 < pc)]; rfl) (by decide +kernel)
theorem qk_75 : qokP 75 := qok_of (f := qc75) rfl (n := 95) (fun pc h => by unfold qc75; rw [qble (by omega : 94 < pc)]; rfl) (by decide +kernel)
theorem qk_76 : qokP 76 := qok_of (f := qc76) rfl (n := 99) (fun pc h => by unfold qc76; rw [qble (by omega : 98 < pc)]; rfl) (by decide +kernel)
theorem qk_77 : qokP 77 := qok_of (f := qc77) rfl (n := 76) (fun pc h => by unfold qc77; rw [qble (by omega : 75 < pc)]; rfl) (by decide +kernel)
theorem qk_78 : qokP 78 := qok_of (f := qc78) rfl (n := 42) (fun pc h => by unfold qc78; rw [qble (by omega : 41 < pc)]; rfl) (by decide +kernel)
theorem qk_79 : qokP 79 := qok_of (f := qc79) rfl (n := 18) (fun pc h => by unfold qc79; rw [qble (by omega : 17 < pc)]; rfl) (by decide +kernel)
theorem qk_80 : qokP 80 := qok_of (f := qc80) rfl (n := 42) (fun pc h => by unfold qc80; rw [qble (by omega : 41 < pc)]; rfl) (by decide +kernel)
theorem qk_81 : qokP 81 := qok_of (f := qc81) rfl (n := 92) (fun pc h => by unfold qc81; rw [qble (by omega : 91 < pc)]; rfl) (by decide +kernel)
theorem qk_82 : qokP 82 := qok_of (f := qc82) rfl (n := 21) (fun pc h => by unfold qc82; rw [qble (by omega : 20 < pc)]; rfl) (by decide +kernel)
theorem qk_83 : qokP 83 := qok_of (f := qc83) rfl (n := 21) (fun pc h => by unfold qc83; rw [qble (by omega : 20 < pc)]; rfl) (by decide +kernel)
theorem qk_84 : qokP 84 := qok_of (f := qc84) rfl (n := 17) (fun pc h => by unfold qc84; rw [qble (by omega : 16 < pc)]; rfl) (by decide +kernel)
theorem qk_85 : qokP 85 := qok_of (f := qc85) rfl (n := 24) (fun pc h => by unfold qc85; rw [qble (by omega : 23 < pc)]; rfl) (by decide +kernel)
theorem qk_86 : qokP 86 := qok_of (f := qc86) rfl (n := 16) (fun pc h => by unfold qc86; rw [qble (by omega : 15 < pc)]; rfl) (by decide +kernel)
theorem qk_87 : qokP 87 := qok_of (f := qc87) rfl (n := 47) (fun pc h => by unfold qc87; rw [qble (by omega : 46 < pc)]; rfl) (by decide +kernel)
theorem qk_88 : qokP 88 := qok_of (f := qc88) rfl (n := 34) (fun pc h => by unfold qc88; rw [qble (by omega : 33 < pc)]; rfl) (by decide +kernel)
theorem qk_89 : qokP 89 := qok_of (f := qc89) rfl (n := 52) (fun pc h => by unfold qc89; rw [qble (by omega : 51 < pc)]; rfl) (by decide +kernel)
theorem qk_90 : qokP 90 := qok_of (f := qc90) rfl (n := 77) (fun pc h => by unfold qc90; rw [qble (by omega : 76 < pc)]; rfl) (by decide +kernel)
theorem qk_91 : qokP 91 := qok_of (f := qc91) rfl (n := 34) (fun pc h => by unfold qc91; rw [qble (by omega : 33 < pc)]; rfl) (by decide +kernel)
theorem qk_92 : qokP 92 := qok_of (f := qc92) rfl (n := 42) (fun pc h => by unfold qc92; rw [qble (by omega : 41 < pc)]; rfl) (by decide +kernel)
theorem qk_93 : qokP 93 := qok_of (f := qc93) rfl (n := 96) (fun pc h => by unfold qc93; rw [qble (by omega : 95 < pc)]; rfl) (by decide +kernel)
theorem qk_94 : qokP 94 := qok_of (f := qc94) rfl (n := 81) (fun pc h => by unfold qc94; rw [qble (by omega : 80 < pc)]; rfl) (by decide +kernel)
theorem qk_95 : qokP 95 := qok_of (f := qc95) rfl (n := 49) (fun pc h => by unfold qc95; rw [qble (by omega : 48 < pc)]; rfl) (by decide +kernel)
theorem qk_96 : qokP 96 := qok_of (f := qc96) rfl (n := 54) (fun pc h => by unfold qc96; rw [qble (by omega : 53 < pc)]; rfl) (by decide +kernel)
theorem qk_97 : qokP 97 := qok_of (f := qc97) rfl (n := 32) (fun pc h => by unfold qc97; rw [qble (by omega : 31 < pc)]; rfl) (by decide +kernel)
theorem qk_98 : qokP 98 := qok_of (f := qc98) rfl (n := 142) (fun pc h => by unfold qc98; rw [qble (by omega : 141 < pc)]; rfl) (by decide +kernel)
theorem qk_99 : qokP 99 := qok_of (f := qc99) rfl (n := 42) (fun pc h => by unfold qc99; rw [qble (by omega : 41 < pc)]; rfl) (by decide +kernel)
theorem qk_100 : qokP 100 := qok_of (f := qc100) rfl (n := 55) (fun pc h => by unfold qc100; rw [qble (by omega : 54 < pc)]; rfl) (by decide +kernel)
theorem qk_101 : qokP 101 := qok_of (f := qc101) rfl (n := 58) (fun pc h => by unfold qc101; rw [qble (by omega : 57 < pc)]; rfl) (by decide +kernel)
theorem qk_102 : qokP 102 := qok_of (f := qc102) rfl (n := 7) (fun pc h => by unfold qc102; rw [qble (by omega : 6 < pc)]; rfl) (by decide +kernel)
theorem qk_103 : qokP 103 := qok_of (f := qc103) rfl (n := 216) (fun pc h => by unfold qc103; rw [qble (by omega : 215 < pc)]; rfl) (by decide +kernel)
theorem qk_104 : qokP 104 := qok_of (f := qc104) rfl (n := 429) (fun pc h => by unfold qc104; rw [qble (by omega : 428 < pc)]; rfl) (by decide +kernel)
theorem qk_105 : qokP 105 := qok_of (f := qc105) rfl (n := 344) (fun pc h => by unfold qc105; rw [qble (by omega : 343 < pc)]; rfl) (by decide +kernel)
theorem qk_106 : qokP 106 := qok_of (f := qc106) rfl (n := 22) (fun pc h => by unfold qc106; rw [qble (by omega : 21 < pc)]; rfl) (by decide +kernel)
theorem qk_107 : qokP 107 := qok_of (f := qc107) rfl (n := 379) (fun pc h => by unfold qc107; rw [qble (by omega : 378 < pc)]; rfl) (by decide +kernel)
theorem qk_108 : qokP 108 := qok_of (f := qc108) rfl (n := 440) (fun pc h => by unfold qc108; rw [qble (by omega : 439 < pc)]; rfl) (by decide +kernel)
theorem qk_109 : qokP 109 := qok_of (f := qc109) rfl (n := 69) (fun pc h => by unfold qc109; rw [qble (by omega : 68 < pc)]; rfl) (by decide +kernel)
theorem qk_110 : qokP 110 := qok_of (f := qc110) rfl (n := 273) (fun pc h => by unfold qc110; rw [qble (by omega : 272 < pc)]; rfl) (by decide +kernel)
theorem qk_111 : qokP 111 := qok_of (f := qc111) rfl (n := 134) (fun pc h => by unfold qc111; rw [qble (by omega : 133 < pc)]; rfl) (by decide +kernel)
theorem qk_112 : qokP 112 := qok_of (f := qc112) rfl (n := 76) (fun pc h => by unfold qc112; rw [qble (by omega : 75 < pc)]; rfl) (by decide +kernel)
theorem qk_113 : qokP 113 := qok_of (f := qc113) rfl (n := 201) (fun pc h => by unfold qc113; rw [qble (by omega : 200 < pc)]; rfl) (by decide +kernel)
theorem qk_114 : qokP 114 := qok_of (f := qc114) rfl (n := 438) (fun pc h => by unfold qc114; rw [qble (by omega : 437 < pc)]; rfl) (by decide +kernel)
theorem qkA_0 : ∀ m, m < 20 → qokP m := lt_s (lt_s (lt_s (lt_s (lt_s (lt_s (lt_s (lt_s (lt_s (lt_s (lt_s (lt_s (lt_s (lt_s (lt_s (lt_s (lt_s (lt_s (lt_s (lt_s (lt_0) qk_0) qk_1) qk_2) qk_3) qk_4) qk_5) qk_6) qk_7) qk_8) qk_9) qk_10) qk_11) qk_12) qk_13) qk_14) qk_15) qk_16) qk_17) qk_18) qk_19
theorem qkA_20 : ∀ m, m < 40 → qokP m := lt_s (lt_s (lt_s (lt_s (lt_s (lt_s (lt_s (lt_s (lt_s (lt_s (lt_s (lt_s (lt_s (lt_s (lt_s (lt_s (lt_s (lt_s (lt_s (lt_s (qkA_0) qk_20) qk_21) qk_22) qk_23) qk_24) qk_25) qk_26) qk_27) qk_28) qk_29) qk_30) qk_31) qk_32) qk_33) qk_34) qk_35) qk_36) qk_37) qk_38) qk_39
theorem qkA_40 : ∀ m, m < 60 → qokP m := lt_s (lt_s (lt_s (lt_s (lt_s (lt_s (lt_s (lt_s (lt_s (lt_s (lt_s (lt_s (lt_s (lt_s (lt_s (lt_s (lt_s (lt_s (lt_s (lt_s (qkA_20) qk_40) qk_41) qk_42) qk_43) qk_44) qk_45) qk_46) qk_47) qk_48) qk_49) qk_50) qk_51) qk_52) qk_53) qk_54) qk_55) qk_56) qk_57) qk_58) qk_59
theorem qkA_60 : ∀ m, m < 80 → qokP m := lt_s (lt_s (lt_s (lt_s (lt_s (lt_s (lt_s (lt_s (lt_s (lt_s (lt_s (lt_s (lt_s (lt_s (lt_s (lt_s (lt_s (lt_s (lt_s (lt_s (qkA_40) qk_60) qk_61) qk_62) qk_63) qk_64) qk_65) qk_66) qk_67) qk_68) qk_69) qk_70) qk_71) qk_72) qk_73) qk_74) qk_75) qk_76) qk_77) qk_78) qk_79
theorem qkA_80 : ∀ m, m < 100 → qokP m := lt_s (lt_s (lt_s (lt_s (lt_s (lt_s (lt_s (lt_s (lt_s (lt_s (lt_s (lt_s (lt_s (lt_s (lt_s (lt_s (lt_s (lt_s (lt_s (lt_s (qkA_60) qk_80) qk_81) qk_82) qk_83) qk_84) qk_85) qk_86) qk_87) qk_88) qk_89) qk_90) qk_91) qk_92) qk_93) qk_94) qk_95) qk_96) qk_97) qk_98) qk_99
theorem qkA_100 : ∀ m, m < 115 → qokP m := lt_s (lt_s (lt_s (lt_s (lt_s (lt_s (lt_s (lt_s (lt_s (lt_s (lt_s (lt_s (lt_s (lt_s (lt_s (qkA_80) qk_100) qk_101) qk_102) qk_103) qk_104) qk_105) qk_106) qk_107) qk_108) qk_109) qk_110) qk_111) qk_112) qk_113) qk_114
theorem qk_all : ∀ m, m < qN → qokP m := qkA_100
end
section
/-! The abstract machine's values and memory against the machine's: relations, and what keeps them -/
def qat (ws : va_W) (k q : Nat) : Prop := ∃ e, ws[k]? = some (q, e)
def qext (ws ws' : va_W) : Prop := ∀ k q, qat ws k q → qat ws' k q
theorem qext_rf {ws : va_W} : qext ws ws := fun _ _ h => h
theorem qext_tr {a b c : va_W} (h : qext a b) (g : qext b c) : qext a c := fun k q x => g k q (h k q x)
theorem qext_app {a b : va_W} : qext a (a ++ b) := by
  rintro k q ⟨e, h⟩
  have hk : k < a.length := (List.getElem?_eq_some_iff.mp h).1
  exact ⟨e, by rw [List.getElem?_append_left hk]; exact h⟩
theorem qext_set {ws : va_W} {k q : Nat} {e e' : va_E} (h : ws[k]? = some (q, e)) : qext ws (ws.set k (q, e')) := by
  rintro i q' ⟨e0, h0⟩
  by_cases hi : k = i
  · subst hi
    rw [h] at h0
    cases h0
    have hk := (List.getElem?_eq_some_iff.mp h).1
    exact ⟨e', by rw [List.getElem?_set_self hk]⟩
  · exact ⟨e0, by rw [List.getElem?_set_ne hi]; exact h0⟩
def qvr (ws : va_W) : qV → Value → Prop
  | .inl x, v => v = .int (Int32.ofInt x) ∧ qin x
  | .inr (.inl k), v => ∃ q, qat ws k q ∧ v = .ref q
  | .inr (.inr x), v => v = .long x
theorem qvr_ext {ws ws' : va_W} (h : qext ws ws') : ∀ {x : qV} {v : Value}, qvr ws x v → qvr ws' x v
  | .inl _, _, g => g
  | .inr (.inl _), _, ⟨q, g1, g2⟩ => ⟨q, h _ _ g1, g2⟩
  | .inr (.inr _), _, g => g
theorem qvr_cat {ws : va_W} : ∀ {x : qV} {v : Value}, qvr ws x v → qn1 (some x) = true → v.category = 1
  | .inl _, _, g, _ => by rw [g.1]; rfl
  | .inr (.inl _), _, ⟨q, _, g2⟩, _ => by rw [g2]; rfl
  | .inr (.inr _), _, _, h => by cases h
theorem qvr_cat2 {ws : va_W} : ∀ {x : qV} {v : Value}, qvr ws x v → v.category ≤ 2
  | .inl _, _, g => by rw [g.1]; exact (by decide : (1 : Nat) ≤ 2)
  | .inr (.inl _), _, ⟨q, _, g2⟩ => by rw [g2]; exact (by decide : (1 : Nat) ≤ 2)
  | .inr (.inr _), _, g => by rw [show _ = _ from g]; exact (by decide : (2 : Nat) ≤ 2)
def qsr (ws : va_W) : List qA → List Value → Prop
  | [], [] => True
  | some x :: S, v :: st => qvr ws x v ∧ qsr ws S st
  | _, _ => False
theorem qsr_ext {ws ws' : va_W} (h : qext ws ws') : ∀ {S : List qA} {st : List Value}, qsr ws S st → qsr ws' S st
  | [], [], _ => trivial
  | some _ :: _, _ :: _, g => ⟨qvr_ext h g.1, qsr_ext h g.2⟩
  | none :: _, _, g => by cases g
  | [], _ :: _, g => by cases g
  | some _ :: _, [], g => by cases g
theorem qsr_len {ws : va_W} : ∀ {S : List qA} {st : List Value}, qsr ws S st → S.length = st.length
  | [], [], _ => rfl
  | some _ :: _, _ :: _, g => by simp [qsr_len g.2]
  | none :: _, _, g => by cases g
  | [], _ :: _, g => by cases g
  | some _ :: _, [], g => by cases g
theorem qsr_cat {ws : va_W} : ∀ {S : List qA} {st : List Value}, qsr ws S st → qnol S = true → ∀ v ∈ st, v.category = 1
  | [], [], _, _ => fun v h => by cases h
  | some x :: S, _ :: _, g, hn => fun v h => by
    have hn : (qn1 (some x) && qnol S) = true := hn
    rw [Bool.and_eq_true] at hn
    rcases List.mem_cons.mp h with rfl | h
    · exact qvr_cat g.1 hn.1
    · exact qsr_cat g.2 hn.2 v h
  | none :: _, _, g, _ => by cases g
  | [], _ :: _, g, _ => by cases g
  | some _ :: _, [], g, _ => by cases g
theorem qsr_cat2 {ws : va_W} : ∀ {S : List qA} {st : List Value}, qsr ws S st → (st.map fun v => v.category).sum ≤ 2 * S.length
  | [], [], _ => by decide
  | some x :: S, v :: st, g => by
    have h1 := qvr_cat2 g.1
    have h2 := qsr_cat2 g.2
    rw [List.map_cons, List.sum_cons, List.length_cons]
    omega
  | none :: _, _, g => by cases g
  | [], _ :: _, g => by cases g
  | some _ :: _, [], g => by cases g
theorem qsr_cons {ws : va_W} {x : qV} {S : List qA} {st : List Value} (h : qsr ws (some x :: S) st) : ∃ v st', st = v :: st' ∧ qvr ws x v ∧ qsr ws S st' := by
  cases st with
  | nil => cases h
  | cons v st' => exact ⟨v, st', rfl, h.1, h.2⟩
theorem qsr_int {ws : va_W} {x : Int} {S : List qA} {st : List Value} (h : qsr ws (qI x :: S) st) : ∃ st', st = .int (Int32.ofInt x) :: st' ∧ qin x ∧ qsr ws S st' := by
  obtain ⟨v, st', rfl, h1, h2⟩ := qsr_cons h
  obtain ⟨rfl, h3⟩ := h1
  exact ⟨st', rfl, h3, h2⟩
theorem qsr_ref {ws : va_W} {k : Nat} {S : List qA} {st : List Value} (h : qsr ws (qK k :: S) st) : ∃ q st', st = .ref q :: st' ∧ qat ws k q ∧ qsr ws S st' := by
  obtain ⟨v, st', rfl, h1, h2⟩ := qsr_cons h
  obtain ⟨q, h3, rfl⟩ := h1
  exact ⟨q, st', rfl, h3, h2⟩
theorem qsr_long {ws : va_W} {x : Int64} {S : List qA} {st : List Value} (h : qsr ws (qJ x :: S) st) : ∃ st', st = .long x :: st' ∧ qsr ws S st' := by
  obtain ⟨v, st', rfl, h1, h2⟩ := qsr_cons h
  exact ⟨st', by rw [show v = _ from h1], h2⟩
theorem qsr_nil {ws : va_W} {st : List Value} (h : qsr ws [] st) : st = [] := by
  cases st with
  | nil => rfl
  | cons v st' => cases h
theorem qsr_app {ws : va_W} : ∀ {S1 S2 : List qA} {s1 s2 : List Value}, qsr ws S1 s1 → qsr ws S2 s2 → qsr ws (S1 ++ S2) (s1 ++ s2)
  | [], _, [], _, _, g => g
  | some _ :: _, _, _ :: _, _, h, g => ⟨h.1, qsr_app h.2 g⟩
  | none :: _, _, _, _, h, _ => by cases h
  | [], _, _ :: _, _, h, _ => by cases h
  | some _ :: _, _, [], _, h, _ => by cases h
theorem qsr_rev {ws : va_W} : ∀ {S : List qA} {st : List Value}, qsr ws S st → qsr ws S.reverse st.reverse
  | [], [], _ => trivial
  | some _ :: _, _ :: _, g => by
    rw [List.reverse_cons, List.reverse_cons]
    exact qsr_app (qsr_rev g.2) ⟨g.1, trivial⟩
  | none :: _, _, g => by cases g
  | [], _ :: _, g => by cases g
  | some _ :: _, [], g => by cases g
theorem qsr_take {ws : va_W} : ∀ {S : List qA} {st : List Value} (n : Nat), qsr ws S st → qsr ws (S.take n) (st.take n)
  | _, _, 0, _ => by simp [qsr]
  | [], [], _ + 1, _ => by simp [qsr]
  | some _ :: _, _ :: _, n + 1, g => by
    rw [List.take_succ_cons, List.take_succ_cons]
    exact ⟨g.1, qsr_take n g.2⟩
  | none :: _, _, _ + 1, g => by cases g
  | [], _ :: _, _ + 1, g => by cases g
  | some _ :: _, [], _ + 1, g => by cases g
theorem qsr_drop {ws : va_W} : ∀ {S : List qA} {st : List Value} (n : Nat), qsr ws S st → qsr ws (S.drop n) (st.drop n)
  | _, _, 0, g => g
  | [], [], _ + 1, _ => by simp [qsr]
  | some _ :: _, _ :: _, n + 1, g => by
    rw [List.drop_succ_cons, List.drop_succ_cons]
    exact qsr_drop n g.2
  | none :: _, _, _ + 1, g => by cases g
  | [], _ :: _, _ + 1, g => by cases g
  | some _ :: _, [], _ + 1, g => by cases g
/-- locals -/
def qlr (k : Nat) (ws : va_W) (L : List qA) (ls : Array Slot) : Prop := ls.size = L.length ∧ lv_wf ls ∧ (∀ (i : Nat) (x : qV), L[i]? = some (some x) → ∃ v, qvr ws x v ∧ ls[i]? = some (.val v)) ∧ ∀ (i : Nat) (x : qV), L[i]? = some (some x) → qn1 (some x) = true ∨ i ∈ qlj k
theorem qlr_ext {k : Nat} {ws ws' : va_W} (h : qext ws ws') {L : List qA} {ls : Array Slot} (g : qlr k ws L ls) : qlr k ws' L ls :=
  ⟨g.1, g.2.1, fun i x hx => by
    obtain ⟨v, h1, h2⟩ := g.2.2.1 i x hx
    exact ⟨v, qvr_ext h h1, h2⟩, g.2.2.2⟩
theorem qnb_ok {k b : Nat} (h : qnb k b = true) {j : Nat} (hj : j ∈ qlj k) : j + 1 ≠ b := by
  have h1 := List.all_eq_true.mp h j hj
  intro e
  simp [e] at h1
def qlv (ls : Array Slot) : List (Nat × Value) := (List.range ls.size).filterMap (fun (i : Nat) => match (ls[i]? : Option Slot) with
  | some (Slot.val v) => some (i, v)
  | _ => none)
theorem qlv_mem {ls : Array Slot} {i : Nat} {v : Value} : (i, v) ∈ qlv ls ↔ ls[i]? = some (.val v) := by
  unfold qlv
  rw [List.mem_filterMap]
  constructor
  · rintro ⟨j, -, h⟩
    split at h
    · rename_i w hw
      cases h
      exact hw
    · cases h
  · intro h
    have hi : i < ls.size := (Array.getElem?_eq_some_iff.mp h).1
    exact ⟨i, List.mem_range.mpr hi, by rw [h]⟩
theorem qlv_has {ls : Array Slot} (h : lv_wf ls) : lv_has ls ls.size (qlv ls) := ⟨rfl, h, fun q hq => qlv_mem.mp hq⟩
theorem qlr_set {k : Nat} {ws : va_W} {L : List qA} {ls ls' : Array Slot} {b : Nat} {x : qV} {v : Value} (h : qlr k ws L ls) (hv : qvr ws x v) (hx : qn1 (some x) = true) (hb : qnb k b = true) (h' : lv_has ls' ls.size ((b, v) :: (qlv ls).filter (fun q => !(q.1 == b) && !(q.1 + 1 == b && q.2.category == 2)))) : qlr k ws (L.set b (some x)) ls' := by
  refine ⟨by rw [h'.1, h.1, List.length_set], h'.2.1, fun i y hy => ?_, fun i y hy => ?_⟩
  · by_cases hi : b = i
    · subst hi
      have hb : b < L.length := by
        have h9 := (List.getElem?_eq_some_iff.mp hy).1
        rwa [List.length_set] at h9
      rw [List.getElem?_set_self hb] at hy
      cases hy
      exact ⟨v, hv, h'.2.2 (b, v) List.mem_cons_self⟩
    · rw [List.getElem?_set_ne hi] at hy
      obtain ⟨w, h1, h2⟩ := h.2.2.1 i y hy
      refine ⟨w, h1, h'.2.2 (i, w) (List.mem_cons_of_mem _ (List.mem_filter.mpr ⟨qlv_mem.mpr h2, ?_⟩))⟩
      rcases h.2.2.2 i y hy with h3 | h3
      · simp [qvr_cat h1 h3, Ne.symm hi]
      · simp [qnb_ok hb h3, Ne.symm hi]
  · by_cases hi : b = i
    · subst hi
      have hb : b < L.length := by
        have h9 := (List.getElem?_eq_some_iff.mp hy).1
        rwa [List.length_set] at h9
      rw [List.getElem?_set_self hb] at hy
      cases hy
      exact Or.inl hx
    · rw [List.getElem?_set_ne hi] at hy
      exact h.2.2.2 i y hy
theorem qlr_setL {k : Nat} {ws : va_W} {L : List qA} {ls ls' : Array Slot} {b : Nat} {x : Int64} (h : qlr k ws L ls) (hb : qnb k b = true) (hk : b ∈ qlj k) (h' : lv_has ls' ls.size ((b, Value.long x) :: (qlv ls).filter (fun q => !(q.1 == b) && (!(q.1 == b + 1) && !(q.1 + 1 == b && q.2.category == 2))))) : qlr k ws ((L.set b (qJ x)).set (b + 1) none) ls' := by
  have key : ∀ (i : Nat) (y : qV), ((L.set b (qJ x)).set (b + 1) none)[i]? = some (some y) → (i = b ∧ y = .inr (.inr x)) ∨ (i ≠ b ∧ i ≠ b + 1 ∧ L[i]? = some (some y)) := by
    intro i y hy
    by_cases h1 : b + 1 = i
    · subst h1
      have h9 := (List.getElem?_eq_some_iff.mp hy).1
      rw [List.length_set] at h9
      rw [List.getElem?_set_self h9] at hy
      cases hy
    · rw [List.getElem?_set_ne h1] at hy
      by_cases h2 : b = i
      · subst h2
        have h9 := (List.getElem?_eq_some_iff.mp hy).1
        rw [List.length_set] at h9
        rw [List.getElem?_set_self h9] at hy
        cases hy
        exact Or.inl ⟨rfl, rfl⟩
      · rw [List.getElem?_set_ne h2] at hy
        exact Or.inr ⟨Ne.symm h2, Ne.symm h1, hy⟩
  refine ⟨by rw [h'.1, h.1, List.length_set, List.length_set], h'.2.1, fun i y hy => ?_, fun i y hy => ?_⟩
  · rcases key i y hy with ⟨rfl, rfl⟩ | ⟨h1, h2, h3⟩
    · exact ⟨_, rfl, h'.2.2 (i, _) List.mem_cons_self⟩
    · obtain ⟨w, h4, h5⟩ := h.2.2.1 i y h3
      refine ⟨w, h4, h'.2.2 (i, w) (List.mem_cons_of_mem _ (List.mem_filter.mpr ⟨qlv_mem.mpr h5, ?_⟩))⟩
      rcases h.2.2.2 i y h3 with h6 | h6
      · simp [qvr_cat h4 h6, h1, h2]
      · simp [qnb_ok hb h6, h1, h2]
  · rcases key i y hy with ⟨rfl, rfl⟩ | ⟨h1, h2, h3⟩
    · exact Or.inr hk
    · exact h.2.2.2 i y h3
/-- the memory -/
def qrf (ws : va_W) : Option Nat → Option Nat → Prop
  | none, z => z = none
  | some k, z => ∃ q, qat ws k q ∧ z = some q
theorem qrf_ext {ws ws' : va_W} (h : qext ws ws') : ∀ {x z : Option Nat}, qrf ws x z → qrf ws' x z
  | none, _, g => g
  | some _, _, ⟨q, g1, g2⟩ => ⟨q, h _ _ g1, g2⟩
def qcr (ws : va_W) (tys : List (ClassId × FieldType)) (kd : Nat × Nat) (mk : Int → Int) (rk : Int → Option Nat) (e : va_E) : Prop :=
  match kd with
  | (0, ci) => ∃ fs : List Value, e = .inr (ci, fs) ∧ fs.length = (qfs ci).length ∧ (∀ j : Nat, (qfs ci)[j]? = some false → fs[j]? = some (.int (Int32.ofInt (mk j))) ∧ qin (mk j)) ∧ (∀ j : Nat, (qfs ci)[j]? = some true → ∃ z, qrf ws (rk j) z ∧ fs[j]? = some (va_rf z))
  | (1, n) => ∃ (cA : ClassId) (f : Nat → Int32), e = .inl (cA, n, .inl f) ∧ (cA, FieldType.int) ∈ tys ∧ n ≤ 100000 ∧ ∀ j : Nat, j < n → f j = Int32.ofInt (mk j) ∧ qin (mk j)
  | (ci + 2, n) => ∃ (cA : ClassId) (f : Nat → Option Nat), e = .inl (cA, n, .inr (.inr (.inr (.inr f)))) ∧ (cA, FieldType.object (qR ci)) ∈ tys ∧ n ≤ 100000 ∧ ∀ j : Nat, j < n → qrf ws (rk j) (f j)
theorem qcr_ext {ws ws' : va_W} {tys : List (ClassId × FieldType)} {kd : Nat × Nat} {mk : Int → Int} {rk : Int → Option Nat} {e : va_E} (h : qext ws ws') (g : qcr ws tys kd mk rk e) : qcr ws' tys kd mk rk e := by
  unfold qcr at g ⊢
  split at g
  · obtain ⟨fs, h1, h2, h3, h4⟩ := g
    exact ⟨fs, h1, h2, h3, fun j hj => by
      obtain ⟨z, h5, h6⟩ := h4 j hj
      exact ⟨z, qrf_ext h h5, h6⟩⟩
  · exact g
  · obtain ⟨cA, f, h1, h2, h3, h4⟩ := g
    exact ⟨cA, f, h1, h2, h3, fun j hj => qrf_ext h (h4 j hj)⟩
theorem qcr_tys {ws : va_W} {tys tys' : List (ClassId × FieldType)} {kd : Nat × Nat} {mk : Int → Int} {rk : Int → Option Nat} {e : va_E} (h : ∀ x ∈ tys, x ∈ tys') (g : qcr ws tys kd mk rk e) : qcr ws tys' kd mk rk e := by
  unfold qcr at g ⊢
  split at g
  · exact g
  · obtain ⟨cA, f, h1, h2, h3⟩ := g
    exact ⟨cA, f, h1, h _ h2, h3⟩
  · obtain ⟨cA, f, h1, h2, h3⟩ := g
    exact ⟨cA, f, h1, h _ h2, h3⟩
def qhr (ws : va_W) (tys : List (ClassId × FieldType)) (σ : qM) : Prop := ws.length = σ.1.length ∧ ∀ (k : Nat) (kd : Nat × Nat), σ.1[k]? = some kd → ∃ q e, ws[k]? = some (q, e) ∧ qcr ws tys kd (σ.2.1 k) (σ.2.2 k) e
theorem qhr_at {ws : va_W} {tys : List (ClassId × FieldType)} {σ : qM} (h : qhr ws tys σ) {k q : Nat} {kd : Nat × Nat} (hk : σ.1[k]? = some kd) (hq : qat ws k q) : ∃ e, ws[k]? = some (q, e) ∧ qcr ws tys kd (σ.2.1 k) (σ.2.2 k) e := by
  obtain ⟨q', e, h1, h2⟩ := h.2 k kd hk
  obtain ⟨e', h3⟩ := hq
  rw [h1] at h3
  cases h3
  exact ⟨e, h1, h2⟩
theorem qhr_set {ws : va_W} {tys : List (ClassId × FieldType)} {σ σ' : qM} {k q : Nat} {e e' : va_E} {kd : Nat × Nat} (h : qhr ws tys σ) (hk : σ.1[k]? = some kd) (hq : ws[k]? = some (q, e)) (hT : σ'.1 = σ.1) (hm : ∀ a, a ≠ k → σ'.2.1 a = σ.2.1 a ∧ σ'.2.2 a = σ.2.2 a) (hc : qcr (ws.set k (q, e')) tys kd (σ'.2.1 k) (σ'.2.2 k) e') : qhr (ws.set k (q, e')) tys σ' := by
  refine ⟨by rw [List.length_set, hT]; exact h.1, fun i kd' hi => ?_⟩
  rw [hT] at hi
  by_cases hik : k = i
  · subst hik
    rw [hk] at hi
    cases hi
    have hl := (List.getElem?_eq_some_iff.mp hq).1
    exact ⟨q, e', by rw [List.getElem?_set_self hl], hc⟩
  · obtain ⟨q1, e1, h1, h2⟩ := h.2 i kd' hi
    refine ⟨q1, e1, by rw [List.getElem?_set_ne hik]; exact h1, ?_⟩
    rw [(hm i (Ne.symm hik)).1, (hm i (Ne.symm hik)).2]
    exact qcr_ext (qext_set hq) h2
theorem qhr_new {ws : va_W} {tys tys' : List (ClassId × FieldType)} {σ : qM} {q : Nat} {e : va_E} {kd : Nat × Nat} (h : qhr ws tys σ) (ht : ∀ x ∈ tys, x ∈ tys') (hc : qcr (ws ++ [(q, e)]) tys' kd (fun _ => 0) (fun _ => none) e) : qhr (ws ++ [(q, e)]) tys' (qold σ kd) := by
  refine ⟨by simp [qold, h.1], fun i kd' hi => ?_⟩
  by_cases hil : i < σ.1.length
  · have h1 : (qold σ kd).1[i]? = σ.1[i]? := List.getElem?_append_left hil
    rw [h1] at hi
    obtain ⟨q1, e1, h2, h3⟩ := h.2 i kd' hi
    refine ⟨q1, e1, by rw [List.getElem?_append_left (by rw [h.1]; exact hil)]; exact h2, ?_⟩
    have h4 : (qold σ kd).2.1 i = σ.2.1 i := by funext j; simp [qold, qrow, Nat.ne_of_lt hil]
    have h5 : (qold σ kd).2.2 i = σ.2.2 i := by funext j; simp [qold, qrow, Nat.ne_of_lt hil]
    rw [h4, h5]
    exact qcr_ext qext_app (qcr_tys ht h3)
  · have hlt := (List.getElem?_eq_some_iff.mp hi).1
    have hie : i = σ.1.length := by simp [qold] at hlt; omega
    subst hie
    have h1 : (qold σ kd).1[σ.1.length]? = some kd := by simp [qold]
    rw [h1] at hi
    cases hi
    refine ⟨q, e, by rw [← h.1]; simp, ?_⟩
    have h4 : (qold σ kd).2.1 σ.1.length = fun _ => 0 := by funext j; simp [qold, qrow]
    have h5 : (qold σ kd).2.2 σ.1.length = fun _ => none := by funext j; simp [qold, qrow]
    rw [h4, h5]
    exact hc
/-- how much room the cells take -/
def qszk (kd : Nat × Nat) : Nat := match kd with
  | (0, ci) => (qfs ci).length
  | (_, n) => n
def qsz (T : List (Nat × Nat)) : Nat := (T.map qszk).sum
theorem qsz_app (T X : List (Nat × Nat)) : qsz (T ++ X) = qsz T + qsz X := by simp [qsz]
/-- numbers -/
theorem qti {x : Int} (h : qin x) : (Int32.ofInt x).toInt = x := Int32.toInt_ofInt_of_le (by have := h.1; omega) (by have := h.2; omega)
theorem qeq {x y : Int} (hx : qin x) (hy : qin y) : Int32.ofInt x = Int32.ofInt y ↔ x = y := ⟨fun h => by rw [← qti hx, ← qti hy, h], fun h => by rw [h]⟩
theorem qlt {x y : Int} (hx : qin x) (hy : qin y) : Int32.ofInt x < Int32.ofInt y ↔ x < y := by rw [Int32.lt_iff_toInt_lt, qti hx, qti hy]
theorem qle {x y : Int} (hx : qin x) (hy : qin y) : Int32.ofInt x ≤ Int32.ofInt y ↔ x ≤ y := by rw [Int32.le_iff_toInt_le, qti hx, qti hy]
theorem qnI {x : Int} (h : 0 ≤ x) : Int32.ofInt x = nI x.toNat := by
  unfold nI
  rw [← Int32.ofInt_eq_ofNat, Int.toNat_of_nonneg h]
theorem qclamp {x : Int} (h : 0 ≤ x) (h2 : qin x) : (Int32.ofInt x).toNatClampNeg = x.toNat := by
  rw [qnI h]
  exact nI_clamp (by have := h2.2; omega)
theorem qvin {x : Int} {n : Nat} (h : 0 ≤ x) (h2 : x < n) (hn : n ≤ 100000) : vp_in (Int32.ofInt x) n := by
  rw [qnI h]
  exact vp_in_nI (by omega) (by omega)
theorem q0in : qin 0 := by decide
theorem qdiv {x y : Int} (hx : 0 ≤ x) (hy : 0 < y) (hx2 : qin x) (hy2 : qin y) : Int32.ofInt x / Int32.ofInt y = Int32.ofInt (x / y) ∧ qin (x / y) := by
  have h1 : 0 ≤ x / y := Int.ediv_nonneg hx (by omega)
  have h2 : x / y ≤ x := Int.ediv_le_self y hx
  refine ⟨?_, ⟨by omega, by have := hx2.2; omega⟩⟩
  rw [qnI hx, qnI (by omega : 0 ≤ y), qnI h1, pk_div (by have := hx2.2; omega) (by omega) (by have := hy2.2; omega)]
  congr 1
  obtain ⟨a, rfl⟩ : ∃ a : Nat, x = a := ⟨x.toNat, by omega⟩
  obtain ⟨b, rfl⟩ : ∃ b : Nat, y = b := ⟨y.toNat, by omega⟩
  rw [← Int.natCast_ediv]
  rfl
theorem qrem {x y : Int} (hx : 0 ≤ x) (hy : 0 < y) (hx2 : qin x) (hy2 : qin y) : Int32.ofInt x - Int32.ofInt x / Int32.ofInt y * Int32.ofInt y = Int32.ofInt (x % y) ∧ qin (x % y) := by
  have h1 : 0 ≤ x % y := Int.emod_nonneg x (by omega)
  have h2 : x % y < y := Int.emod_lt_of_pos x hy
  refine ⟨?_, ⟨by omega, by have := hy2.2; omega⟩⟩
  rw [qnI hx, qnI (by omega : 0 ≤ y), qnI h1, pk_rem (by have := hx2.2; omega) (by omega) (by have := hy2.2; omega)]
  congr 1
  have := Int.toNat_emod hx (by omega : 0 ≤ y)
  omega
/-- tables -/
theorem qfs_lt {ci j : Nat} {t : Bool} (h : (qfs ci)[j]? = some t) : ci < 8 := by
  by_cases hc : ci < 8
  · exact hc
  · exfalso
    have : qfs ci = [] := by
      by_cases h8 : ci = 8
      · subst h8; rfl
      unfold qfs
      simp [show ∀ k, k < 9 → Nat.beq ci k = false from fun k hk => by
        cases e : Nat.beq ci k with
        | false => rfl
        | true => exact absurd (Nat.eq_of_beq_eq_true e) (by omega), show ∀ k, k < 9 → Nat.ble ci k = false from fun k hk => qble (by omega)]
    rw [this] at h
    simp at h
theorem qvw {ci : Nat} (h : ci < 8) : vwCl[ci]? = some (qR ci, qT ci, (qfs ci).length) := by
  match ci, h with
  | 0, _ => rfl
  | 1, _ => rfl
  | 2, _ => rfl
  | 3, _ => rfl
  | 4, _ => rfl
  | 5, _ => rfl
  | 6, _ => rfl
  | 7, _ => rfl
theorem qu_all {ci : Nat} (h : ci < 8) : ∀ w ∈ u_ws (qR ci) (qT ci) (qfs ci).length, w ∈ qtb := by
  intro w hw
  have h1 : w ∈ lw_tbl := by
    match ci, h with
    | 0, _ => exact qu_0 w hw
    | 1, _ => exact qu_1 w hw
    | 2, _ => exact qu_2 w hw
    | 3, _ => exact qu_3 w hw
    | 4, _ => exact qu_4 w hw
    | 5, _ => exact qu_5 w hw
    | 6, _ => exact qu_6 w hw
    | 7, _ => exact qu_7 w hw
  obtain ⟨k, -, rfl⟩ := List.mem_map.mp hw
  refine qtb_in h1 ?_
  unfold u_lay
  split <;> rfl
theorem qty_all {ci : Nat} (h : ci < 8) : ∀ k, k < (qfs ci).length → parseFieldDescriptor (qT ci k).2.2.1 = some (qty ci k) := by
  match ci, h with
  | 0, _ => exact tyX0_ok
  | 1, _ => exact tyX1_ok
  | 2, _ => exact tyX2_ok
  | 3, _ => exact tyX3_ok
  | 4, _ => exact tyX4_ok
  | 5, _ => exact tyX5_ok
  | 6, _ => exact tyX6_ok
  | 7, _ => exact tyX7_ok
theorem qnm_all {ci : Nat} (h : ci < 8) : ∀ a, a < (qfs ci).length → ∀ b, b < (qfs ci).length → a ≠ b → (qT ci a).2.1 ≠ (qT ci b).2.1 := by
  match ci, h with
  | 0, _ => exact nmX0
  | 1, _ => exact nmX1
  | 2, _ => exact nmX2
  | 3, _ => exact nmX3
  | 4, _ => exact nmX4
  | 5, _ => exact nmX5
  | 6, _ => exact nmX6
  | 7, _ => exact nmX7
def qisr (t : FieldType) : Bool := match t with
  | .object _ => true
  | .array _ => true
  | _ => false
theorem qkind : ∀ ci, ci < 8 → ∀ j, j < 19 → (match (qfs ci)[j]? with
  | some false => decide (qty ci j = .int)
  | some true => qisr (qty ci j)
  | none => true) = true := by decide +kernel
theorem qfs_len : ∀ ci, ci < 8 → (qfs ci).length ≤ 19 := by decide +kernel
theorem qfs_j {ci j : Nat} {t : Bool} (h : (qfs ci)[j]? = some t) : j < (qfs ci).length := (List.getElem?_eq_some_iff.mp h).1
theorem qty_int {ci j : Nat} (h : (qfs ci)[j]? = some false) : qty ci j = .int := by
  have h1 := qkind ci (qfs_lt h) j (Nat.lt_of_lt_of_le (qfs_j h) (qfs_len ci (qfs_lt h)))
  rw [h] at h1
  simpa using h1
theorem qty_ref {ci j : Nat} (h : (qfs ci)[j]? = some true) : (∃ n, qty ci j = .object n) ∨ ∃ t, qty ci j = .array t := by
  have h1 := qkind ci (qfs_lt h) j (Nat.lt_of_lt_of_le (qfs_j h) (qfs_len ci (qfs_lt h)))
  rw [h] at h1
  have h1 : qisr (qty ci j) = true := h1
  cases hq : qty ci j <;> rw [hq] at h1 <;> first | (exact Or.inl ⟨_, rfl⟩) | (exact Or.inr ⟨_, rfl⟩) | (simp [qisr] at h1)
end
section
/-- what the tables say of arrays of references -/
def qAO (U : State) : Prop := ∀ ci : Nat, qao.any (fun q => q.1 == ci) = true → va_AO (qR ci) U
theorem qAO_moved {u U : State} (hvm : u.vm.Alike U.vm) (h : qAO u) : qAO U := fun ci hc => va_AO.moved hvm (h ci hc)
/-- the machine stands in a method of the table -/
def qCtx (p : Program) (s : State) (m : MethodId) (args : Array Value) (meth : Method) (c : Code) (R : Room) (k : Nat) : Prop :=
  k < qN ∧ p.tables.exec = Jvm.exec ∧ c.code = qb k ∧ c.maxLocals = qNl k ∧ s.vm.findClass (qR (qCl k)) = some m.cls ∧ (∀ w ∈ qtb, w.before args s = true) ∧ meth.sig.returnType = qret k ∧ meth.locks = false ∧ meth.name = (qy k).name ∧ (qfr k).1 ≤ R.frames ∧ (qfr k).2 ≤ R.locals ∧ qAO s
/-- the machine's heap holds the abstract memory -/
def qHp (D : va_G) (A : Nat → Prop) (s : State) (ws : va_W) (tys : List (ClassId × FieldType)) (σ : qM) (H : Heap) (locs : List Loc) : Prop := qhr ws tys σ ∧ va_P D vwCl ws H ∧ va_K D vwCl tys s ∧ va_D A ws ∧ va_S A s.heap H locs
theorem qfl_at {k b ci j : Nat} (h : qfl.any (fun q => q.1 == k && q.2.1 == b && q.2.2.1 == ci && q.2.2.2.1 == j) = true) : Cond.fieldLink (qR k) b (qT ci j).1 (qT ci j).2.1 (qT ci j).2.2.1 ∈ qtb := by
  obtain ⟨q, hq, h1⟩ := List.any_eq_true.mp h
  have h2 := List.all_eq_true.mp qfl_ok q hq
  simp only [Bool.and_eq_true, beq_iff_eq] at h1
  obtain ⟨⟨⟨e1, e2⟩, e3⟩, e4⟩ := h1
  rw [e1, e2, e3, e4] at h2
  exact qtb_at (of_decide_eq_true h2) rfl
theorem qcl_at {k b ci : Nat} (h : qcl.any (fun q => q.1 == k && q.2.1 == b && q.2.2.1 == ci) = true) : Cond.classLink (qR k) b (qR ci) ∈ qtb := by
  obtain ⟨q, hq, h1⟩ := List.any_eq_true.mp h
  have h2 := List.all_eq_true.mp qcl_ok q hq
  simp only [Bool.and_eq_true, beq_iff_eq] at h1
  obtain ⟨⟨e1, e2⟩, e3⟩ := h1
  rw [e1, e2, e3] at h2
  exact qtb_at (of_decide_eq_true h2) rfl
theorem qml_at {k b y : Nat} (h : qml.any (fun q => q.1 == k && q.2.1 == b && q.2.2.1 == y) = true) : Cond.methodLink (qR k) b (qy y) ∈ qtb := by
  obtain ⟨q, hq, h1⟩ := List.any_eq_true.mp h
  have h2 := List.all_eq_true.mp qml_ok q hq
  simp only [Bool.and_eq_true, beq_iff_eq] at h1
  obtain ⟨⟨e1, e2⟩, e3⟩ := h1
  rw [e1, e2, e3] at h2
  exact qtb_at (of_decide_eq_true h2) rfl
theorem qmx_at {k b : Nat} (h : qmx.any (fun q => q.1 == k && q.2.1 == b) = true) : Cond.methodLink (qR k) b Lib.Math.max.name ∈ qtb := by
  obtain ⟨q, hq, h1⟩ := List.any_eq_true.mp h
  have h2 := List.all_eq_true.mp qmx_ok q hq
  simp only [Bool.and_eq_true, beq_iff_eq] at h1
  rw [h1.1, h1.2] at h2
  exact qtb_at (of_decide_eq_true h2) rfl
theorem qoi_at {k b : Nat} (h : qoi.any (fun q => q.1 == k && q.2.1 == b) = true) : Cond.methodLink (qR k) b Lib.objectInit ∈ qtb := by
  obtain ⟨q, hq, h1⟩ := List.any_eq_true.mp h
  have h2 := List.all_eq_true.mp qoi_ok q hq
  simp only [Bool.and_eq_true, beq_iff_eq] at h1
  rw [h1.1, h1.2] at h2
  exact qtb_at (of_decide_eq_true h2) rfl
theorem qcp_at {ci : Nat} (h : ci < 9) : (ci < 8 → Cond.instantiable (qR ci) (qfs ci).length ∈ qtb) ∧ Cond.initialized (qR ci) ∈ qtb := by
  have h2 := of_decide_eq_true (List.all_eq_true.mp qcp_ok ci (List.mem_range.mpr h))
  exact ⟨fun h8 => qtb_at (h2.1 h8) rfl, qtb_at h2.2 rfl⟩
theorem qld_at {b : Nat} {a : Int} (h : qld.any (fun q => q.1 == b && q.2.1 == a) = true) : Cond.constant (qR 8) b (Int32.ofInt a) ∈ qtb := by
  obtain ⟨q, hq, h1⟩ := List.any_eq_true.mp h
  have h2 := List.all_eq_true.mp qld_ok q hq
  simp only [Bool.and_eq_true, beq_iff_eq] at h1
  rw [h1.1, h1.2] at h2
  exact qtb_at (of_decide_eq_true h2) rfl
theorem qll_at {b : Nat} {a : Int} (h : qll.any (fun q => q.1 == b && q.2.1 == a) = true) : Cond.constantLong (qR 8) b (Int64.ofInt a) ∈ qtb := by
  obtain ⟨q, hq, h1⟩ := List.any_eq_true.mp h
  have h2 := List.all_eq_true.mp qll_ok q hq
  simp only [Bool.and_eq_true, beq_iff_eq] at h1
  rw [h1.1, h1.2] at h2
  exact qtb_at (of_decide_eq_true h2) rfl
theorem qmem_at {α : Type} {x : α} {l : List α} (h : x ∈ l) : ∃ i : Nat, l[i]? = some x := List.getElem?_of_mem h
theorem qfin4 {b : Nat} (h : b < 4) : ((Fin.ofNat 4 b : Fin 4) : Nat) = b := by simp [Fin.ofNat, Nat.mod_eq_of_lt h]
theorem qsum1 {l : List Value} (h : ∀ v ∈ l, v.category = 1) : (l.map fun v => v.category).sum = l.length := by
  induction l with
  | nil => rfl
  | cons a t ih =>
    rw [List.map_cons, List.sum_cons, h a List.mem_cons_self, ih (fun v hv => h v (List.mem_cons_of_mem _ hv)), List.length_cons]
    omega
theorem qs_0 {p : Program} {l : Launch} {e : Env} {R : Room} {s : State} {m : MethodId} {args : Array Value} {below : List Frame} {meth : Method} {c : Code} {H : Heap} {locs : List Loc} {cells slots : Nat} {Q : State → Prop} {D : va_G} {A : Nat → Prop} {k pc b nx : Nat} {a : Int} {cl : List Nat} {L S : List qA} {σ : qM} {pc' : Nat} {L' S' : List qA} {σ' : qM} {n0 z0 : Nat} {ws : va_W} {tys : List (ClassId × FieldType)} {ls : Array Slot} {st : List Value}
    (hok : qok k pc (0, a, b, cl, nx) = true) (hs : qstep 0 a b cl nx pc L S σ = some (pc', L', S', σ')) (hr1 : σ'.1.length ≤ n0 + R.cells) (hr2 : qsz σ'.1 ≤ z0 + R.slots) (C : qCtx p s m args meth c R k) (Hp : qHp D A s ws tys σ H locs) (hL : qlr k ws L ls) (hS : qsr ws S st) (hc1 : cells + n0 = σ.1.length) (hc2 : slots + z0 = qsz σ.1) (hA : ∀ q, s.heap.size ≤ q → A q) (hNl : L.length = qNl k)
    (kk : ∀ (ws' : va_W) (tys' : List (ClassId × FieldType)) (H' : Heap) (locs' : List Loc) (ls' : Array Slot) (st' : List Value) (cells' slots' : Nat), qext ws ws' → qHp D A s ws' tys' σ' H' locs' → qlr k ws' L' ls' → qsr ws' S' st' → cells' + n0 = σ'.1.length → slots' + z0 = qsz σ'.1 → W p l e R s m args below meth c H' locs' cells' slots' Q (F0 m pc' ls' st')) :
    W p l e R s m args below meth c H locs cells slots Q (F0 m pc ls st) := by
  obtain ⟨hkN, hx, hb, hml, hown, hts, hret, hlk, hnm, hRf, hRl, hAO⟩ := C
  obtain ⟨hh, hP, hK, hD, hSS⟩ := Hp
  simp only [qstep] at hs
  rw [Option.ite_none_right_eq_some] at hs
  obtain ⟨hq, hs⟩ := hs
  simp only [Option.some.injEq, Prod.mk.injEq] at hs
  obtain ⟨rfl, rfl, rfl, rfl⟩ := hs
  simp only [qok, qdec, Bool.and_eq_true, Bool.or_eq_true, decide_eq_true_eq] at hok
  rcases hok with ((⟨h1, h2⟩ | ⟨h1, h2, h3⟩) | ⟨h1, h2, h3⟩) | ⟨⟨h1, h2, h3⟩, h4⟩
  · subst h2
    exact lv_iconst hx hb h1 rfl (kk ws tys H locs ls _ cells slots qext_rf ⟨hh, hP, hK, hD, hSS⟩ hL ⟨⟨rfl, hq⟩, hS⟩ hc1 hc2)
  · subst h2
    exact lv_bipush hx hb h1 h3 (kk ws tys H locs ls _ cells slots qext_rf ⟨hh, hP, hK, hD, hSS⟩ hL ⟨⟨rfl, hq⟩, hS⟩ hc1 hc2)
  · subst h2
    exact lv_sipush hx hb h1 h3 (kk ws tys H locs ls _ cells slots qext_rf ⟨hh, hP, hK, hD, hSS⟩ hL ⟨⟨rfl, hq⟩, hS⟩ hc1 hc2)
  · subst h2
    rw [h3] at hown
    exact lv_ldc hx hb hown (hts _ (qld_at h4)) h1 (kk ws tys H locs ls _ cells slots qext_rf ⟨hh, hP, hK, hD, hSS⟩ hL ⟨⟨rfl, hq⟩, hS⟩ hc1 hc2)
theorem qs_1 {p : Program} {l : Launch} {e : Env} {R : Room} {s : State} {m : MethodId} {args : Array Value} {below : List Frame} {meth : Method} {c : Code} {H : Heap} {locs : List Loc} {cells slots : Nat} {Q : State → Prop} {D : va_G} {A : Nat → Prop} {k pc b nx : Nat} {a : Int} {cl : List Nat} {L S : List qA} {σ : qM} {pc' : Nat} {L' S' : List qA} {σ' : qM} {n0 z0 : Nat} {ws : va_W} {tys : List (ClassId × FieldType)} {ls : Array Slot} {st : List Value}
    (hok : qok k pc (1, a, b, cl, nx) = true) (hs : qstep 1 a b cl nx pc L S σ = some (pc', L', S', σ')) (hr1 : σ'.1.length ≤ n0 + R.cells) (hr2 : qsz σ'.1 ≤ z0 + R.slots) (C : qCtx p s m args meth c R k) (Hp : qHp D A s ws tys σ H locs) (hL : qlr k ws L ls) (hS : qsr ws S st) (hc1 : cells + n0 = σ.1.length) (hc2 : slots + z0 = qsz σ.1) (hA : ∀ q, s.heap.size ≤ q → A q) (hNl : L.length = qNl k)
    (kk : ∀ (ws' : va_W) (tys' : List (ClassId × FieldType)) (H' : Heap) (locs' : List Loc) (ls' : Array Slot) (st' : List Value) (cells' slots' : Nat), qext ws ws' → qHp D A s ws' tys' σ' H' locs' → qlr k ws' L' ls' → qsr ws' S' st' → cells' + n0 = σ'.1.length → slots' + z0 = qsz σ'.1 → W p l e R s m args below meth c H' locs' cells' slots' Q (F0 m pc' ls' st')) :
    W p l e R s m args below meth c H locs cells slots Q (F0 m pc ls st) := by
  obtain ⟨hkN, hx, hb, hml, hown, hts, hret, hlk, hnm, hRf, hRl, hAO⟩ := C
  obtain ⟨hh, hP, hK, hD, hSS⟩ := Hp
  simp only [qstep] at hs
  split at hs <;> first | (cases hs; done) | skip
  rename_i x hx0
  simp only [Option.some.injEq, Prod.mk.injEq] at hs
  obtain ⟨rfl, rfl, rfl, rfl⟩ := hs
  simp only [qok, qdec, Bool.and_eq_true, Bool.or_eq_true, decide_eq_true_eq] at hok
  obtain ⟨v, hv, hl⟩ := hL.2.2.1 b _ hx0
  obtain ⟨rfl, hq⟩ := hv
  rcases hok with ⟨⟨h1, h2⟩, h3⟩ | ⟨h1, h2⟩
  · subst h2
    exact lv_iload_n hx hb h3 (qfin4 h1) hl (kk ws tys H locs ls _ cells slots qext_rf ⟨hh, hP, hK, hD, hSS⟩ hL ⟨⟨rfl, hq⟩, hS⟩ hc1 hc2)
  · subst h2
    exact lv_iload hx hb h1 hl (kk ws tys H locs ls _ cells slots qext_rf ⟨hh, hP, hK, hD, hSS⟩ hL ⟨⟨rfl, hq⟩, hS⟩ hc1 hc2)
theorem qs_2 {p : Program} {l : Launch} {e : Env} {R : Room} {s : State} {m : MethodId} {args : Array Value} {below : List Frame} {meth : Method} {c : Code} {H : Heap} {locs : List Loc} {cells slots : Nat} {Q : State → Prop} {D : va_G} {A : Nat → Prop} {k pc b nx : Nat} {a : Int} {cl : List Nat} {L S : List qA} {σ : qM} {pc' : Nat} {L' S' : List qA} {σ' : qM} {n0 z0 : Nat} {ws : va_W} {tys : List (ClassId × FieldType)} {ls : Array Slot} {st : List Value}
    (hok : qok k pc (2, a, b, cl, nx) = true) (hs : qstep 2 a b cl nx pc L S σ = some (pc', L', S', σ')) (hr1 : σ'.1.length ≤ n0 + R.cells) (hr2 : qsz σ'.1 ≤ z0 + R.slots) (C : qCtx p s m args meth c R k) (Hp : qHp D A s ws tys σ H locs) (hL : qlr k ws L ls) (hS : qsr ws S st) (hc1 : cells + n0 = σ.1.length) (hc2 : slots + z0 = qsz σ.1) (hA : ∀ q, s.heap.size ≤ q → A q) (hNl : L.length = qNl k)
    (kk : ∀ (ws' : va_W) (tys' : List (ClassId × FieldType)) (H' : Heap) (locs' : List Loc) (ls' : Array Slot) (st' : List Value) (cells' slots' : Nat), qext ws ws' → qHp D A s ws' tys' σ' H' locs' → qlr k ws' L' ls' → qsr ws' S' st' → cells' + n0 = σ'.1.length → slots' + z0 = qsz σ'.1 → W p l e R s m args below meth c H' locs' cells' slots' Q (F0 m pc' ls' st')) :
    W p l e R s m args below meth c H locs cells slots Q (F0 m pc ls st) := by
  obtain ⟨hkN, hx, hb, hml, hown, hts, hret, hlk, hnm, hRf, hRl, hAO⟩ := C
  obtain ⟨hh, hP, hK, hD, hSS⟩ := Hp
  simp only [qstep] at hs
  split at hs <;> first | (cases hs; done) | skip
  rename_i x hx0
  simp only [Option.some.injEq, Prod.mk.injEq] at hs
  obtain ⟨rfl, rfl, rfl, rfl⟩ := hs
  simp only [qok, qdec, Bool.and_eq_true, Bool.or_eq_true, decide_eq_true_eq] at hok
  obtain ⟨v, hv, hl⟩ := hL.2.2.1 b _ hx0
  obtain ⟨q, hq, rfl⟩ := hv
  rcases hok with ⟨⟨h1, h2⟩, h3⟩ | ⟨h1, h2⟩
  · subst h2
    exact lv_aload_n hx hb h3 (qfin4 h1) hl (kk ws tys H locs ls _ cells slots qext_rf ⟨hh, hP, hK, hD, hSS⟩ hL ⟨⟨q, hq, rfl⟩, hS⟩ hc1 hc2)
  · subst h2
    exact lv_aload hx hb h1 hl (kk ws tys H locs ls _ cells slots qext_rf ⟨hh, hP, hK, hD, hSS⟩ hL ⟨⟨q, hq, rfl⟩, hS⟩ hc1 hc2)
theorem qs_3 {p : Program} {l : Launch} {e : Env} {R : Room} {s : State} {m : MethodId} {args : Array Value} {below : List Frame} {meth : Method} {c : Code} {H : Heap} {locs : List Loc} {cells slots : Nat} {Q : State → Prop} {D : va_G} {A : Nat → Prop} {k pc b nx : Nat} {a : Int} {cl : List Nat} {L S : List qA} {σ : qM} {pc' : Nat} {L' S' : List qA} {σ' : qM} {n0 z0 : Nat} {ws : va_W} {tys : List (ClassId × FieldType)} {ls : Array Slot} {st : List Value}
    (hok : qok k pc (3, a, b, cl, nx) = true) (hs : qstep 3 a b cl nx pc L S σ = some (pc', L', S', σ')) (hr1 : σ'.1.length ≤ n0 + R.cells) (hr2 : qsz σ'.1 ≤ z0 + R.slots) (C : qCtx p s m args meth c R k) (Hp : qHp D A s ws tys σ H locs) (hL : qlr k ws L ls) (hS : qsr ws S st) (hc1 : cells + n0 = σ.1.length) (hc2 : slots + z0 = qsz σ.1) (hA : ∀ q, s.heap.size ≤ q → A q) (hNl : L.length = qNl k)
    (kk : ∀ (ws' : va_W) (tys' : List (ClassId × FieldType)) (H' : Heap) (locs' : List Loc) (ls' : Array Slot) (st' : List Value) (cells' slots' : Nat), qext ws ws' → qHp D A s ws' tys' σ' H' locs' → qlr k ws' L' ls' → qsr ws' S' st' → cells' + n0 = σ'.1.length → slots' + z0 = qsz σ'.1 → W p l e R s m args below meth c H' locs' cells' slots' Q (F0 m pc' ls' st')) :
    W p l e R s m args below meth c H locs cells slots Q (F0 m pc ls st) := by
  obtain ⟨hkN, hx, hb, hml, hown, hts, hret, hlk, hnm, hRf, hRl, hAO⟩ := C
  obtain ⟨hh, hP, hK, hD, hSS⟩ := Hp
  simp only [qstep] at hs
  split at hs <;> first | (cases hs; done) | skip
  rename_i x S1
  rw [Option.ite_none_right_eq_some] at hs
  obtain ⟨hbl, hs⟩ := hs
  simp only [Option.some.injEq, Prod.mk.injEq] at hs
  obtain ⟨rfl, rfl, rfl, rfl⟩ := hs
  simp only [qok, qdec, Bool.and_eq_true, Bool.or_eq_true, decide_eq_true_eq] at hok
  obtain ⟨st, rfl, hq, hS⟩ := qsr_int hS
  have hbl : b < ls.size := by rw [hL.1]; exact hbl
  obtain ⟨hok, hnb⟩ := hok
  rcases hok with ⟨⟨h1, h2⟩, h3⟩ | ⟨h1, h2⟩
  · subst h2
    exact lv_istore_n hx hb h3 (qfin4 h1) (qlv_has hL.2.1) hbl rfl (fun ls' hl' => kk ws tys H locs ls' _ cells slots qext_rf ⟨hh, hP, hK, hD, hSS⟩ (qlr_set hL ⟨rfl, hq⟩ rfl hnb hl') hS hc1 hc2)
  · subst h2
    exact lv_istore hx hb h1 (qlv_has hL.2.1) hbl rfl (fun ls' hl' => kk ws tys H locs ls' _ cells slots qext_rf ⟨hh, hP, hK, hD, hSS⟩ (qlr_set hL ⟨rfl, hq⟩ rfl hnb hl') hS hc1 hc2)
theorem qs_4 {p : Program} {l : Launch} {e : Env} {R : Room} {s : State} {m : MethodId} {args : Array Value} {below : List Frame} {meth : Method} {c : Code} {H : Heap} {locs : List Loc} {cells slots : Nat} {Q : State → Prop} {D : va_G} {A : Nat → Prop} {k pc b nx : Nat} {a : Int} {cl : List Nat} {L S : List qA} {σ : qM} {pc' : Nat} {L' S' : List qA} {σ' : qM} {n0 z0 : Nat} {ws : va_W} {tys : List (ClassId × FieldType)} {ls : Array Slot} {st : List Value}
    (hok : qok k pc (4, a, b, cl, nx) = true) (hs : qstep 4 a b cl nx pc L S σ = some (pc', L', S', σ')) (hr1 : σ'.1.length ≤ n0 + R.cells) (hr2 : qsz σ'.1 ≤ z0 + R.slots) (C : qCtx p s m args meth c R k) (Hp : qHp D A s ws tys σ H locs) (hL : qlr k ws L ls) (hS : qsr ws S st) (hc1 : cells + n0 = σ.1.length) (hc2 : slots + z0 = qsz σ.1) (hA : ∀ q, s.heap.size ≤ q → A q) (hNl : L.length = qNl k)
    (kk : ∀ (ws' : va_W) (tys' : List (ClassId × FieldType)) (H' : Heap) (locs' : List Loc) (ls' : Array Slot) (st' : List Value) (cells' slots' : Nat), qext ws ws' → qHp D A s ws' tys' σ' H' locs' → qlr k ws' L' ls' → qsr ws' S' st' → cells' + n0 = σ'.1.length → slots' + z0 = qsz σ'.1 → W p l e R s m args below meth c H' locs' cells' slots' Q (F0 m pc' ls' st')) :
    W p l e R s m args below meth c H locs cells slots Q (F0 m pc ls st) := by
  obtain ⟨hkN, hx, hb, hml, hown, hts, hret, hlk, hnm, hRf, hRl, hAO⟩ := C
  obtain ⟨hh, hP, hK, hD, hSS⟩ := Hp
  simp only [qstep] at hs
  split at hs <;> first | (cases hs; done) | skip
  rename_i x S1
  rw [Option.ite_none_right_eq_some] at hs
  obtain ⟨hbl, hs⟩ := hs
  simp only [Option.some.injEq, Prod.mk.injEq] at hs
  obtain ⟨rfl, rfl, rfl, rfl⟩ := hs
  simp only [qok, qdec, Bool.and_eq_true, Bool.or_eq_true, decide_eq_true_eq] at hok
  obtain ⟨q, st, rfl, hq, hS⟩ := qsr_ref hS
  have hbl : b < ls.size := by rw [hL.1]; exact hbl
  obtain ⟨hok, hnb⟩ := hok
  rcases hok with ⟨⟨h1, h2⟩, h3⟩ | ⟨h1, h2⟩
  · subst h2
    exact lv_astore_n hx hb h3 (qfin4 h1) (qlv_has hL.2.1) hbl rfl (fun ls' hl' => kk ws tys H locs ls' _ cells slots qext_rf ⟨hh, hP, hK, hD, hSS⟩ (qlr_set hL ⟨q, hq, rfl⟩ rfl hnb hl') hS hc1 hc2)
  · subst h2
    exact lv_astore hx hb h1 (qlv_has hL.2.1) hbl rfl (fun ls' hl' => kk ws tys H locs ls' _ cells slots qext_rf ⟨hh, hP, hK, hD, hSS⟩ (qlr_set hL ⟨q, hq, rfl⟩ rfl hnb hl') hS hc1 hc2)
theorem qs_5 {p : Program} {l : Launch} {e : Env} {R : Room} {s : State} {m : MethodId} {args : Array Value} {below : List Frame} {meth : Method} {c : Code} {H : Heap} {locs : List Loc} {cells slots : Nat} {Q : State → Prop} {D : va_G} {A : Nat → Prop} {k pc b nx : Nat} {a : Int} {cl : List Nat} {L S : List qA} {σ : qM} {pc' : Nat} {L' S' : List qA} {σ' : qM} {n0 z0 : Nat} {ws : va_W} {tys : List (ClassId × FieldType)} {ls : Array Slot} {st : List Value}
    (hok : qok k pc (5, a, b, cl, nx) = true) (hs : qstep 5 a b cl nx pc L S σ = some (pc', L', S', σ')) (hr1 : σ'.1.length ≤ n0 + R.cells) (hr2 : qsz σ'.1 ≤ z0 + R.slots) (C : qCtx p s m args meth c R k) (Hp : qHp D A s ws tys σ H locs) (hL : qlr k ws L ls) (hS : qsr ws S st) (hc1 : cells + n0 = σ.1.length) (hc2 : slots + z0 = qsz σ.1) (hA : ∀ q, s.heap.size ≤ q → A q) (hNl : L.length = qNl k)
    (kk : ∀ (ws' : va_W) (tys' : List (ClassId × FieldType)) (H' : Heap) (locs' : List Loc) (ls' : Array Slot) (st' : List Value) (cells' slots' : Nat), qext ws ws' → qHp D A s ws' tys' σ' H' locs' → qlr k ws' L' ls' → qsr ws' S' st' → cells' + n0 = σ'.1.length → slots' + z0 = qsz σ'.1 → W p l e R s m args below meth c H' locs' cells' slots' Q (F0 m pc' ls' st')) :
    W p l e R s m args below meth c H locs cells slots Q (F0 m pc ls st) := by
  obtain ⟨hkN, hx, hb, hml, hown, hts, hret, hlk, hnm, hRf, hRl, hAO⟩ := C
  obtain ⟨hh, hP, hK, hD, hSS⟩ := Hp
  simp only [qstep] at hs
  split at hs <;> first | (cases hs; done) | skip
  rename_i x hx0
  rw [Option.ite_none_right_eq_some] at hs
  obtain ⟨hq2, hs⟩ := hs
  simp only [Option.some.injEq, Prod.mk.injEq] at hs
  obtain ⟨rfl, rfl, rfl, rfl⟩ := hs
  simp only [qok, qdec, Bool.and_eq_true, Bool.or_eq_true, decide_eq_true_eq] at hok
  obtain ⟨v, hv, hl⟩ := hL.2.2.1 b _ hx0
  obtain ⟨rfl, hq⟩ := hv
  obtain ⟨⟨h1, h2⟩, hnb⟩ := hok
  subst h2
  obtain ⟨i, hi⟩ := qmem_at (qlv_mem.mpr hl)
  exact lv_iinc hx hb h1 (qlv_has hL.2.1) hi (Int32.ofInt_add x a).symm ((Array.getElem?_eq_some_iff.mp hl).1) rfl (fun ls' hl' => kk ws tys H locs ls' _ cells slots qext_rf ⟨hh, hP, hK, hD, hSS⟩ (qlr_set hL ⟨rfl, hq2⟩ rfl hnb hl') hS hc1 hc2)
theorem qs_6 {p : Program} {l : Launch} {e : Env} {R : Room} {s : State} {m : MethodId} {args : Array Value} {below : List Frame} {meth : Method} {c : Code} {H : Heap} {locs : List Loc} {cells slots : Nat} {Q : State → Prop} {D : va_G} {A : Nat → Prop} {k pc b nx : Nat} {a : Int} {cl : List Nat} {L S : List qA} {σ : qM} {pc' : Nat} {L' S' : List qA} {σ' : qM} {n0 z0 : Nat} {ws : va_W} {tys : List (ClassId × FieldType)} {ls : Array Slot} {st : List Value}
    (hok : qok k pc (6, a, b, cl, nx) = true) (hs : qstep 6 a b cl nx pc L S σ = some (pc', L', S', σ')) (hr1 : σ'.1.length ≤ n0 + R.cells) (hr2 : qsz σ'.1 ≤ z0 + R.slots) (C : qCtx p s m args meth c R k) (Hp : qHp D A s ws tys σ H locs) (hL : qlr k ws L ls) (hS : qsr ws S st) (hc1 : cells + n0 = σ.1.length) (hc2 : slots + z0 = qsz σ.1) (hA : ∀ q, s.heap.size ≤ q → A q) (hNl : L.length = qNl k)
    (kk : ∀ (ws' : va_W) (tys' : List (ClassId × FieldType)) (H' : Heap) (locs' : List Loc) (ls' : Array Slot) (st' : List Value) (cells' slots' : Nat), qext ws ws' → qHp D A s ws' tys' σ' H' locs' → qlr k ws' L' ls' → qsr ws' S' st' → cells' + n0 = σ'.1.length → slots' + z0 = qsz σ'.1 → W p l e R s m args below meth c H' locs' cells' slots' Q (F0 m pc' ls' st')) :
    W p l e R s m args below meth c H locs cells slots Q (F0 m pc ls st) := by
  obtain ⟨hkN, hx, hb, hml, hown, hts, hret, hlk, hnm, hRf, hRl, hAO⟩ := C
  obtain ⟨hh, hP, hK, hD, hSS⟩ := Hp
  simp only [qstep] at hs
  split at hs <;> first | (cases hs; done) | skip
  rename_i y x S1
  rw [Option.ite_none_right_eq_some] at hs
  obtain ⟨hq2, hs⟩ := hs
  simp only [Option.some.injEq, Prod.mk.injEq] at hs
  obtain ⟨rfl, rfl, rfl, rfl⟩ := hs
  simp only [qok, qdec, Bool.and_eq_true, Bool.or_eq_true, decide_eq_true_eq] at hok
  obtain ⟨st, rfl, hq, hS⟩ := qsr_int hS
  obtain ⟨st, rfl, hq1, hS⟩ := qsr_int hS
  obtain ⟨h1, h2⟩ := hok
  subst h2
  exact lv_iadd hx hb h1 (kk ws tys H locs ls _ cells slots qext_rf ⟨hh, hP, hK, hD, hSS⟩ hL ⟨⟨by rw [Int32.ofInt_add], hq2⟩, hS⟩ hc1 hc2)
theorem qs_7 {p : Program} {l : Launch} {e : Env} {R : Room} {s : State} {m : MethodId} {args : Array Value} {below : List Frame} {meth : Method} {c : Code} {H : Heap} {locs : List Loc} {cells slots : Nat} {Q : State → Prop} {D : va_G} {A : Nat → Prop} {k pc b nx : Nat} {a : Int} {cl : List Nat} {L S : List qA} {σ : qM} {pc' : Nat} {L' S' : List qA} {σ' : qM} {n0 z0 : Nat} {ws : va_W} {tys : List (ClassId × FieldType)} {ls : Array Slot} {st : List Value}
    (hok : qok k pc (7, a, b, cl, nx) = true) (hs : qstep 7 a b cl nx pc L S σ = some (pc', L', S', σ')) (hr1 : σ'.1.length ≤ n0 + R.cells) (hr2 : qsz σ'.1 ≤ z0 + R.slots) (C : qCtx p s m args meth c R k) (Hp : qHp D A s ws tys σ H locs) (hL : qlr k ws L ls) (hS : qsr ws S st) (hc1 : cells + n0 = σ.1.length) (hc2 : slots + z0 = qsz σ.1) (hA : ∀ q, s.heap.size ≤ q → A q) (hNl : L.length = qNl k)
    (kk : ∀ (ws' : va_W) (tys' : List (ClassId × FieldType)) (H' : Heap) (locs' : List Loc) (ls' : Array Slot) (st' : List Value) (cells' slots' : Nat), qext ws ws' → qHp D A s ws' tys' σ' H' locs' → qlr k ws' L' ls' → qsr ws' S' st' → cells' + n0 = σ'.1.length → slots' + z0 = qsz σ'.1 → W p l e R s m args below meth c H' locs' cells' slots' Q (F0 m pc' ls' st')) :
    W p l e R s m args below meth c H locs cells slots Q (F0 m pc ls st) := by
  obtain ⟨hkN, hx, hb, hml, hown, hts, hret, hlk, hnm, hRf, hRl, hAO⟩ := C
  obtain ⟨hh, hP, hK, hD, hSS⟩ := Hp
  simp only [qstep] at hs
  split at hs <;> first | (cases hs; done) | skip
  rename_i y x S1
  rw [Option.ite_none_right_eq_some] at hs
  obtain ⟨hq2, hs⟩ := hs
  simp only [Option.some.injEq, Prod.mk.injEq] at hs
  obtain ⟨rfl, rfl, rfl, rfl⟩ := hs
  simp only [qok, qdec, Bool.and_eq_true, Bool.or_eq_true, decide_eq_true_eq] at hok
  obtain ⟨st, rfl, hq, hS⟩ := qsr_int hS
  obtain ⟨st, rfl, hq1, hS⟩ := qsr_int hS
  obtain ⟨h1, h2⟩ := hok
  subst h2
  exact lv_isub hx hb h1 (kk ws tys H locs ls _ cells slots qext_rf ⟨hh, hP, hK, hD, hSS⟩ hL ⟨⟨by rw [Int32.ofInt_sub], hq2⟩, hS⟩ hc1 hc2)
theorem qs_8 {p : Program} {l : Launch} {e : Env} {R : Room} {s : State} {m : MethodId} {args : Array Value} {below : List Frame} {meth : Method} {c : Code} {H : Heap} {locs : List Loc} {cells slots : Nat} {Q : State → Prop} {D : va_G} {A : Nat → Prop} {k pc b nx : Nat} {a : Int} {cl : List Nat} {L S : List qA} {σ : qM} {pc' : Nat} {L' S' : List qA} {σ' : qM} {n0 z0 : Nat} {ws : va_W} {tys : List (ClassId × FieldType)} {ls : Array Slot} {st : List Value}
    (hok : qok k pc (8, a, b, cl, nx) = true) (hs : qstep 8 a b cl nx pc L S σ = some (pc', L', S', σ')) (hr1 : σ'.1.length ≤ n0 + R.cells) (hr2 : qsz σ'.1 ≤ z0 + R.slots) (C : qCtx p s m args meth c R k) (Hp : qHp D A s ws tys σ H locs) (hL : qlr k ws L ls) (hS : qsr ws S st) (hc1 : cells + n0 = σ.1.length) (hc2 : slots + z0 = qsz σ.1) (hA : ∀ q, s.heap.size ≤ q → A q) (hNl : L.length = qNl k)
    (kk : ∀ (ws' : va_W) (tys' : List (ClassId × FieldType)) (H' : Heap) (locs' : List Loc) (ls' : Array Slot) (st' : List Value) (cells' slots' : Nat), qext ws ws' → qHp D A s ws' tys' σ' H' locs' → qlr k ws' L' ls' → qsr ws' S' st' → cells' + n0 = σ'.1.length → slots' + z0 = qsz σ'.1 → W p l e R s m args below meth c H' locs' cells' slots' Q (F0 m pc' ls' st')) :
    W p l e R s m args below meth c H locs cells slots Q (F0 m pc ls st) := by
  obtain ⟨hkN, hx, hb, hml, hown, hts, hret, hlk, hnm, hRf, hRl, hAO⟩ := C
  obtain ⟨hh, hP, hK, hD, hSS⟩ := Hp
  simp only [qstep] at hs
  split at hs <;> first | (cases hs; done) | skip
  rename_i y x S1
  rw [Option.ite_none_right_eq_some] at hs
  obtain ⟨hq2, hs⟩ := hs
  simp only [Option.some.injEq, Prod.mk.injEq] at hs
  obtain ⟨rfl, rfl, rfl, rfl⟩ := hs
  simp only [qok, qdec, Bool.and_eq_true, Bool.or_eq_true, decide_eq_true_eq] at hok
  obtain ⟨st, rfl, hq, hS⟩ := qsr_int hS
  obtain ⟨st, rfl, hq1, hS⟩ := qsr_int hS
  obtain ⟨h1, h2⟩ := hok
  subst h2
  exact lv_imul hx hb h1 (kk ws tys H locs ls _ cells slots qext_rf ⟨hh, hP, hK, hD, hSS⟩ hL ⟨⟨by rw [Int32.ofInt_mul], hq2⟩, hS⟩ hc1 hc2)
theorem qs_9 {p : Program} {l : Launch} {e : Env} {R : Room} {s : State} {m : MethodId} {args : Array Value} {below : List Frame} {meth : Method} {c : Code} {H : Heap} {locs : List Loc} {cells slots : Nat} {Q : State → Prop} {D : va_G} {A : Nat → Prop} {k pc b nx : Nat} {a : Int} {cl : List Nat} {L S : List qA} {σ : qM} {pc' : Nat} {L' S' : List qA} {σ' : qM} {n0 z0 : Nat} {ws : va_W} {tys : List (ClassId × FieldType)} {ls : Array Slot} {st : List Value}
    (hok : qok k pc (9, a, b, cl, nx) = true) (hs : qstep 9 a b cl nx pc L S σ = some (pc', L', S', σ')) (hr1 : σ'.1.length ≤ n0 + R.cells) (hr2 : qsz σ'.1 ≤ z0 + R.slots) (C : qCtx p s m args meth c R k) (Hp : qHp D A s ws tys σ H locs) (hL : qlr k ws L ls) (hS : qsr ws S st) (hc1 : cells + n0 = σ.1.length) (hc2 : slots + z0 = qsz σ.1) (hA : ∀ q, s.heap.size ≤ q → A q) (hNl : L.length = qNl k)
    (kk : ∀ (ws' : va_W) (tys' : List (ClassId × FieldType)) (H' : Heap) (locs' : List Loc) (ls' : Array Slot) (st' : List Value) (cells' slots' : Nat), qext ws ws' → qHp D A s ws' tys' σ' H' locs' → qlr k ws' L' ls' → qsr ws' S' st' → cells' + n0 = σ'.1.length → slots' + z0 = qsz σ'.1 → W p l e R s m args below meth c H' locs' cells' slots' Q (F0 m pc' ls' st')) :
    W p l e R s m args below meth c H locs cells slots Q (F0 m pc ls st) := by
  obtain ⟨hkN, hx, hb, hml, hown, hts, hret, hlk, hnm, hRf, hRl, hAO⟩ := C
  obtain ⟨hh, hP, hK, hD, hSS⟩ := Hp
  simp only [qstep] at hs
  split at hs <;> first | (cases hs; done) | skip
  rename_i y x S1
  rw [Option.ite_none_right_eq_some] at hs
  obtain ⟨⟨hx1, hy1⟩, hs⟩ := hs
  simp only [Option.some.injEq, Prod.mk.injEq] at hs
  obtain ⟨rfl, rfl, rfl, rfl⟩ := hs
  simp only [qok, qdec, Bool.and_eq_true, Bool.or_eq_true, decide_eq_true_eq] at hok
  obtain ⟨st, rfl, hq, hS⟩ := qsr_int hS
  obtain ⟨st, rfl, hq1, hS⟩ := qsr_int hS
  obtain ⟨h1, h2⟩ := hok
  subst h2
  obtain ⟨e1, e2⟩ := qdiv hx1 hy1 hq1 hq
  exact lv_idiv hx hb h1 (fun h0 => absurd ((qeq hq q0in).mp h0) (by omega)) (kk ws tys H locs ls _ cells slots qext_rf ⟨hh, hP, hK, hD, hSS⟩ hL ⟨⟨by rw [e1], e2⟩, hS⟩ hc1 hc2)
theorem qs_10 {p : Program} {l : Launch} {e : Env} {R : Room} {s : State} {m : MethodId} {args : Array Value} {below : List Frame} {meth : Method} {c : Code} {H : Heap} {locs : List Loc} {cells slots : Nat} {Q : State → Prop} {D : va_G} {A : Nat → Prop} {k pc b nx : Nat} {a : Int} {cl : List Nat} {L S : List qA} {σ : qM} {pc' : Nat} {L' S' : List qA} {σ' : qM} {n0 z0 : Nat} {ws : va_W} {tys : List (ClassId × FieldType)} {ls : Array Slot} {st : List Value}
    (hok : qok k pc (10, a, b, cl, nx) = true) (hs : qstep 10 a b cl nx pc L S σ = some (pc', L', S', σ')) (hr1 : σ'.1.length ≤ n0 + R.cells) (hr2 : qsz σ'.1 ≤ z0 + R.slots) (C : qCtx p s m args meth c R k) (Hp : qHp D A s ws tys σ H locs) (hL : qlr k ws L ls) (hS : qsr ws S st) (hc1 : cells + n0 = σ.1.length) (hc2 : slots + z0 = qsz σ.1) (hA : ∀ q, s.heap.size ≤ q → A q) (hNl : L.length = qNl k)
    (kk : ∀ (ws' : va_W) (tys' : List (ClassId × FieldType)) (H' : Heap) (locs' : List Loc) (ls' : Array Slot) (st' : List Value) (cells' slots' : Nat), qext ws ws' → qHp D A s ws' tys' σ' H' locs' → qlr k ws' L' ls' → qsr ws' S' st' → cells' + n0 = σ'.1.length → slots' + z0 = qsz σ'.1 → W p l e R s m args below meth c H' locs' cells' slots' Q (F0 m pc' ls' st')) :
    W p l e R s m args below meth c H locs cells slots Q (F0 m pc ls st) := by
  obtain ⟨hkN, hx, hb, hml, hown, hts, hret, hlk, hnm, hRf, hRl, hAO⟩ := C
  obtain ⟨hh, hP, hK, hD, hSS⟩ := Hp
  simp only [qstep] at hs
  split at hs <;> first | (cases hs; done) | skip
  rename_i y x S1
  rw [Option.ite_none_right_eq_some] at hs
  obtain ⟨⟨hx1, hy1⟩, hs⟩ := hs
  simp only [Option.some.injEq, Prod.mk.injEq] at hs
  obtain ⟨rfl, rfl, rfl, rfl⟩ := hs
  simp only [qok, qdec, Bool.and_eq_true, Bool.or_eq_true, decide_eq_true_eq] at hok
  obtain ⟨st, rfl, hq, hS⟩ := qsr_int hS
  obtain ⟨st, rfl, hq1, hS⟩ := qsr_int hS
  obtain ⟨h1, h2⟩ := hok
  subst h2
  obtain ⟨e1, e2⟩ := qrem hx1 hy1 hq1 hq
  exact lv_irem hx hb h1 (fun h0 => absurd ((qeq hq q0in).mp h0) (by omega)) (kk ws tys H locs ls _ cells slots qext_rf ⟨hh, hP, hK, hD, hSS⟩ hL ⟨⟨by rw [e1], e2⟩, hS⟩ hc1 hc2)
theorem qs_12 {p : Program} {l : Launch} {e : Env} {R : Room} {s : State} {m : MethodId} {args : Array Value} {below : List Frame} {meth : Method} {c : Code} {H : Heap} {locs : List Loc} {cells slots : Nat} {Q : State → Prop} {D : va_G} {A : Nat → Prop} {k pc b nx : Nat} {a : Int} {cl : List Nat} {L S : List qA} {σ : qM} {pc' : Nat} {L' S' : List qA} {σ' : qM} {n0 z0 : Nat} {ws : va_W} {tys : List (ClassId × FieldType)} {ls : Array Slot} {st : List Value}
    (hok : qok k pc (12, a, b, cl, nx) = true) (hs : qstep 12 a b cl nx pc L S σ = some (pc', L', S', σ')) (hr1 : σ'.1.length ≤ n0 + R.cells) (hr2 : qsz σ'.1 ≤ z0 + R.slots) (C : qCtx p s m args meth c R k) (Hp : qHp D A s ws tys σ H locs) (hL : qlr k ws L ls) (hS : qsr ws S st) (hc1 : cells + n0 = σ.1.length) (hc2 : slots + z0 = qsz σ.1) (hA : ∀ q, s.heap.size ≤ q → A q) (hNl : L.length = qNl k)
    (kk : ∀ (ws' : va_W) (tys' : List (ClassId × FieldType)) (H' : Heap) (locs' : List Loc) (ls' : Array Slot) (st' : List Value) (cells' slots' : Nat), qext ws ws' → qHp D A s ws' tys' σ' H' locs' → qlr k ws' L' ls' → qsr ws' S' st' → cells' + n0 = σ'.1.length → slots' + z0 = qsz σ'.1 → W p l e R s m args below meth c H' locs' cells' slots' Q (F0 m pc' ls' st')) :
    W p l e R s m args below meth c H locs cells slots Q (F0 m pc ls st) := by
  obtain ⟨hkN, hx, hb, hml, hown, hts, hret, hlk, hnm, hRf, hRl, hAO⟩ := C
  obtain ⟨hh, hP, hK, hD, hSS⟩ := Hp
  simp only [qstep] at hs
  split at hs <;> first | (cases hs; done) | skip
  rename_i x S1
  rw [Option.ite_none_right_eq_some] at hs
  obtain ⟨hx1, hs⟩ := hs
  simp only [Option.some.injEq, Prod.mk.injEq] at hs
  obtain ⟨rfl, rfl, rfl, rfl⟩ := hs
  simp only [qok, qdec, Bool.and_eq_true, Bool.or_eq_true, decide_eq_true_eq] at hok
  obtain ⟨v, st, rfl, hv, hS⟩ := qsr_cons hS
  obtain ⟨h1, h2⟩ := hok
  subst h2
  exact lv_dup hx hb h1 (qvr_cat hv hx1) (kk ws tys H locs ls _ cells slots qext_rf ⟨hh, hP, hK, hD, hSS⟩ hL ⟨hv, hv, hS⟩ hc1 hc2)
theorem qs_13 {p : Program} {l : Launch} {e : Env} {R : Room} {s : State} {m : MethodId} {args : Array Value} {below : List Frame} {meth : Method} {c : Code} {H : Heap} {locs : List Loc} {cells slots : Nat} {Q : State → Prop} {D : va_G} {A : Nat → Prop} {k pc b nx : Nat} {a : Int} {cl : List Nat} {L S : List qA} {σ : qM} {pc' : Nat} {L' S' : List qA} {σ' : qM} {n0 z0 : Nat} {ws : va_W} {tys : List (ClassId × FieldType)} {ls : Array Slot} {st : List Value}
    (hok : qok k pc (13, a, b, cl, nx) = true) (hs : qstep 13 a b cl nx pc L S σ = some (pc', L', S', σ')) (hr1 : σ'.1.length ≤ n0 + R.cells) (hr2 : qsz σ'.1 ≤ z0 + R.slots) (C : qCtx p s m args meth c R k) (Hp : qHp D A s ws tys σ H locs) (hL : qlr k ws L ls) (hS : qsr ws S st) (hc1 : cells + n0 = σ.1.length) (hc2 : slots + z0 = qsz σ.1) (hA : ∀ q, s.heap.size ≤ q → A q) (hNl : L.length = qNl k)
    (kk : ∀ (ws' : va_W) (tys' : List (ClassId × FieldType)) (H' : Heap) (locs' : List Loc) (ls' : Array Slot) (st' : List Value) (cells' slots' : Nat), qext ws ws' → qHp D A s ws' tys' σ' H' locs' → qlr k ws' L' ls' → qsr ws' S' st' → cells' + n0 = σ'.1.length → slots' + z0 = qsz σ'.1 → W p l e R s m args below meth c H' locs' cells' slots' Q (F0 m pc' ls' st')) :
    W p l e R s m args below meth c H locs cells slots Q (F0 m pc ls st) := by
  obtain ⟨hkN, hx, hb, hml, hown, hts, hret, hlk, hnm, hRf, hRl, hAO⟩ := C
  obtain ⟨hh, hP, hK, hD, hSS⟩ := Hp
  simp only [qstep] at hs
  split at hs <;> first | (cases hs; done) | skip
  rename_i x y S1
  rw [Option.ite_none_right_eq_some] at hs
  obtain ⟨⟨hx1, hy1⟩, hs⟩ := hs
  simp only [Option.some.injEq, Prod.mk.injEq] at hs
  obtain ⟨rfl, rfl, rfl, rfl⟩ := hs
  simp only [qok, qdec, Bool.and_eq_true, Bool.or_eq_true, decide_eq_true_eq] at hok
  obtain ⟨v, st, rfl, hv, hS⟩ := qsr_cons hS
  obtain ⟨w, st, rfl, hw, hS⟩ := qsr_cons hS
  obtain ⟨h1, h2⟩ := hok
  subst h2
  exact lv_dup2_11 hx hb h1 (by first | exact qvr_cat hv hx1 | exact qvr_cat hw hy1) (by first | exact qvr_cat hw hy1 | exact qvr_cat hv hx1) (kk ws tys H locs ls _ cells slots qext_rf ⟨hh, hP, hK, hD, hSS⟩ hL ⟨hv, hw, hv, hw, hS⟩ hc1 hc2)
theorem qs_14 {p : Program} {l : Launch} {e : Env} {R : Room} {s : State} {m : MethodId} {args : Array Value} {below : List Frame} {meth : Method} {c : Code} {H : Heap} {locs : List Loc} {cells slots : Nat} {Q : State → Prop} {D : va_G} {A : Nat → Prop} {k pc b nx : Nat} {a : Int} {cl : List Nat} {L S : List qA} {σ : qM} {pc' : Nat} {L' S' : List qA} {σ' : qM} {n0 z0 : Nat} {ws : va_W} {tys : List (ClassId × FieldType)} {ls : Array Slot} {st : List Value}
    (hok : qok k pc (14, a, b, cl, nx) = true) (hs : qstep 14 a b cl nx pc L S σ = some (pc', L', S', σ')) (hr1 : σ'.1.length ≤ n0 + R.cells) (hr2 : qsz σ'.1 ≤ z0 + R.slots) (C : qCtx p s m args meth c R k) (Hp : qHp D A s ws tys σ H locs) (hL : qlr k ws L ls) (hS : qsr ws S st) (hc1 : cells + n0 = σ.1.length) (hc2 : slots + z0 = qsz σ.1) (hA : ∀ q, s.heap.size ≤ q → A q) (hNl : L.length = qNl k)
    (kk : ∀ (ws' : va_W) (tys' : List (ClassId × FieldType)) (H' : Heap) (locs' : List Loc) (ls' : Array Slot) (st' : List Value) (cells' slots' : Nat), qext ws ws' → qHp D A s ws' tys' σ' H' locs' → qlr k ws' L' ls' → qsr ws' S' st' → cells' + n0 = σ'.1.length → slots' + z0 = qsz σ'.1 → W p l e R s m args below meth c H' locs' cells' slots' Q (F0 m pc' ls' st')) :
    W p l e R s m args below meth c H locs cells slots Q (F0 m pc ls st) := by
  obtain ⟨hkN, hx, hb, hml, hown, hts, hret, hlk, hnm, hRf, hRl, hAO⟩ := C
  obtain ⟨hh, hP, hK, hD, hSS⟩ := Hp
  simp only [qstep] at hs
  split at hs <;> first | (cases hs; done) | skip
  rename_i x S1
  rw [Option.ite_none_right_eq_some] at hs
  obtain ⟨hx1, hs⟩ := hs
  simp only [Option.some.injEq, Prod.mk.injEq] at hs
  obtain ⟨rfl, rfl, rfl, rfl⟩ := hs
  simp only [qok, qdec, Bool.and_eq_true, Bool.or_eq_true, decide_eq_true_eq] at hok
  obtain ⟨v, st, rfl, hv, hS⟩ := qsr_cons hS
  obtain ⟨h1, h2⟩ := hok
  subst h2
  exact lv_pop hx hb h1 (qvr_cat hv hx1) (kk ws tys H locs ls _ cells slots qext_rf ⟨hh, hP, hK, hD, hSS⟩ hL hS hc1 hc2)
theorem qs_15 {p : Program} {l : Launch} {e : Env} {R : Room} {s : State} {m : MethodId} {args : Array Value} {below : List Frame} {meth : Method} {c : Code} {H : Heap} {locs : List Loc} {cells slots : Nat} {Q : State → Prop} {D : va_G} {A : Nat → Prop} {k pc b nx : Nat} {a : Int} {cl : List Nat} {L S : List qA} {σ : qM} {pc' : Nat} {L' S' : List qA} {σ' : qM} {n0 z0 : Nat} {ws : va_W} {tys : List (ClassId × FieldType)} {ls : Array Slot} {st : List Value}
    (hok : qok k pc (15, a, b, cl, nx) = true) (hs : qstep 15 a b cl nx pc L S σ = some (pc', L', S', σ')) (hr1 : σ'.1.length ≤ n0 + R.cells) (hr2 : qsz σ'.1 ≤ z0 + R.slots) (C : qCtx p s m args meth c R k) (Hp : qHp D A s ws tys σ H locs) (hL : qlr k ws L ls) (hS : qsr ws S st) (hc1 : cells + n0 = σ.1.length) (hc2 : slots + z0 = qsz σ.1) (hA : ∀ q, s.heap.size ≤ q → A q) (hNl : L.length = qNl k)
    (kk : ∀ (ws' : va_W) (tys' : List (ClassId × FieldType)) (H' : Heap) (locs' : List Loc) (ls' : Array Slot) (st' : List Value) (cells' slots' : Nat), qext ws ws' → qHp D A s ws' tys' σ' H' locs' → qlr k ws' L' ls' → qsr ws' S' st' → cells' + n0 = σ'.1.length → slots' + z0 = qsz σ'.1 → W p l e R s m args below meth c H' locs' cells' slots' Q (F0 m pc' ls' st')) :
    W p l e R s m args below meth c H locs cells slots Q (F0 m pc ls st) := by
  obtain ⟨hkN, hx, hb, hml, hown, hts, hret, hlk, hnm, hRf, hRl, hAO⟩ := C
  obtain ⟨hh, hP, hK, hD, hSS⟩ := Hp
  simp only [qstep] at hs
  simp only [Option.some.injEq, Prod.mk.injEq] at hs
  obtain ⟨rfl, rfl, rfl, rfl⟩ := hs
  simp only [qok, qdec, Bool.and_eq_true, Bool.or_eq_true, decide_eq_true_eq] at hok
  exact lv_goto hx hb hok (by omega) (kk ws tys H locs ls _ cells slots qext_rf ⟨hh, hP, hK, hD, hSS⟩ hL hS hc1 hc2)
theorem qs_16 {p : Program} {l : Launch} {e : Env} {R : Room} {s : State} {m : MethodId} {args : Array Value} {below : List Frame} {meth : Method} {c : Code} {H : Heap} {locs : List Loc} {cells slots : Nat} {Q : State → Prop} {D : va_G} {A : Nat → Prop} {k pc b nx : Nat} {a : Int} {cl : List Nat} {L S : List qA} {σ : qM} {pc' : Nat} {L' S' : List qA} {σ' : qM} {n0 z0 : Nat} {ws : va_W} {tys : List (ClassId × FieldType)} {ls : Array Slot} {st : List Value}
    (hok : qok k pc (16, a, b, cl, nx) = true) (hs : qstep 16 a b cl nx pc L S σ = some (pc', L', S', σ')) (hr1 : σ'.1.length ≤ n0 + R.cells) (hr2 : qsz σ'.1 ≤ z0 + R.slots) (C : qCtx p s m args meth c R k) (Hp : qHp D A s ws tys σ H locs) (hL : qlr k ws L ls) (hS : qsr ws S st) (hc1 : cells + n0 = σ.1.length) (hc2 : slots + z0 = qsz σ.1) (hA : ∀ q, s.heap.size ≤ q → A q) (hNl : L.length = qNl k)
    (kk : ∀ (ws' : va_W) (tys' : List (ClassId × FieldType)) (H' : Heap) (locs' : List Loc) (ls' : Array Slot) (st' : List Value) (cells' slots' : Nat), qext ws ws' → qHp D A s ws' tys' σ' H' locs' → qlr k ws' L' ls' → qsr ws' S' st' → cells' + n0 = σ'.1.length → slots' + z0 = qsz σ'.1 → W p l e R s m args below meth c H' locs' cells' slots' Q (F0 m pc' ls' st')) :
    W p l e R s m args below meth c H locs cells slots Q (F0 m pc ls st) := by
  obtain ⟨hkN, hx, hb, hml, hown, hts, hret, hlk, hnm, hRf, hRl, hAO⟩ := C
  obtain ⟨hh, hP, hK, hD, hSS⟩ := Hp
  simp only [qstep] at hs
  split at hs <;> first | (cases hs; done) | skip
  rename_i y x S1
  simp only [Option.some.injEq, Prod.mk.injEq] at hs
  obtain ⟨hpc, rfl, rfl, rfl⟩ := hs
  simp only [qok, qdec, Bool.and_eq_true, Bool.or_eq_true, decide_eq_true_eq] at hok
  obtain ⟨h1, h2⟩ := hok
  subst h2
  obtain ⟨st, rfl, hq, hS⟩ := qsr_int hS
  obtain ⟨st, rfl, hq1, hS⟩ := qsr_int hS
  have kt : qcmp a x y = true → W p l e R s m args below meth c H locs cells slots Q (F0 m b ls st) := fun h => by
    rw [if_pos h] at hpc
    subst hpc
    exact kk ws tys H locs ls _ cells slots qext_rf ⟨hh, hP, hK, hD, hSS⟩ hL hS hc1 hc2
  have kf : ¬ qcmp a x y = true → W p l e R s m args below meth c H locs cells slots Q (F0 m (pc + 3) ls st) := fun h => by
    rw [if_neg h] at hpc
    subst hpc
    exact kk ws tys H locs ls _ cells slots qext_rf ⟨hh, hP, hK, hD, hSS⟩ hL hS hc1 hc2
  by_cases hn0 : a = 0
  · have hcc : qcc a = .eq := by simp [qcc, hn0]
    have hqc : qcmp a x y = decide (x = y) := by simp [qcmp, hn0]
    rw [hcc] at h1
    exact lv_icmp_eq hx hb h1 (by omega) (fun h => kt (by rw [hqc]; exact decide_eq_true ((qeq hq1 hq).mp h))) (fun h => kf (by rw [hqc]; exact fun h9 => h ((qeq hq1 hq).mpr (of_decide_eq_true h9))))
  by_cases hn1 : a = 1
  · have hcc : qcc a = .ne := by simp [qcc, hn1]
    have hqc : qcmp a x y = decide (x ≠ y) := by simp [qcmp, hn1]
    rw [hcc] at h1
    exact lv_icmp_ne hx hb h1 (by omega) (fun h => kt (by rw [hqc]; exact decide_eq_true (fun h9 => h ((qeq hq1 hq).mpr h9)))) (fun h => kf (by rw [hqc]; exact fun h9 => of_decide_eq_true h9 ((qeq hq1 hq).mp h)))
  by_cases hn2 : a = 2
  · have hcc : qcc a = .lt := by simp [qcc, hn2]
    have hqc : qcmp a x y = decide (x < y) := by simp [qcmp, hn2]
    rw [hcc] at h1
    exact lv_icmp_lt hx hb h1 (by omega) (fun h => kt (by rw [hqc]; exact decide_eq_true ((qlt hq1 hq).mp h))) (fun h => kf (by rw [hqc]; exact fun h9 => h ((qlt hq1 hq).mpr (of_decide_eq_true h9))))
  by_cases hn3 : a = 3
  · have hcc : qcc a = .ge := by simp [qcc, hn3]
    have hqc : qcmp a x y = decide (y ≤ x) := by simp [qcmp, hn3]
    rw [hcc] at h1
    exact lv_icmp_ge hx hb h1 (by omega) (fun h => kt (by rw [hqc]; exact decide_eq_true ((qle hq hq1).mp h))) (fun h => kf (by rw [hqc]; exact fun h9 => h ((qle hq hq1).mpr (of_decide_eq_true h9))))
  by_cases hn4 : a = 4
  · have hcc : qcc a = .gt := by simp [qcc, hn4]
    have hqc : qcmp a x y = decide (y < x) := by simp [qcmp, hn4]
    rw [hcc] at h1
    exact lv_icmp_gt hx hb h1 (by omega) (fun h => kt (by rw [hqc]; exact decide_eq_true ((qlt hq hq1).mp h))) (fun h => kf (by rw [hqc]; exact fun h9 => h ((qlt hq hq1).mpr (of_decide_eq_true h9))))
  have hcc : qcc a = .le := by simp [qcc, hn0, hn1, hn2, hn3, hn4]
  have hqc : qcmp a x y = decide (x ≤ y) := by simp [qcmp, hn0, hn1, hn2, hn3, hn4]
  rw [hcc] at h1
  exact lv_icmp_le hx hb h1 (by omega) (fun h => kt (by rw [hqc]; exact decide_eq_true ((qle hq1 hq).mp h))) (fun h => kf (by rw [hqc]; exact fun h9 => h ((qle hq1 hq).mpr (of_decide_eq_true h9))))
theorem qs_17 {p : Program} {l : Launch} {e : Env} {R : Room} {s : State} {m : MethodId} {args : Array Value} {below : List Frame} {meth : Method} {c : Code} {H : Heap} {locs : List Loc} {cells slots : Nat} {Q : State → Prop} {D : va_G} {A : Nat → Prop} {k pc b nx : Nat} {a : Int} {cl : List Nat} {L S : List qA} {σ : qM} {pc' : Nat} {L' S' : List qA} {σ' : qM} {n0 z0 : Nat} {ws : va_W} {tys : List (ClassId × FieldType)} {ls : Array Slot} {st : List Value}
    (hok : qok k pc (17, a, b, cl, nx) = true) (hs : qstep 17 a b cl nx pc L S σ = some (pc', L', S', σ')) (hr1 : σ'.1.length ≤ n0 + R.cells) (hr2 : qsz σ'.1 ≤ z0 + R.slots) (C : qCtx p s m args meth c R k) (Hp : qHp D A s ws tys σ H locs) (hL : qlr k ws L ls) (hS : qsr ws S st) (hc1 : cells + n0 = σ.1.length) (hc2 : slots + z0 = qsz σ.1) (hA : ∀ q, s.heap.size ≤ q → A q) (hNl : L.length = qNl k)
    (kk : ∀ (ws' : va_W) (tys' : List (ClassId × FieldType)) (H' : Heap) (locs' : List Loc) (ls' : Array Slot) (st' : List Value) (cells' slots' : Nat), qext ws ws' → qHp D A s ws' tys' σ' H' locs' → qlr k ws' L' ls' → qsr ws' S' st' → cells' + n0 = σ'.1.length → slots' + z0 = qsz σ'.1 → W p l e R s m args below meth c H' locs' cells' slots' Q (F0 m pc' ls' st')) :
    W p l e R s m args below meth c H locs cells slots Q (F0 m pc ls st) := by
  obtain ⟨hkN, hx, hb, hml, hown, hts, hret, hlk, hnm, hRf, hRl, hAO⟩ := C
  obtain ⟨hh, hP, hK, hD, hSS⟩ := Hp
  simp only [qstep] at hs
  split at hs <;> first | (cases hs; done) | skip
  rename_i x S1
  simp only [Option.some.injEq, Prod.mk.injEq] at hs
  obtain ⟨hpc, rfl, rfl, rfl⟩ := hs
  simp only [qok, qdec, Bool.and_eq_true, Bool.or_eq_true, decide_eq_true_eq] at hok
  obtain ⟨h1, h2⟩ := hok
  subst h2
  obtain ⟨st, rfl, hq1, hS⟩ := qsr_int hS
  have hq : qin 0 := q0in
  have kt : qcmp a x 0 = true → W p l e R s m args below meth c H locs cells slots Q (F0 m b ls st) := fun h => by
    rw [if_pos h] at hpc
    subst hpc
    exact kk ws tys H locs ls _ cells slots qext_rf ⟨hh, hP, hK, hD, hSS⟩ hL hS hc1 hc2
  have kf : ¬ qcmp a x 0 = true → W p l e R s m args below meth c H locs cells slots Q (F0 m (pc + 3) ls st) := fun h => by
    rw [if_neg h] at hpc
    subst hpc
    exact kk ws tys H locs ls _ cells slots qext_rf ⟨hh, hP, hK, hD, hSS⟩ hL hS hc1 hc2
  by_cases hn0 : a = 0
  · have hcc : qcc a = .eq := by simp [qcc, hn0]
    have hqc : qcmp a x 0 = decide (x = 0) := by simp [qcmp, hn0]
    rw [hcc] at h1
    exact lv_if_eq hx hb h1 (by omega) (fun h => kt (by rw [hqc]; exact decide_eq_true ((qeq hq1 hq).mp h))) (fun h => kf (by rw [hqc]; exact fun h9 => h ((qeq hq1 hq).mpr (of_decide_eq_true h9))))
  by_cases hn1 : a = 1
  · have hcc : qcc a = .ne := by simp [qcc, hn1]
    have hqc : qcmp a x 0 = decide (x ≠ 0) := by simp [qcmp, hn1]
    rw [hcc] at h1
    exact lv_if_ne hx hb h1 (by omega) (fun h => kt (by rw [hqc]; exact decide_eq_true (fun h9 => h ((qeq hq1 hq).mpr h9)))) (fun h => kf (by rw [hqc]; exact fun h9 => of_decide_eq_true h9 ((qeq hq1 hq).mp h)))
  by_cases hn2 : a = 2
  · have hcc : qcc a = .lt := by simp [qcc, hn2]
    have hqc : qcmp a x 0 = decide (x < 0) := by simp [qcmp, hn2]
    rw [hcc] at h1
    exact lv_if_lt hx hb h1 (by omega) (fun h => kt (by rw [hqc]; exact decide_eq_true ((qlt hq1 hq).mp h))) (fun h => kf (by rw [hqc]; exact fun h9 => h ((qlt hq1 hq).mpr (of_decide_eq_true h9))))
  by_cases hn3 : a = 3
  · have hcc : qcc a = .ge := by simp [qcc, hn3]
    have hqc : qcmp a x 0 = decide (0 ≤ x) := by simp [qcmp, hn3]
    rw [hcc] at h1
    exact lv_if_ge hx hb h1 (by omega) (fun h => kt (by rw [hqc]; exact decide_eq_true ((qle hq hq1).mp h))) (fun h => kf (by rw [hqc]; exact fun h9 => h ((qle hq hq1).mpr (of_decide_eq_true h9))))
  by_cases hn4 : a = 4
  · have hcc : qcc a = .gt := by simp [qcc, hn4]
    have hqc : qcmp a x 0 = decide (0 < x) := by simp [qcmp, hn4]
    rw [hcc] at h1
    exact lv_if_gt hx hb h1 (by omega) (fun h => kt (by rw [hqc]; exact decide_eq_true ((qlt hq hq1).mp h))) (fun h => kf (by rw [hqc]; exact fun h9 => h ((qlt hq hq1).mpr (of_decide_eq_true h9))))
  have hcc : qcc a = .le := by simp [qcc, hn0, hn1, hn2, hn3, hn4]
  have hqc : qcmp a x 0 = decide (x ≤ 0) := by simp [qcmp, hn0, hn1, hn2, hn3, hn4]
  rw [hcc] at h1
  exact lv_if_le hx hb h1 (by omega) (fun h => kt (by rw [hqc]; exact decide_eq_true ((qle hq1 hq).mp h))) (fun h => kf (by rw [hqc]; exact fun h9 => h ((qle hq1 hq).mpr (of_decide_eq_true h9))))
theorem qs_18 {p : Program} {l : Launch} {e : Env} {R : Room} {s : State} {m : MethodId} {args : Array Value} {below : List Frame} {meth : Method} {c : Code} {H : Heap} {locs : List Loc} {cells slots : Nat} {Q : State → Prop} {D : va_G} {A : Nat → Prop} {k pc b nx : Nat} {a : Int} {cl : List Nat} {L S : List qA} {σ : qM} {pc' : Nat} {L' S' : List qA} {σ' : qM} {n0 z0 : Nat} {ws : va_W} {tys : List (ClassId × FieldType)} {ls : Array Slot} {st : List Value}
    (hok : qok k pc (18, a, b, cl, nx) = true) (hs : qstep 18 a b cl nx pc L S σ = some (pc', L', S', σ')) (hr1 : σ'.1.length ≤ n0 + R.cells) (hr2 : qsz σ'.1 ≤ z0 + R.slots) (C : qCtx p s m args meth c R k) (Hp : qHp D A s ws tys σ H locs) (hL : qlr k ws L ls) (hS : qsr ws S st) (hc1 : cells + n0 = σ.1.length) (hc2 : slots + z0 = qsz σ.1) (hA : ∀ q, s.heap.size ≤ q → A q) (hNl : L.length = qNl k)
    (kk : ∀ (ws' : va_W) (tys' : List (ClassId × FieldType)) (H' : Heap) (locs' : List Loc) (ls' : Array Slot) (st' : List Value) (cells' slots' : Nat), qext ws ws' → qHp D A s ws' tys' σ' H' locs' → qlr k ws' L' ls' → qsr ws' S' st' → cells' + n0 = σ'.1.length → slots' + z0 = qsz σ'.1 → W p l e R s m args below meth c H' locs' cells' slots' Q (F0 m pc' ls' st')) :
    W p l e R s m args below meth c H locs cells slots Q (F0 m pc ls st) := by
  obtain ⟨hkN, hx, hb, hml, hown, hts, hret, hlk, hnm, hRf, hRl, hAO⟩ := C
  obtain ⟨hh, hP, hK, hD, hSS⟩ := Hp
  simp only [qstep] at hs
  split at hs <;> first | (cases hs; done) | skip
  rename_i x S1
  simp only [Option.some.injEq, Prod.mk.injEq] at hs
  obtain ⟨rfl, rfl, rfl, rfl⟩ := hs
  simp only [qok, qdec, Bool.and_eq_true, Bool.or_eq_true, decide_eq_true_eq] at hok
  obtain ⟨q, st, rfl, hq, hS⟩ := qsr_ref hS
  obtain ⟨h1, h2⟩ := hok
  subst h2
  exact lv_ifnull hx hb h1 (kk ws tys H locs ls _ cells slots qext_rf ⟨hh, hP, hK, hD, hSS⟩ hL hS hc1 hc2)
theorem qs_19 {p : Program} {l : Launch} {e : Env} {R : Room} {s : State} {m : MethodId} {args : Array Value} {below : List Frame} {meth : Method} {c : Code} {H : Heap} {locs : List Loc} {cells slots : Nat} {Q : State → Prop} {D : va_G} {A : Nat → Prop} {k pc b nx : Nat} {a : Int} {cl : List Nat} {L S : List qA} {σ : qM} {pc' : Nat} {L' S' : List qA} {σ' : qM} {n0 z0 : Nat} {ws : va_W} {tys : List (ClassId × FieldType)} {ls : Array Slot} {st : List Value}
    (hok : qok k pc (19, a, b, cl, nx) = true) (hs : qstep 19 a b cl nx pc L S σ = some (pc', L', S', σ')) (hr1 : σ'.1.length ≤ n0 + R.cells) (hr2 : qsz σ'.1 ≤ z0 + R.slots) (C : qCtx p s m args meth c R k) (Hp : qHp D A s ws tys σ H locs) (hL : qlr k ws L ls) (hS : qsr ws S st) (hc1 : cells + n0 = σ.1.length) (hc2 : slots + z0 = qsz σ.1) (hA : ∀ q, s.heap.size ≤ q → A q) (hNl : L.length = qNl k)
    (kk : ∀ (ws' : va_W) (tys' : List (ClassId × FieldType)) (H' : Heap) (locs' : List Loc) (ls' : Array Slot) (st' : List Value) (cells' slots' : Nat), qext ws ws' → qHp D A s ws' tys' σ' H' locs' → qlr k ws' L' ls' → qsr ws' S' st' → cells' + n0 = σ'.1.length → slots' + z0 = qsz σ'.1 → W p l e R s m args below meth c H' locs' cells' slots' Q (F0 m pc' ls' st')) :
    W p l e R s m args below meth c H locs cells slots Q (F0 m pc ls st) := by
  obtain ⟨hkN, hx, hb, hml, hown, hts, hret, hlk, hnm, hRf, hRl, hAO⟩ := C
  obtain ⟨hh, hP, hK, hD, hSS⟩ := Hp
  simp only [qstep] at hs
  split at hs <;> first | (cases hs; done) | skip
  rename_i x S1
  simp only [Option.some.injEq, Prod.mk.injEq] at hs
  obtain ⟨rfl, rfl, rfl, rfl⟩ := hs
  simp only [qok, qdec, Bool.and_eq_true, Bool.or_eq_true, decide_eq_true_eq] at hok
  obtain ⟨q, st, rfl, hq, hS⟩ := qsr_ref hS
  obtain ⟨h1, h2⟩ := hok
  exact lv_ifnonnull hx hb h1 (by omega) (kk ws tys H locs ls _ cells slots qext_rf ⟨hh, hP, hK, hD, hSS⟩ hL hS hc1 hc2)
theorem qs_20 {p : Program} {l : Launch} {e : Env} {R : Room} {s : State} {m : MethodId} {args : Array Value} {below : List Frame} {meth : Method} {c : Code} {H : Heap} {locs : List Loc} {cells slots : Nat} {Q : State → Prop} {D : va_G} {A : Nat → Prop} {k pc b nx : Nat} {a : Int} {cl : List Nat} {L S : List qA} {σ : qM} {pc' : Nat} {L' S' : List qA} {σ' : qM} {n0 z0 : Nat} {ws : va_W} {tys : List (ClassId × FieldType)} {ls : Array Slot} {st : List Value}
    (hok : qok k pc (20, a, b, cl, nx) = true) (hs : qstep 20 a b cl nx pc L S σ = some (pc', L', S', σ')) (hr1 : σ'.1.length ≤ n0 + R.cells) (hr2 : qsz σ'.1 ≤ z0 + R.slots) (C : qCtx p s m args meth c R k) (Hp : qHp D A s ws tys σ H locs) (hL : qlr k ws L ls) (hS : qsr ws S st) (hc1 : cells + n0 = σ.1.length) (hc2 : slots + z0 = qsz σ.1) (hA : ∀ q, s.heap.size ≤ q → A q) (hNl : L.length = qNl k)
    (kk : ∀ (ws' : va_W) (tys' : List (ClassId × FieldType)) (H' : Heap) (locs' : List Loc) (ls' : Array Slot) (st' : List Value) (cells' slots' : Nat), qext ws ws' → qHp D A s ws' tys' σ' H' locs' → qlr k ws' L' ls' → qsr ws' S' st' → cells' + n0 = σ'.1.length → slots' + z0 = qsz σ'.1 → W p l e R s m args below meth c H' locs' cells' slots' Q (F0 m pc' ls' st')) :
    W p l e R s m args below meth c H locs cells slots Q (F0 m pc ls st) := by
  obtain ⟨hkN, hx, hb, hml, hown, hts, hret, hlk, hnm, hRf, hRl, hAO⟩ := C
  obtain ⟨hh, hP, hK, hD, hSS⟩ := Hp
  simp only [qstep] at hs
  split at hs <;> first | (cases hs; done) | skip
  rename_i x S1
  simp only [Option.some.injEq, Prod.mk.injEq] at hs
  obtain ⟨hpc, rfl, rfl, rfl⟩ := hs
  simp only [qok, qdec, Bool.and_eq_true, Bool.or_eq_true, decide_eq_true_eq] at hok
  obtain ⟨st, rfl, hq, hS⟩ := qsr_int hS
  by_cases hin : a ≤ x ∧ x < a + cl.length
  · rw [if_pos hin] at hpc
    have hi : (x - a).toNat < cl.length := by omega
    have ho : (cl.map (fun (t : Nat) => (t : Int) - pc)).toArray[((Int32.ofInt x).toInt - a).toNat]? = some ((pc' : Int) - pc) := by
      rw [qti hq, List.getElem?_toArray, List.getElem?_map, List.getElem?_eq_getElem hi, ← hpc, List.getD_eq_getElem?_getD, List.getElem?_eq_getElem hi]
      rfl
    exact lv_tableIn hx hb hok (by rw [qti hq]; omega) (by rw [qti hq]; omega) ho (by omega) (kk ws tys H locs ls _ cells slots qext_rf ⟨hh, hP, hK, hD, hSS⟩ hL hS hc1 hc2)
  · rw [if_neg hin] at hpc
    subst hpc
    exact lv_tableOut hx hb hok (by rw [qti hq]; omega) (by omega) (kk ws tys H locs ls _ cells slots qext_rf ⟨hh, hP, hK, hD, hSS⟩ hL hS hc1 hc2)
theorem qs_21 {p : Program} {l : Launch} {e : Env} {R : Room} {s : State} {m : MethodId} {args : Array Value} {below : List Frame} {meth : Method} {c : Code} {H : Heap} {locs : List Loc} {cells slots : Nat} {Q : State → Prop} {D : va_G} {A : Nat → Prop} {k pc b nx : Nat} {a : Int} {cl : List Nat} {L S : List qA} {σ : qM} {pc' : Nat} {L' S' : List qA} {σ' : qM} {n0 z0 : Nat} {ws : va_W} {tys : List (ClassId × FieldType)} {ls : Array Slot} {st : List Value}
    (hok : qok k pc (21, a, b, cl, nx) = true) (hs : qstep 21 a b cl nx pc L S σ = some (pc', L', S', σ')) (hr1 : σ'.1.length ≤ n0 + R.cells) (hr2 : qsz σ'.1 ≤ z0 + R.slots) (C : qCtx p s m args meth c R k) (Hp : qHp D A s ws tys σ H locs) (hL : qlr k ws L ls) (hS : qsr ws S st) (hc1 : cells + n0 = σ.1.length) (hc2 : slots + z0 = qsz σ.1) (hA : ∀ q, s.heap.size ≤ q → A q) (hNl : L.length = qNl k)
    (kk : ∀ (ws' : va_W) (tys' : List (ClassId × FieldType)) (H' : Heap) (locs' : List Loc) (ls' : Array Slot) (st' : List Value) (cells' slots' : Nat), qext ws ws' → qHp D A s ws' tys' σ' H' locs' → qlr k ws' L' ls' → qsr ws' S' st' → cells' + n0 = σ'.1.length → slots' + z0 = qsz σ'.1 → W p l e R s m args below meth c H' locs' cells' slots' Q (F0 m pc' ls' st')) :
    W p l e R s m args below meth c H locs cells slots Q (F0 m pc ls st) := by
  obtain ⟨hkN, hx, hb, hml, hown, hts, hret, hlk, hnm, hRf, hRl, hAO⟩ := C
  obtain ⟨hh, hP, hK, hD, hSS⟩ := Hp
  simp only [qstep] at hs
  split at hs <;> first | (cases hs; done) | skip
  rename_i k0 S1
  rw [Option.ite_none_right_eq_some] at hs
  obtain ⟨⟨ha0, hkd, hfs⟩, hs⟩ := hs
  simp only [Option.some.injEq, Prod.mk.injEq] at hs
  obtain ⟨rfl, rfl, rfl, rfl⟩ := hs
  simp only [qok, qdec, Bool.and_eq_true, decide_eq_true_eq] at hok
  obtain ⟨q, st, rfl, hq, hS⟩ := qsr_ref hS
  obtain ⟨e0, he, hcr⟩ := qhr_at hh hkd hq
  obtain ⟨fs, rfl, hlen, hI, hRR⟩ := hcr
  have hci := qfs_lt hfs
  have haz : ((a.toNat : Nat) : Int) = a := Int.toNat_of_nonneg ha0
  obtain ⟨⟨h1, h2⟩, h3⟩ := hok
  subst h2
  obtain ⟨hv, hvi⟩ := hI _ hfs
  rw [haz] at hv hvi
  exact va_get (D := D) hx hb hts (qu_all hci) hown hK hP k0 he (qvw hci) a.toNat (qfs_j hfs) (hts _ (qfl_at h3)) (fun _ h9 => h9) hv h1 (kk ws tys H locs ls _ cells slots qext_rf ⟨hh, hP, hK, hD, hSS⟩ hL ⟨⟨rfl, hvi⟩, hS⟩ hc1 hc2)
theorem qs_22 {p : Program} {l : Launch} {e : Env} {R : Room} {s : State} {m : MethodId} {args : Array Value} {below : List Frame} {meth : Method} {c : Code} {H : Heap} {locs : List Loc} {cells slots : Nat} {Q : State → Prop} {D : va_G} {A : Nat → Prop} {k pc b nx : Nat} {a : Int} {cl : List Nat} {L S : List qA} {σ : qM} {pc' : Nat} {L' S' : List qA} {σ' : qM} {n0 z0 : Nat} {ws : va_W} {tys : List (ClassId × FieldType)} {ls : Array Slot} {st : List Value}
    (hok : qok k pc (22, a, b, cl, nx) = true) (hs : qstep 22 a b cl nx pc L S σ = some (pc', L', S', σ')) (hr1 : σ'.1.length ≤ n0 + R.cells) (hr2 : qsz σ'.1 ≤ z0 + R.slots) (C : qCtx p s m args meth c R k) (Hp : qHp D A s ws tys σ H locs) (hL : qlr k ws L ls) (hS : qsr ws S st) (hc1 : cells + n0 = σ.1.length) (hc2 : slots + z0 = qsz σ.1) (hA : ∀ q, s.heap.size ≤ q → A q) (hNl : L.length = qNl k)
    (kk : ∀ (ws' : va_W) (tys' : List (ClassId × FieldType)) (H' : Heap) (locs' : List Loc) (ls' : Array Slot) (st' : List Value) (cells' slots' : Nat), qext ws ws' → qHp D A s ws' tys' σ' H' locs' → qlr k ws' L' ls' → qsr ws' S' st' → cells' + n0 = σ'.1.length → slots' + z0 = qsz σ'.1 → W p l e R s m args below meth c H' locs' cells' slots' Q (F0 m pc' ls' st')) :
    W p l e R s m args below meth c H locs cells slots Q (F0 m pc ls st) := by
  obtain ⟨hkN, hx, hb, hml, hown, hts, hret, hlk, hnm, hRf, hRl, hAO⟩ := C
  obtain ⟨hh, hP, hK, hD, hSS⟩ := Hp
  simp only [qstep] at hs
  split at hs <;> first | (cases hs; done) | skip
  rename_i k0 S1
  rw [Option.ite_none_right_eq_some] at hs
  obtain ⟨⟨ha0, hkd, hfs⟩, hs⟩ := hs
  split at hs <;> first | (cases hs; done) | skip
  rename_i z hz
  simp only [Option.some.injEq, Prod.mk.injEq] at hs
  obtain ⟨rfl, rfl, rfl, rfl⟩ := hs
  simp only [qok, qdec, Bool.and_eq_true, decide_eq_true_eq] at hok
  obtain ⟨q, st, rfl, hq, hS⟩ := qsr_ref hS
  obtain ⟨e0, he, hcr⟩ := qhr_at hh hkd hq
  obtain ⟨fs, rfl, hlen, hI, hRR⟩ := hcr
  have hci := qfs_lt hfs
  have haz : ((a.toNat : Nat) : Int) = a := Int.toNat_of_nonneg ha0
  obtain ⟨⟨h1, h2⟩, h3⟩ := hok
  subst h2
  obtain ⟨zz, hz1, hv⟩ := hRR _ hfs
  rw [haz, hz] at hz1
  obtain ⟨qz, hqz, rfl⟩ := hz1
  exact va_get (D := D) hx hb hts (qu_all hci) hown hK hP k0 he (qvw hci) a.toNat (qfs_j hfs) (hts _ (qfl_at h3)) (fun _ h9 => h9) (v := .ref qz) hv h1 (kk ws tys H locs ls _ cells slots qext_rf ⟨hh, hP, hK, hD, hSS⟩ hL ⟨⟨qz, hqz, rfl⟩, hS⟩ hc1 hc2)
theorem qs_23 {p : Program} {l : Launch} {e : Env} {R : Room} {s : State} {m : MethodId} {args : Array Value} {below : List Frame} {meth : Method} {c : Code} {H : Heap} {locs : List Loc} {cells slots : Nat} {Q : State → Prop} {D : va_G} {A : Nat → Prop} {k pc b nx : Nat} {a : Int} {cl : List Nat} {L S : List qA} {σ : qM} {pc' : Nat} {L' S' : List qA} {σ' : qM} {n0 z0 : Nat} {ws : va_W} {tys : List (ClassId × FieldType)} {ls : Array Slot} {st : List Value}
    (hok : qok k pc (23, a, b, cl, nx) = true) (hs : qstep 23 a b cl nx pc L S σ = some (pc', L', S', σ')) (hr1 : σ'.1.length ≤ n0 + R.cells) (hr2 : qsz σ'.1 ≤ z0 + R.slots) (C : qCtx p s m args meth c R k) (Hp : qHp D A s ws tys σ H locs) (hL : qlr k ws L ls) (hS : qsr ws S st) (hc1 : cells + n0 = σ.1.length) (hc2 : slots + z0 = qsz σ.1) (hA : ∀ q, s.heap.size ≤ q → A q) (hNl : L.length = qNl k)
    (kk : ∀ (ws' : va_W) (tys' : List (ClassId × FieldType)) (H' : Heap) (locs' : List Loc) (ls' : Array Slot) (st' : List Value) (cells' slots' : Nat), qext ws ws' → qHp D A s ws' tys' σ' H' locs' → qlr k ws' L' ls' → qsr ws' S' st' → cells' + n0 = σ'.1.length → slots' + z0 = qsz σ'.1 → W p l e R s m args below meth c H' locs' cells' slots' Q (F0 m pc' ls' st')) :
    W p l e R s m args below meth c H locs cells slots Q (F0 m pc ls st) := by
  obtain ⟨hkN, hx, hb, hml, hown, hts, hret, hlk, hnm, hRf, hRl, hAO⟩ := C
  obtain ⟨hh, hP, hK, hD, hSS⟩ := Hp
  simp only [qstep] at hs
  split at hs <;> first | (cases hs; done) | skip
  rename_i x k0 S1
  rw [Option.ite_none_right_eq_some] at hs
  obtain ⟨⟨ha0, hkd, hfs⟩, hs⟩ := hs
  simp only [Option.some.injEq, Prod.mk.injEq] at hs
  obtain ⟨rfl, rfl, rfl, rfl⟩ := hs
  simp only [qok, qdec, Bool.and_eq_true, decide_eq_true_eq] at hok
  obtain ⟨st, rfl, hxi, hS⟩ := qsr_int hS
  obtain ⟨q, st, rfl, hq, hS⟩ := qsr_ref hS
  obtain ⟨e0, he, hcr⟩ := qhr_at hh hkd hq
  obtain ⟨fs, rfl, hlen, hI, hRR⟩ := hcr
  have hci := qfs_lt hfs
  have haz : ((a.toNat : Nat) : Int) = a := Int.toNat_of_nonneg ha0
  have hjl : a.toNat < fs.length := by rw [hlen]; exact qfs_j hfs
  obtain ⟨⟨⟨h1, h2⟩, h3⟩, h4⟩ := hok
  subst h2
  have hty := qty_all hci a.toNat (qfs_j hfs)
  rw [qty_int hfs] at hty
  refine va_put (D := D) (v := .int (Int32.ofInt x)) hx hb hts (qu_all hci) (qty (cl.headD 0)) (qty_all hci) (qnm_all hci) hown hK hP hD hSS k0 he (qvw hci) a.toNat (qfs_j hfs) (hts _ (qfl_at h3)) (fun _ h9 => h9) h4 hty rfl rfl hjl h1 (fun H1 locs1 hP1 hD1 hS1 => ?_)
  refine kk (ws.set k0 (q, .inr (cl.headD 0, fs.set a.toNat (.int (Int32.ofInt x))))) tys H1 locs1 ls _ cells slots (qext_set he) ⟨?_, hP1, hK, hD1, hS1⟩ (qlr_ext (qext_set he) hL) (qsr_ext (qext_set he) hS) hc1 hc2
  refine qhr_set (σ := σ) hh hkd he rfl (fun i hi => ⟨by funext j; simp [qup, hi], rfl⟩) ?_
  refine ⟨_, rfl, by rw [List.length_set]; exact hlen, fun j hj => ?_, fun j hj => ?_⟩
  · by_cases hja : a.toNat = j
    · subst hja
      rw [List.getElem?_set_self hjl]
      simp [qup, haz]
      exact hxi
    · rw [List.getElem?_set_ne hja]
      have hne : ¬ (j : Int) = a := by omega
      simp only [qup, if_true, hne, if_false]
      exact hI j hj
  · by_cases hja : a.toNat = j
    · subst hja
      rw [hfs] at hj
      cases hj
    · rw [List.getElem?_set_ne hja]
      obtain ⟨z, g1, g2⟩ := hRR j hj
      exact ⟨z, qrf_ext (qext_set he) g1, g2⟩
theorem qs_24 {p : Program} {l : Launch} {e : Env} {R : Room} {s : State} {m : MethodId} {args : Array Value} {below : List Frame} {meth : Method} {c : Code} {H : Heap} {locs : List Loc} {cells slots : Nat} {Q : State → Prop} {D : va_G} {A : Nat → Prop} {k pc b nx : Nat} {a : Int} {cl : List Nat} {L S : List qA} {σ : qM} {pc' : Nat} {L' S' : List qA} {σ' : qM} {n0 z0 : Nat} {ws : va_W} {tys : List (ClassId × FieldType)} {ls : Array Slot} {st : List Value}
    (hok : qok k pc (24, a, b, cl, nx) = true) (hs : qstep 24 a b cl nx pc L S σ = some (pc', L', S', σ')) (hr1 : σ'.1.length ≤ n0 + R.cells) (hr2 : qsz σ'.1 ≤ z0 + R.slots) (C : qCtx p s m args meth c R k) (Hp : qHp D A s ws tys σ H locs) (hL : qlr k ws L ls) (hS : qsr ws S st) (hc1 : cells + n0 = σ.1.length) (hc2 : slots + z0 = qsz σ.1) (hA : ∀ q, s.heap.size ≤ q → A q) (hNl : L.length = qNl k)
    (kk : ∀ (ws' : va_W) (tys' : List (ClassId × FieldType)) (H' : Heap) (locs' : List Loc) (ls' : Array Slot) (st' : List Value) (cells' slots' : Nat), qext ws ws' → qHp D A s ws' tys' σ' H' locs' → qlr k ws' L' ls' → qsr ws' S' st' → cells' + n0 = σ'.1.length → slots' + z0 = qsz σ'.1 → W p l e R s m args below meth c H' locs' cells' slots' Q (F0 m pc' ls' st')) :
    W p l e R s m args below meth c H locs cells slots Q (F0 m pc ls st) := by
  obtain ⟨hkN, hx, hb, hml, hown, hts, hret, hlk, hnm, hRf, hRl, hAO⟩ := C
  obtain ⟨hh, hP, hK, hD, hSS⟩ := Hp
  simp only [qstep] at hs
  split at hs <;> first | (cases hs; done) | skip
  rename_i x k0 S1
  rw [Option.ite_none_right_eq_some] at hs
  obtain ⟨⟨ha0, hkd, hfs⟩, hs⟩ := hs
  simp only [Option.some.injEq, Prod.mk.injEq] at hs
  obtain ⟨rfl, rfl, rfl, rfl⟩ := hs
  simp only [qok, qdec, Bool.and_eq_true, decide_eq_true_eq] at hok
  obtain ⟨qx, st, rfl, hxi, hS⟩ := qsr_ref hS
  obtain ⟨q, st, rfl, hq, hS⟩ := qsr_ref hS
  obtain ⟨e0, he, hcr⟩ := qhr_at hh hkd hq
  obtain ⟨fs, rfl, hlen, hI, hRR⟩ := hcr
  have hci := qfs_lt hfs
  have haz : ((a.toNat : Nat) : Int) = a := Int.toNat_of_nonneg ha0
  have hjl : a.toNat < fs.length := by rw [hlen]; exact qfs_j hfs
  obtain ⟨⟨⟨h1, h2⟩, h3⟩, h4, h5, h6⟩ := hok
  subst h2
  have hty := qty_all hci a.toNat (qfs_j hfs)
  have hn : narrow (qty (cl.headD 0) a.toNat) (.ref qx) = .ref qx := by rcases qty_ref hfs with ⟨n, h⟩ | ⟨n, h⟩ <;> rw [h] <;> rfl
  have hf : fits (qty (cl.headD 0) a.toNat) (.ref qx) = true := by rcases qty_ref hfs with ⟨n, h⟩ | ⟨n, h⟩ <;> rw [h] <;> rfl
  refine va_putF (D := D) (v := .ref qx) hx hb hts (qu_all hci) (qty (cl.headD 0)) (qty_all hci) (qnm_all hci) hown hK hP hD hSS k0 he (qvw hci) a.toNat (qfs_j hfs) (hts _ (qfl_at h3)) (fun _ h9 => h9) h4 (hnm.trans h5) h6 hty hn hf hjl h1 (fun H1 locs1 hP1 hD1 hS1 => ?_)
  refine kk (ws.set k0 (q, .inr (cl.headD 0, fs.set a.toNat (.ref qx)))) tys H1 locs1 ls _ cells slots (qext_set he) ⟨?_, hP1, hK, hD1, hS1⟩ (qlr_ext (qext_set he) hL) (qsr_ext (qext_set he) hS) hc1 hc2
  refine qhr_set (σ := σ) hh hkd he rfl (fun i hi => ⟨rfl, by funext j; simp [qup, hi]⟩) ?_
  refine ⟨_, rfl, by rw [List.length_set]; exact hlen, fun j hj => ?_, fun j hj => ?_⟩
  · by_cases hja : a.toNat = j
    · subst hja
      rw [hfs] at hj
      cases hj
    · rw [List.getElem?_set_ne hja]
      exact hI j hj
  · by_cases hja : a.toNat = j
    · subst hja
      rw [List.getElem?_set_self hjl]
      exact ⟨some qx, by simp only [qup, if_true, haz]; exact ⟨qx, qext_set he _ _ hxi, rfl⟩, rfl⟩
    · rw [List.getElem?_set_ne hja]
      have hne : ¬ (j : Int) = a := by omega
      simp only [qup, if_true, hne, if_false]
      obtain ⟨z, g1, g2⟩ := hRR j hj
      exact ⟨z, qrf_ext (qext_set he) g1, g2⟩
theorem qs_25 {p : Program} {l : Launch} {e : Env} {R : Room} {s : State} {m : MethodId} {args : Array Value} {below : List Frame} {meth : Method} {c : Code} {H : Heap} {locs : List Loc} {cells slots : Nat} {Q : State → Prop} {D : va_G} {A : Nat → Prop} {k pc b nx : Nat} {a : Int} {cl : List Nat} {L S : List qA} {σ : qM} {pc' : Nat} {L' S' : List qA} {σ' : qM} {n0 z0 : Nat} {ws : va_W} {tys : List (ClassId × FieldType)} {ls : Array Slot} {st : List Value}
    (hok : qok k pc (25, a, b, cl, nx) = true) (hs : qstep 25 a b cl nx pc L S σ = some (pc', L', S', σ')) (hr1 : σ'.1.length ≤ n0 + R.cells) (hr2 : qsz σ'.1 ≤ z0 + R.slots) (C : qCtx p s m args meth c R k) (Hp : qHp D A s ws tys σ H locs) (hL : qlr k ws L ls) (hS : qsr ws S st) (hc1 : cells + n0 = σ.1.length) (hc2 : slots + z0 = qsz σ.1) (hA : ∀ q, s.heap.size ≤ q → A q) (hNl : L.length = qNl k)
    (kk : ∀ (ws' : va_W) (tys' : List (ClassId × FieldType)) (H' : Heap) (locs' : List Loc) (ls' : Array Slot) (st' : List Value) (cells' slots' : Nat), qext ws ws' → qHp D A s ws' tys' σ' H' locs' → qlr k ws' L' ls' → qsr ws' S' st' → cells' + n0 = σ'.1.length → slots' + z0 = qsz σ'.1 → W p l e R s m args below meth c H' locs' cells' slots' Q (F0 m pc' ls' st')) :
    W p l e R s m args below meth c H locs cells slots Q (F0 m pc ls st) := by
  obtain ⟨hkN, hx, hb, hml, hown, hts, hret, hlk, hnm, hRf, hRl, hAO⟩ := C
  obtain ⟨hh, hP, hK, hD, hSS⟩ := Hp
  simp only [qstep] at hs
  split at hs <;> first | (cases hs; done) | skip
  split at hs <;> first | (cases hs; done) | skip
  rename_i i k0 S1 x9 n hkd
  rw [Option.ite_none_right_eq_some] at hs
  obtain ⟨⟨hi0, hi1⟩, hs⟩ := hs
  simp only [Option.some.injEq, Prod.mk.injEq] at hs
  obtain ⟨rfl, rfl, rfl, rfl⟩ := hs
  simp only [qok, qdec, Bool.and_eq_true, decide_eq_true_eq] at hok
  obtain ⟨h1, h2⟩ := hok
  subst h2
  obtain ⟨st, rfl, hxi, hS⟩ := qsr_int hS
  obtain ⟨q, st, rfl, hq, hS⟩ := qsr_ref hS
  obtain ⟨e0, he, cA, f, rfl, ht, hn, hf⟩ := qhr_at hh hkd hq
  obtain ⟨t0, ht0⟩ := qmem_at ht
  have haz : ((i.toNat : Nat) : Int) = i := Int.toNat_of_nonneg hi0
  obtain ⟨hv, hvi⟩ := hf i.toNat (by omega)
  rw [haz] at hv hvi
  refine va_iald hx hb hK hP k0 t0 he ht0 (qvin hi0 hi1 hn) h1 (kk ws tys H locs ls _ cells slots qext_rf ⟨hh, hP, hK, hD, hSS⟩ hL ⟨⟨?_, hvi⟩, hS⟩ hc1 hc2)
  rw [qclamp hi0 hxi, hv]
theorem qs_26 {p : Program} {l : Launch} {e : Env} {R : Room} {s : State} {m : MethodId} {args : Array Value} {below : List Frame} {meth : Method} {c : Code} {H : Heap} {locs : List Loc} {cells slots : Nat} {Q : State → Prop} {D : va_G} {A : Nat → Prop} {k pc b nx : Nat} {a : Int} {cl : List Nat} {L S : List qA} {σ : qM} {pc' : Nat} {L' S' : List qA} {σ' : qM} {n0 z0 : Nat} {ws : va_W} {tys : List (ClassId × FieldType)} {ls : Array Slot} {st : List Value}
    (hok : qok k pc (26, a, b, cl, nx) = true) (hs : qstep 26 a b cl nx pc L S σ = some (pc', L', S', σ')) (hr1 : σ'.1.length ≤ n0 + R.cells) (hr2 : qsz σ'.1 ≤ z0 + R.slots) (C : qCtx p s m args meth c R k) (Hp : qHp D A s ws tys σ H locs) (hL : qlr k ws L ls) (hS : qsr ws S st) (hc1 : cells + n0 = σ.1.length) (hc2 : slots + z0 = qsz σ.1) (hA : ∀ q, s.heap.size ≤ q → A q) (hNl : L.length = qNl k)
    (kk : ∀ (ws' : va_W) (tys' : List (ClassId × FieldType)) (H' : Heap) (locs' : List Loc) (ls' : Array Slot) (st' : List Value) (cells' slots' : Nat), qext ws ws' → qHp D A s ws' tys' σ' H' locs' → qlr k ws' L' ls' → qsr ws' S' st' → cells' + n0 = σ'.1.length → slots' + z0 = qsz σ'.1 → W p l e R s m args below meth c H' locs' cells' slots' Q (F0 m pc' ls' st')) :
    W p l e R s m args below meth c H locs cells slots Q (F0 m pc ls st) := by
  obtain ⟨hkN, hx, hb, hml, hown, hts, hret, hlk, hnm, hRf, hRl, hAO⟩ := C
  obtain ⟨hh, hP, hK, hD, hSS⟩ := Hp
  simp only [qstep] at hs
  split at hs <;> first | (cases hs; done) | skip
  split at hs <;> first | (cases hs; done) | skip
  rename_i x i k0 S1 x9 n hkd
  rw [Option.ite_none_right_eq_some] at hs
  obtain ⟨⟨hi0, hi1⟩, hs⟩ := hs
  simp only [Option.some.injEq, Prod.mk.injEq] at hs
  obtain ⟨rfl, rfl, rfl, rfl⟩ := hs
  simp only [qok, qdec, Bool.and_eq_true, decide_eq_true_eq] at hok
  obtain ⟨h1, h2⟩ := hok
  subst h2
  obtain ⟨st, rfl, hxx, hS⟩ := qsr_int hS
  obtain ⟨st, rfl, hxi, hS⟩ := qsr_int hS
  obtain ⟨q, st, rfl, hq, hS⟩ := qsr_ref hS
  obtain ⟨e0, he, cA, f, rfl, ht, hn, hf⟩ := qhr_at hh hkd hq
  obtain ⟨t0, ht0⟩ := qmem_at ht
  refine va_iast hx hb hK hP hD hSS k0 t0 he ht0 (qvin hi0 hi1 hn) h1 (fun H1 locs1 hP1 hD1 hS1 => ?_)
  refine kk _ tys H1 locs1 ls _ cells slots (qext_set he) ⟨?_, hP1, hK, hD1, hS1⟩ (qlr_ext (qext_set he) hL) (qsr_ext (qext_set he) hS) hc1 hc2
  refine qhr_set (σ := σ) hh hkd he rfl (fun j hj => ⟨by funext j2; simp [qup, hj], rfl⟩) ?_
  refine ⟨cA, _, rfl, ht, hn, fun j hj => ?_⟩
  rw [qclamp hi0 hxi]
  by_cases hja : (j : Int) = i
  · have hj2 : j = i.toNat := by omega
    subst hj2
    simp only [qup, upd, if_true, hja]
    exact ⟨trivial, hxx⟩
  · have hj2 : ¬ j = i.toNat := by omega
    simp only [qup, upd, if_true, hja, hj2, if_false]
    exact hf j hj
theorem qs_27 {p : Program} {l : Launch} {e : Env} {R : Room} {s : State} {m : MethodId} {args : Array Value} {below : List Frame} {meth : Method} {c : Code} {H : Heap} {locs : List Loc} {cells slots : Nat} {Q : State → Prop} {D : va_G} {A : Nat → Prop} {k pc b nx : Nat} {a : Int} {cl : List Nat} {L S : List qA} {σ : qM} {pc' : Nat} {L' S' : List qA} {σ' : qM} {n0 z0 : Nat} {ws : va_W} {tys : List (ClassId × FieldType)} {ls : Array Slot} {st : List Value}
    (hok : qok k pc (27, a, b, cl, nx) = true) (hs : qstep 27 a b cl nx pc L S σ = some (pc', L', S', σ')) (hr1 : σ'.1.length ≤ n0 + R.cells) (hr2 : qsz σ'.1 ≤ z0 + R.slots) (C : qCtx p s m args meth c R k) (Hp : qHp D A s ws tys σ H locs) (hL : qlr k ws L ls) (hS : qsr ws S st) (hc1 : cells + n0 = σ.1.length) (hc2 : slots + z0 = qsz σ.1) (hA : ∀ q, s.heap.size ≤ q → A q) (hNl : L.length = qNl k)
    (kk : ∀ (ws' : va_W) (tys' : List (ClassId × FieldType)) (H' : Heap) (locs' : List Loc) (ls' : Array Slot) (st' : List Value) (cells' slots' : Nat), qext ws ws' → qHp D A s ws' tys' σ' H' locs' → qlr k ws' L' ls' → qsr ws' S' st' → cells' + n0 = σ'.1.length → slots' + z0 = qsz σ'.1 → W p l e R s m args below meth c H' locs' cells' slots' Q (F0 m pc' ls' st')) :
    W p l e R s m args below meth c H locs cells slots Q (F0 m pc ls st) := by
  obtain ⟨hkN, hx, hb, hml, hown, hts, hret, hlk, hnm, hRf, hRl, hAO⟩ := C
  obtain ⟨hh, hP, hK, hD, hSS⟩ := Hp
  simp only [qstep] at hs
  split at hs <;> first | (cases hs; done) | skip
  split at hs <;> first | (cases hs; done) | skip
  rename_i i k0 S1 x9 ci n hkd
  rw [Option.ite_none_right_eq_some] at hs
  obtain ⟨⟨hi0, hi1⟩, hs⟩ := hs
  split at hs <;> first | (cases hs; done) | skip
  rename_i z hz
  simp only [Option.some.injEq, Prod.mk.injEq] at hs
  obtain ⟨rfl, rfl, rfl, rfl⟩ := hs
  simp only [qok, qdec, Bool.and_eq_true, decide_eq_true_eq] at hok
  obtain ⟨h1, h2⟩ := hok
  subst h2
  obtain ⟨st, rfl, hxi, hS⟩ := qsr_int hS
  obtain ⟨q, st, rfl, hq, hS⟩ := qsr_ref hS
  obtain ⟨e0, he, cA, f, rfl, ht, hn, hf⟩ := qhr_at hh hkd hq
  obtain ⟨t0, ht0⟩ := qmem_at ht
  have haz : ((i.toNat : Nat) : Int) = i := Int.toNat_of_nonneg hi0
  have hv := hf i.toNat (by omega)
  rw [haz, hz] at hv
  obtain ⟨qz, hqz, hv⟩ := hv
  refine va_aldq hx hb hK hP k0 t0 he ht0 (qvin hi0 hi1 hn) h1 ?_
  rw [qclamp hi0 hxi, hv]
  exact kk ws tys H locs ls _ cells slots qext_rf ⟨hh, hP, hK, hD, hSS⟩ hL ⟨⟨qz, hqz, rfl⟩, hS⟩ hc1 hc2
theorem qs_28 {p : Program} {l : Launch} {e : Env} {R : Room} {s : State} {m : MethodId} {args : Array Value} {below : List Frame} {meth : Method} {c : Code} {H : Heap} {locs : List Loc} {cells slots : Nat} {Q : State → Prop} {D : va_G} {A : Nat → Prop} {k pc b nx : Nat} {a : Int} {cl : List Nat} {L S : List qA} {σ : qM} {pc' : Nat} {L' S' : List qA} {σ' : qM} {n0 z0 : Nat} {ws : va_W} {tys : List (ClassId × FieldType)} {ls : Array Slot} {st : List Value}
    (hok : qok k pc (28, a, b, cl, nx) = true) (hs : qstep 28 a b cl nx pc L S σ = some (pc', L', S', σ')) (hr1 : σ'.1.length ≤ n0 + R.cells) (hr2 : qsz σ'.1 ≤ z0 + R.slots) (C : qCtx p s m args meth c R k) (Hp : qHp D A s ws tys σ H locs) (hL : qlr k ws L ls) (hS : qsr ws S st) (hc1 : cells + n0 = σ.1.length) (hc2 : slots + z0 = qsz σ.1) (hA : ∀ q, s.heap.size ≤ q → A q) (hNl : L.length = qNl k)
    (kk : ∀ (ws' : va_W) (tys' : List (ClassId × FieldType)) (H' : Heap) (locs' : List Loc) (ls' : Array Slot) (st' : List Value) (cells' slots' : Nat), qext ws ws' → qHp D A s ws' tys' σ' H' locs' → qlr k ws' L' ls' → qsr ws' S' st' → cells' + n0 = σ'.1.length → slots' + z0 = qsz σ'.1 → W p l e R s m args below meth c H' locs' cells' slots' Q (F0 m pc' ls' st')) :
    W p l e R s m args below meth c H locs cells slots Q (F0 m pc ls st) := by
  obtain ⟨hkN, hx, hb, hml, hown, hts, hret, hlk, hnm, hRf, hRl, hAO⟩ := C
  obtain ⟨hh, hP, hK, hD, hSS⟩ := Hp
  simp only [qstep] at hs
  split at hs <;> first | (cases hs; done) | skip
  split at hs <;> first | (cases hs; done) | skip
  rename_i x i k0 S1 x9 ci n hkd
  rw [Option.ite_none_right_eq_some] at hs
  obtain ⟨⟨hi0, hi1, hxk⟩, hs⟩ := hs
  simp only [Option.some.injEq, Prod.mk.injEq] at hs
  obtain ⟨rfl, rfl, rfl, rfl⟩ := hs
  simp only [qok, qdec, Bool.and_eq_true, decide_eq_true_eq] at hok
  obtain ⟨h1, h2⟩ := hok
  subst h2
  obtain ⟨qx, st, rfl, hxx, hS⟩ := qsr_ref hS
  obtain ⟨st, rfl, hxi, hS⟩ := qsr_int hS
  obtain ⟨q, st, rfl, hq, hS⟩ := qsr_ref hS
  obtain ⟨e0, he, cA, f, rfl, ht, hn, hf⟩ := qhr_at hh hkd hq
  obtain ⟨e1, he1, fs1, rfl, hl1, hI1, hR1⟩ := qhr_at hh hxk hxx
  obtain ⟨t0, ht0⟩ := qmem_at ht
  have hci : ci < 8 := by
    obtain ⟨rv, hrv, -⟩ := hP _ _ he1
    have h9 := (List.getElem?_eq_some_iff.mp hrv).1
    exact h9
  refine va_astq hx hb hK hP hD hSS k0 t0 x ci (r := (qR ci, qT ci, (qfs ci).length)) he ht0 he1 (qvw hci) (qvin hi0 hi1 hn) h1 (fun H1 locs1 hP1 hD1 hS1 => ?_)
  refine kk _ tys H1 locs1 ls _ cells slots (qext_set he) ⟨?_, hP1, hK, hD1, hS1⟩ (qlr_ext (qext_set he) hL) (qsr_ext (qext_set he) hS) hc1 hc2
  refine qhr_set (σ := σ) hh hkd he rfl (fun j hj => ⟨rfl, by funext j2; simp [qup, hj]⟩) ?_
  refine ⟨cA, _, rfl, ht, hn, fun j hj => ?_⟩
  rw [qclamp hi0 hxi]
  by_cases hja : (j : Int) = i
  · have hj2 : j = i.toNat := by omega
    subst hj2
    simp only [qup, va_up, if_true, hja]
    exact ⟨qx, qext_set he _ _ hxx, rfl⟩
  · have hj2 : ¬ j = i.toNat := by omega
    simp only [qup, va_up, if_true, hja, hj2, if_false]
    exact qrf_ext (qext_set he) (hf j hj)
theorem qs_29 {p : Program} {l : Launch} {e : Env} {R : Room} {s : State} {m : MethodId} {args : Array Value} {below : List Frame} {meth : Method} {c : Code} {H : Heap} {locs : List Loc} {cells slots : Nat} {Q : State → Prop} {D : va_G} {A : Nat → Prop} {k pc b nx : Nat} {a : Int} {cl : List Nat} {L S : List qA} {σ : qM} {pc' : Nat} {L' S' : List qA} {σ' : qM} {n0 z0 : Nat} {ws : va_W} {tys : List (ClassId × FieldType)} {ls : Array Slot} {st : List Value}
    (hok : qok k pc (29, a, b, cl, nx) = true) (hs : qstep 29 a b cl nx pc L S σ = some (pc', L', S', σ')) (hr1 : σ'.1.length ≤ n0 + R.cells) (hr2 : qsz σ'.1 ≤ z0 + R.slots) (C : qCtx p s m args meth c R k) (Hp : qHp D A s ws tys σ H locs) (hL : qlr k ws L ls) (hS : qsr ws S st) (hc1 : cells + n0 = σ.1.length) (hc2 : slots + z0 = qsz σ.1) (hA : ∀ q, s.heap.size ≤ q → A q) (hNl : L.length = qNl k)
    (kk : ∀ (ws' : va_W) (tys' : List (ClassId × FieldType)) (H' : Heap) (locs' : List Loc) (ls' : Array Slot) (st' : List Value) (cells' slots' : Nat), qext ws ws' → qHp D A s ws' tys' σ' H' locs' → qlr k ws' L' ls' → qsr ws' S' st' → cells' + n0 = σ'.1.length → slots' + z0 = qsz σ'.1 → W p l e R s m args below meth c H' locs' cells' slots' Q (F0 m pc' ls' st')) :
    W p l e R s m args below meth c H locs cells slots Q (F0 m pc ls st) := by
  obtain ⟨hkN, hx, hb, hml, hown, hts, hret, hlk, hnm, hRf, hRl, hAO⟩ := C
  obtain ⟨hh, hP, hK, hD, hSS⟩ := Hp
  simp only [qstep] at hs
  split at hs <;> first | (cases hs; done) | skip
  split at hs <;> first | (cases hs; done) | skip
  rename_i k0 S1 x9 ci n hkd
  simp only [Option.some.injEq, Prod.mk.injEq] at hs
  obtain ⟨rfl, rfl, rfl, rfl⟩ := hs
  simp only [qok, qdec, Bool.and_eq_true, decide_eq_true_eq] at hok
  obtain ⟨h1, h2⟩ := hok
  subst h2
  obtain ⟨q, st, rfl, hq, hS⟩ := qsr_ref hS
  obtain ⟨e0, he, hcr⟩ := qhr_at hh hkd hq
  cases ci with
  | zero =>
    obtain ⟨cA, f, rfl, ht, hn, hf⟩ := hcr
    obtain ⟨t0, ht0⟩ := qmem_at ht
    exact va_alen hx hb hK hP k0 t0 he ht0 (Int32.ofInt_eq_ofNat).symm h1 (kk ws tys H locs ls _ cells slots qext_rf ⟨hh, hP, hK, hD, hSS⟩ hL ⟨⟨rfl, by constructor <;> omega⟩, hS⟩ hc1 hc2)
  | succ ci =>
    obtain ⟨cA, f, rfl, ht, hn, hf⟩ := hcr
    obtain ⟨t0, ht0⟩ := qmem_at ht
    exact va_alen hx hb hK hP k0 t0 he ht0 (Int32.ofInt_eq_ofNat).symm h1 (kk ws tys H locs ls _ cells slots qext_rf ⟨hh, hP, hK, hD, hSS⟩ hL ⟨⟨rfl, by constructor <;> omega⟩, hS⟩ hc1 hc2)
theorem qs_30 {p : Program} {l : Launch} {e : Env} {R : Room} {s : State} {m : MethodId} {args : Array Value} {below : List Frame} {meth : Method} {c : Code} {H : Heap} {locs : List Loc} {cells slots : Nat} {Q : State → Prop} {D : va_G} {A : Nat → Prop} {k pc b nx : Nat} {a : Int} {cl : List Nat} {L S : List qA} {σ : qM} {pc' : Nat} {L' S' : List qA} {σ' : qM} {n0 z0 : Nat} {ws : va_W} {tys : List (ClassId × FieldType)} {ls : Array Slot} {st : List Value}
    (hok : qok k pc (30, a, b, cl, nx) = true) (hs : qstep 30 a b cl nx pc L S σ = some (pc', L', S', σ')) (hr1 : σ'.1.length ≤ n0 + R.cells) (hr2 : qsz σ'.1 ≤ z0 + R.slots) (C : qCtx p s m args meth c R k) (Hp : qHp D A s ws tys σ H locs) (hL : qlr k ws L ls) (hS : qsr ws S st) (hc1 : cells + n0 = σ.1.length) (hc2 : slots + z0 = qsz σ.1) (hA : ∀ q, s.heap.size ≤ q → A q) (hNl : L.length = qNl k)
    (kk : ∀ (ws' : va_W) (tys' : List (ClassId × FieldType)) (H' : Heap) (locs' : List Loc) (ls' : Array Slot) (st' : List Value) (cells' slots' : Nat), qext ws ws' → qHp D A s ws' tys' σ' H' locs' → qlr k ws' L' ls' → qsr ws' S' st' → cells' + n0 = σ'.1.length → slots' + z0 = qsz σ'.1 → W p l e R s m args below meth c H' locs' cells' slots' Q (F0 m pc' ls' st')) :
    W p l e R s m args below meth c H locs cells slots Q (F0 m pc ls st) := by
  obtain ⟨hkN, hx, hb, hml, hown, hts, hret, hlk, hnm, hRf, hRl, hAO⟩ := C
  obtain ⟨hh, hP, hK, hD, hSS⟩ := Hp
  simp only [qstep] at hs
  split at hs <;> first | (cases hs; done) | skip
  rename_i n S1
  rw [Option.ite_none_right_eq_some] at hs
  obtain ⟨⟨hn0, hn1⟩, hs⟩ := hs
  simp only [Option.some.injEq, Prod.mk.injEq] at hs
  obtain ⟨rfl, rfl, rfl, rfl⟩ := hs
  simp only [qok, qdec, Bool.and_eq_true, decide_eq_true_eq] at hok
  obtain ⟨h1, h2⟩ := hok
  subst h2
  obtain ⟨st, rfl, hxi, hS⟩ := qsr_int hS
  have hz1 : (qold σ (1, n.toNat)).1.length = σ.1.length + 1 := by simp [qold]
  have hz2 : qsz (qold σ (1, n.toNat)).1 = qsz σ.1 + n.toNat := by simp [qold, qsz_app, qsz, qszk]
  have hat : ∀ (q : Nat) (e : va_E), qat (ws ++ [(q, e)]) σ.1.length q := fun q e => ⟨e, by rw [← hh.1]; simp⟩
  refine va_newa (atype := .int) hx hb (hts _ (qtb_at qw_arr rfl)) rfl hK hP hD hSS hA (a0 := (n.toNat, .inl (fun _ => 0))) (fun cA => rfl) (fun h => absurd ((qlt hxi q0in).mp h) (by omega)) (qclamp hn0 hxi) (by show n.toNat * 4 ≤ _; omega) (by omega) (by omega) h1 (fun q cA H1 hK1 hP1 hD1 hS1 => ?_)
  refine kk _ _ H1 locs ls _ _ _ qext_app ⟨qhr_new hh (fun x hx => List.mem_append_left _ hx) ?_, hP1, hK1, hD1, hS1⟩ (qlr_ext qext_app hL) ⟨⟨q, hat _ _, rfl⟩, qsr_ext qext_app hS⟩ (by omega) (by omega)
  exact ⟨cA, _, rfl, List.mem_append_right _ (List.mem_singleton.mpr rfl), by omega, fun j hj => ⟨rfl, q0in⟩⟩
theorem qs_31 {p : Program} {l : Launch} {e : Env} {R : Room} {s : State} {m : MethodId} {args : Array Value} {below : List Frame} {meth : Method} {c : Code} {H : Heap} {locs : List Loc} {cells slots : Nat} {Q : State → Prop} {D : va_G} {A : Nat → Prop} {k pc b nx : Nat} {a : Int} {cl : List Nat} {L S : List qA} {σ : qM} {pc' : Nat} {L' S' : List qA} {σ' : qM} {n0 z0 : Nat} {ws : va_W} {tys : List (ClassId × FieldType)} {ls : Array Slot} {st : List Value}
    (hok : qok k pc (31, a, b, cl, nx) = true) (hs : qstep 31 a b cl nx pc L S σ = some (pc', L', S', σ')) (hr1 : σ'.1.length ≤ n0 + R.cells) (hr2 : qsz σ'.1 ≤ z0 + R.slots) (C : qCtx p s m args meth c R k) (Hp : qHp D A s ws tys σ H locs) (hL : qlr k ws L ls) (hS : qsr ws S st) (hc1 : cells + n0 = σ.1.length) (hc2 : slots + z0 = qsz σ.1) (hA : ∀ q, s.heap.size ≤ q → A q) (hNl : L.length = qNl k)
    (kk : ∀ (ws' : va_W) (tys' : List (ClassId × FieldType)) (H' : Heap) (locs' : List Loc) (ls' : Array Slot) (st' : List Value) (cells' slots' : Nat), qext ws ws' → qHp D A s ws' tys' σ' H' locs' → qlr k ws' L' ls' → qsr ws' S' st' → cells' + n0 = σ'.1.length → slots' + z0 = qsz σ'.1 → W p l e R s m args below meth c H' locs' cells' slots' Q (F0 m pc' ls' st')) :
    W p l e R s m args below meth c H locs cells slots Q (F0 m pc ls st) := by
  obtain ⟨hkN, hx, hb, hml, hown, hts, hret, hlk, hnm, hRf, hRl, hAO⟩ := C
  obtain ⟨hh, hP, hK, hD, hSS⟩ := Hp
  simp only [qstep] at hs
  split at hs <;> first | (cases hs; done) | skip
  rename_i n S1
  rw [Option.ite_none_right_eq_some] at hs
  obtain ⟨⟨hn0, hn1⟩, hs⟩ := hs
  simp only [Option.some.injEq, Prod.mk.injEq] at hs
  obtain ⟨rfl, rfl, rfl, rfl⟩ := hs
  simp only [qok, qdec, Bool.and_eq_true, decide_eq_true_eq] at hok
  obtain ⟨⟨⟨h1, h2, h5⟩, h3⟩, h4⟩ := hok
  subst h2
  obtain ⟨st, rfl, hxi, hS⟩ := qsr_int hS
  have hz1 : (qold σ (cl.headD 0 + 2, n.toNat)).1.length = σ.1.length + 1 := by simp [qold]
  have hz2 : qsz (qold σ (cl.headD 0 + 2, n.toNat)).1 = qsz σ.1 + n.toNat := by simp [qold, qsz_app, qsz, qszk]
  have hat : ∀ (q : Nat) (e : va_E), qat (ws ++ [(q, e)]) σ.1.length q := fun q e => ⟨e, by rw [← hh.1]; simp⟩
  refine va_newq hx hb hown (hts _ (qcl_at h3)) (hAO _ h4) hK hP hD hSS hA (fun h => absurd ((qlt hxi q0in).mp h) (by omega)) (qclamp hn0 hxi) (by omega) (by omega) (by omega) h1 (fun q cA H1 hK1 hP1 hD1 hS1 => ?_)
  refine kk _ _ H1 locs ls _ _ _ qext_app ⟨qhr_new hh (fun x hx => List.mem_append_left _ hx) ?_, hP1, hK1, hD1, hS1⟩ (qlr_ext qext_app hL) ⟨⟨q, hat _ _, rfl⟩, qsr_ext qext_app hS⟩ (by omega) (by omega)
  exact ⟨cA, _, rfl, by simp, by omega, fun j hj => rfl⟩
theorem qs_32 {p : Program} {l : Launch} {e : Env} {R : Room} {s : State} {m : MethodId} {args : Array Value} {below : List Frame} {meth : Method} {c : Code} {H : Heap} {locs : List Loc} {cells slots : Nat} {Q : State → Prop} {D : va_G} {A : Nat → Prop} {k pc b nx : Nat} {a : Int} {cl : List Nat} {L S : List qA} {σ : qM} {pc' : Nat} {L' S' : List qA} {σ' : qM} {n0 z0 : Nat} {ws : va_W} {tys : List (ClassId × FieldType)} {ls : Array Slot} {st : List Value}
    (hok : qok k pc (32, a, b, cl, nx) = true) (hs : qstep 32 a b cl nx pc L S σ = some (pc', L', S', σ')) (hr1 : σ'.1.length ≤ n0 + R.cells) (hr2 : qsz σ'.1 ≤ z0 + R.slots) (C : qCtx p s m args meth c R k) (Hp : qHp D A s ws tys σ H locs) (hL : qlr k ws L ls) (hS : qsr ws S st) (hc1 : cells + n0 = σ.1.length) (hc2 : slots + z0 = qsz σ.1) (hA : ∀ q, s.heap.size ≤ q → A q) (hNl : L.length = qNl k)
    (kk : ∀ (ws' : va_W) (tys' : List (ClassId × FieldType)) (H' : Heap) (locs' : List Loc) (ls' : Array Slot) (st' : List Value) (cells' slots' : Nat), qext ws ws' → qHp D A s ws' tys' σ' H' locs' → qlr k ws' L' ls' → qsr ws' S' st' → cells' + n0 = σ'.1.length → slots' + z0 = qsz σ'.1 → W p l e R s m args below meth c H' locs' cells' slots' Q (F0 m pc' ls' st')) :
    W p l e R s m args below meth c H locs cells slots Q (F0 m pc ls st) := by
  obtain ⟨hkN, hx, hb, hml, hown, hts, hret, hlk, hnm, hRf, hRl, hAO⟩ := C
  obtain ⟨hh, hP, hK, hD, hSS⟩ := Hp
  simp only [qstep] at hs
  simp only [Option.some.injEq, Prod.mk.injEq] at hs
  obtain ⟨rfl, rfl, rfl, rfl⟩ := hs
  simp only [qok, qdec, Bool.and_eq_true, decide_eq_true_eq] at hok
  obtain ⟨⟨h1, h2, h5⟩, h3⟩ := hok
  subst h2
  have hz1 : (qold σ (0, cl.headD 0)).1.length = σ.1.length + 1 := by simp [qold]
  have hz2 : qsz (qold σ (0, cl.headD 0)).1 = qsz σ.1 + (qfs (cl.headD 0)).length := by simp [qold, qsz_app, qsz, qszk]
  have hat : ∀ (q : Nat) (e : va_E), qat (ws ++ [(q, e)]) σ.1.length q := fun q e => ⟨e, by rw [← hh.1]; simp⟩
  have hfs : ∀ j, j < (qfs (cl.headD 0)).length → defaultValue (qty (cl.headD 0) j) = vp_V ((qfs (cl.headD 0)).map (fun t => if t = true then Value.null else .int 0)) j := by
    intro j hj
    cases ht : (qfs (cl.headD 0))[j]? with
    | none => exact absurd (List.getElem?_eq_none_iff.mp ht) (by omega)
    | some t =>
      have hv : vp_V ((qfs (cl.headD 0)).map (fun t => if t = true then Value.null else .int 0)) j = if t = true then Value.null else .int 0 := by
        unfold vp_V
        rw [List.getD_eq_getElem?_getD, List.getElem?_map, ht]
        rfl
      rw [hv]
      cases t with
      | false => rw [qty_int ht]; rfl
      | true => rcases qty_ref ht with ⟨n, h⟩ | ⟨n, h⟩ <;> rw [h] <;> rfl
  refine va_new (ci := cl.headD 0) (fs := (qfs (cl.headD 0)).map (fun t => if t = true then Value.null else .int 0)) hx hb hts (qu_all h5) (qty (cl.headD 0)) (qty_all h5) hown (hts _ (qcl_at h3)) (hts _ ((qcp_at (Nat.lt_succ_of_lt h5)).1 h5)) (hts _ (qcp_at (Nat.lt_succ_of_lt h5)).2) hK hP hD hSS hA (qvw h5) hfs (by omega) (by omega) h1 (fun q H1 hP1 hD1 hS1 => ?_)
  refine kk _ _ H1 locs ls _ _ _ qext_app ⟨qhr_new hh (fun x hx => hx) ?_, hP1, hK, hD1, hS1⟩ (qlr_ext qext_app hL) ⟨⟨q, hat _ _, rfl⟩, qsr_ext qext_app hS⟩ (by omega) (by omega)
  refine ⟨_, rfl, by simp, fun j hj => ?_, fun j hj => ?_⟩
  · rw [List.getElem?_map, hj]
    exact ⟨rfl, q0in⟩
  · rw [List.getElem?_map, hj]
    exact ⟨none, rfl, rfl⟩
theorem qs_33 {p : Program} {l : Launch} {e : Env} {R : Room} {s : State} {m : MethodId} {args : Array Value} {below : List Frame} {meth : Method} {c : Code} {H : Heap} {locs : List Loc} {cells slots : Nat} {Q : State → Prop} {D : va_G} {A : Nat → Prop} {k pc b nx : Nat} {a : Int} {cl : List Nat} {L S : List qA} {σ : qM} {pc' : Nat} {L' S' : List qA} {σ' : qM} {n0 z0 : Nat} {ws : va_W} {tys : List (ClassId × FieldType)} {ls : Array Slot} {st : List Value}
    (hok : qok k pc (33, a, b, cl, nx) = true) (hs : qstep 33 a b cl nx pc L S σ = some (pc', L', S', σ')) (hr1 : σ'.1.length ≤ n0 + R.cells) (hr2 : qsz σ'.1 ≤ z0 + R.slots) (C : qCtx p s m args meth c R k) (Hp : qHp D A s ws tys σ H locs) (hL : qlr k ws L ls) (hS : qsr ws S st) (hc1 : cells + n0 = σ.1.length) (hc2 : slots + z0 = qsz σ.1) (hA : ∀ q, s.heap.size ≤ q → A q) (hNl : L.length = qNl k)
    (kk : ∀ (ws' : va_W) (tys' : List (ClassId × FieldType)) (H' : Heap) (locs' : List Loc) (ls' : Array Slot) (st' : List Value) (cells' slots' : Nat), qext ws ws' → qHp D A s ws' tys' σ' H' locs' → qlr k ws' L' ls' → qsr ws' S' st' → cells' + n0 = σ'.1.length → slots' + z0 = qsz σ'.1 → W p l e R s m args below meth c H' locs' cells' slots' Q (F0 m pc' ls' st')) :
    W p l e R s m args below meth c H locs cells slots Q (F0 m pc ls st) := by
  obtain ⟨hkN, hx, hb, hml, hown, hts, hret, hlk, hnm, hRf, hRl, hAO⟩ := C
  obtain ⟨hh, hP, hK, hD, hSS⟩ := Hp
  simp only [qstep] at hs
  split at hs <;> first | (cases hs; done) | skip
  rename_i y x S1
  rw [Option.ite_none_right_eq_some] at hs
  obtain ⟨hl8, hs⟩ := hs
  simp only [Option.some.injEq, Prod.mk.injEq] at hs
  obtain ⟨rfl, rfl, rfl, rfl⟩ := hs
  simp only [qok, qdec, Bool.and_eq_true, decide_eq_true_eq] at hok
  obtain ⟨⟨h1, h2, h5, h6⟩, h3⟩ := hok
  subst h2
  obtain ⟨st, rfl, hq, hS⟩ := qsr_int hS
  obtain ⟨st, rfl, hq1, hS⟩ := qsr_int hS
  obtain ⟨w1, w2, w3⟩ := qw_max
  have hcat := qsr_cat2 hS
  have hlen := qsr_len hS
  refine va_mmax hx hb (hml.trans (hL.1.trans hNl).symm) hown (hts _ (qmx_at h3)) (hts _ (qtb_at w1 rfl)) (hts _ (qtb_at w2 rfl)) (hts _ (qtb_at w3 rfl)) (by omega) (by omega) (by omega) (by omega) h1 ?_
  refine kk ws tys H locs ls _ cells slots qext_rf ⟨hh, hP, hK, hD, hSS⟩ hL ⟨?_, hS⟩ hc1 hc2
  by_cases hxy : x < y
  · rw [if_pos ((qlt hq1 hq).mpr hxy), if_pos hxy]
    exact ⟨rfl, hq⟩
  · rw [if_neg (fun h => hxy ((qlt hq1 hq).mp h)), if_neg hxy]
    exact ⟨rfl, hq1⟩
theorem qs_34 {p : Program} {l : Launch} {e : Env} {R : Room} {s : State} {m : MethodId} {args : Array Value} {below : List Frame} {meth : Method} {c : Code} {H : Heap} {locs : List Loc} {cells slots : Nat} {Q : State → Prop} {D : va_G} {A : Nat → Prop} {k pc b nx : Nat} {a : Int} {cl : List Nat} {L S : List qA} {σ : qM} {pc' : Nat} {L' S' : List qA} {σ' : qM} {n0 z0 : Nat} {ws : va_W} {tys : List (ClassId × FieldType)} {ls : Array Slot} {st : List Value}
    (hok : qok k pc (34, a, b, cl, nx) = true) (hs : qstep 34 a b cl nx pc L S σ = some (pc', L', S', σ')) (hr1 : σ'.1.length ≤ n0 + R.cells) (hr2 : qsz σ'.1 ≤ z0 + R.slots) (C : qCtx p s m args meth c R k) (Hp : qHp D A s ws tys σ H locs) (hL : qlr k ws L ls) (hS : qsr ws S st) (hc1 : cells + n0 = σ.1.length) (hc2 : slots + z0 = qsz σ.1) (hA : ∀ q, s.heap.size ≤ q → A q) (hNl : L.length = qNl k)
    (kk : ∀ (ws' : va_W) (tys' : List (ClassId × FieldType)) (H' : Heap) (locs' : List Loc) (ls' : Array Slot) (st' : List Value) (cells' slots' : Nat), qext ws ws' → qHp D A s ws' tys' σ' H' locs' → qlr k ws' L' ls' → qsr ws' S' st' → cells' + n0 = σ'.1.length → slots' + z0 = qsz σ'.1 → W p l e R s m args below meth c H' locs' cells' slots' Q (F0 m pc' ls' st')) :
    W p l e R s m args below meth c H locs cells slots Q (F0 m pc ls st) := by
  obtain ⟨hkN, hx, hb, hml, hown, hts, hret, hlk, hnm, hRf, hRl, hAO⟩ := C
  obtain ⟨hh, hP, hK, hD, hSS⟩ := Hp
  simp only [qstep] at hs
  split at hs <;> first | (cases hs; done) | skip
  rename_i x S1
  rw [Option.ite_none_right_eq_some] at hs
  obtain ⟨hl8, hs⟩ := hs
  simp only [Option.some.injEq, Prod.mk.injEq] at hs
  obtain ⟨rfl, rfl, rfl, rfl⟩ := hs
  simp only [qok, qdec, Bool.and_eq_true, decide_eq_true_eq] at hok
  obtain ⟨⟨h1, h2, h5, h6⟩, h3⟩ := hok
  subst h2
  obtain ⟨q, st, rfl, hq, hS⟩ := qsr_ref hS
  obtain ⟨w1, w2⟩ := qw_oin
  have hcat := qsr_cat2 hS
  have hlen := qsr_len hS
  refine W.objInit hx hb hown (hts _ (qoi_at h3)) (hts _ (qtb_at w1 rfl)) (hts _ (qtb_at w2 rfl)) rfl ((hL.1.trans hNl).trans hml.symm) rfl h1 (by omega) (by have hr := lv_room (m := m) (pc := pc) (ls := ls) (rest := .ref q :: st) (st := st) (by omega); show 2 * (F0 m pc ls (.ref q :: st)).monitorRoom + (st.map fun v => v.category).sum + 12 ≤ _; omega) ?_
  exact kk ws tys H locs ls _ cells slots qext_rf ⟨hh, hP, hK, hD, hSS⟩ hL hS hc1 hc2
theorem qs_11 {p : Program} {l : Launch} {e : Env} {R : Room} {s : State} {m : MethodId} {args : Array Value} {below : List Frame} {meth : Method} {c : Code} {H : Heap} {locs : List Loc} {cells slots : Nat} {Q : State → Prop} {D : va_G} {A : Nat → Prop} {k pc b nx : Nat} {a : Int} {cl : List Nat} {L S : List qA} {σ : qM} {pc' : Nat} {L' S' : List qA} {σ' : qM} {n0 z0 : Nat} {ws : va_W} {tys : List (ClassId × FieldType)} {ls : Array Slot} {st : List Value}
    (hok : qok k pc (11, a, b, cl, nx) = true) (hs : qstep 11 a b cl nx pc L S σ = some (pc', L', S', σ')) (hr1 : σ'.1.length ≤ n0 + R.cells) (hr2 : qsz σ'.1 ≤ z0 + R.slots) (C : qCtx p s m args meth c R k) (Hp : qHp D A s ws tys σ H locs) (hL : qlr k ws L ls) (hS : qsr ws S st) (hc1 : cells + n0 = σ.1.length) (hc2 : slots + z0 = qsz σ.1) (hA : ∀ q, s.heap.size ≤ q → A q) (hNl : L.length = qNl k)
    (kk : ∀ (ws' : va_W) (tys' : List (ClassId × FieldType)) (H' : Heap) (locs' : List Loc) (ls' : Array Slot) (st' : List Value) (cells' slots' : Nat), qext ws ws' → qHp D A s ws' tys' σ' H' locs' → qlr k ws' L' ls' → qsr ws' S' st' → cells' + n0 = σ'.1.length → slots' + z0 = qsz σ'.1 → W p l e R s m args below meth c H' locs' cells' slots' Q (F0 m pc' ls' st')) :
    W p l e R s m args below meth c H locs cells slots Q (F0 m pc ls st) := by
  obtain ⟨hkN, hx, hb, hml, hown, hts, hret, hlk, hnm, hRf, hRl, hAO⟩ := C
  obtain ⟨hh, hP, hK, hD, hSS⟩ := Hp
  simp only [qstep] at hs
  split at hs <;> first | (cases hs; done) | skip
  rename_i y x S1
  simp only [Option.some.injEq, Prod.mk.injEq] at hs
  obtain ⟨rfl, rfl, rfl, rfl⟩ := hs
  simp only [qok, qdec, Bool.and_eq_true, decide_eq_true_eq] at hok
  obtain ⟨st, rfl, hq, hS⟩ := qsr_int hS
  obtain ⟨st, rfl, hq1, hS⟩ := qsr_int hS
  obtain ⟨h1, h2⟩ := hok
  subst h2
  have hqv : ∀ w : Int32, w.toInt = qop2 a x y → qvr ws (.inl (qop2 a x y)) (.int w) := fun w hw => ⟨by rw [← hw, Int32.ofInt_toInt], by rw [← hw]; exact ⟨by have := Int32.le_toInt w; omega, by have := Int32.toInt_lt w; omega⟩⟩
  by_cases a0 : a = 0
  · rw [if_pos a0] at h1
    exact lv_iand hx hb (of_decide_eq_true h1) (kk ws tys H locs ls _ cells slots qext_rf ⟨hh, hP, hK, hD, hSS⟩ hL ⟨hqv _ (by simp [qop2, a0]), hS⟩ hc1 hc2)
  rw [if_neg a0] at h1
  by_cases a1 : a = 1
  · rw [if_pos a1] at h1
    exact lv_ior hx hb (of_decide_eq_true h1) (kk ws tys H locs ls _ cells slots qext_rf ⟨hh, hP, hK, hD, hSS⟩ hL ⟨hqv _ (by simp [qop2, a1]), hS⟩ hc1 hc2)
  rw [if_neg a1] at h1
  by_cases a2 : a = 2
  · rw [if_pos a2] at h1
    exact lv_ishl hx hb (of_decide_eq_true h1) (kk ws tys H locs ls _ cells slots qext_rf ⟨hh, hP, hK, hD, hSS⟩ hL ⟨hqv _ (by simp [qop2, a2]), hS⟩ hc1 hc2)
  rw [if_neg a2] at h1
  by_cases a3 : a = 3
  · rw [if_pos a3] at h1
    exact lv_ishr hx hb (of_decide_eq_true h1) (kk ws tys H locs ls _ cells slots qext_rf ⟨hh, hP, hK, hD, hSS⟩ hL ⟨hqv _ (by simp [qop2, a3]), hS⟩ hc1 hc2)
  rw [if_neg a3] at h1
  by_cases a4 : a = 4
  · rw [if_pos a4] at h1
    exact lv_iadd hx hb (of_decide_eq_true h1) (kk ws tys H locs ls _ cells slots qext_rf ⟨hh, hP, hK, hD, hSS⟩ hL ⟨hqv _ (by simp [qop2, a4]), hS⟩ hc1 hc2)
  rw [if_neg a4] at h1
  exact lv_imul hx hb (of_decide_eq_true h1) (kk ws tys H locs ls _ cells slots qext_rf ⟨hh, hP, hK, hD, hSS⟩ hL ⟨hqv _ (by simp [qop2, a0, a1, a2, a3, a4]), hS⟩ hc1 hc2)
theorem qs_35 {p : Program} {l : Launch} {e : Env} {R : Room} {s : State} {m : MethodId} {args : Array Value} {below : List Frame} {meth : Method} {c : Code} {H : Heap} {locs : List Loc} {cells slots : Nat} {Q : State → Prop} {D : va_G} {A : Nat → Prop} {k pc b nx : Nat} {a : Int} {cl : List Nat} {L S : List qA} {σ : qM} {pc' : Nat} {L' S' : List qA} {σ' : qM} {n0 z0 : Nat} {ws : va_W} {tys : List (ClassId × FieldType)} {ls : Array Slot} {st : List Value}
    (hok : qok k pc (35, a, b, cl, nx) = true) (hs : qstep 35 a b cl nx pc L S σ = some (pc', L', S', σ')) (hr1 : σ'.1.length ≤ n0 + R.cells) (hr2 : qsz σ'.1 ≤ z0 + R.slots) (C : qCtx p s m args meth c R k) (Hp : qHp D A s ws tys σ H locs) (hL : qlr k ws L ls) (hS : qsr ws S st) (hc1 : cells + n0 = σ.1.length) (hc2 : slots + z0 = qsz σ.1) (hA : ∀ q, s.heap.size ≤ q → A q) (hNl : L.length = qNl k)
    (kk : ∀ (ws' : va_W) (tys' : List (ClassId × FieldType)) (H' : Heap) (locs' : List Loc) (ls' : Array Slot) (st' : List Value) (cells' slots' : Nat), qext ws ws' → qHp D A s ws' tys' σ' H' locs' → qlr k ws' L' ls' → qsr ws' S' st' → cells' + n0 = σ'.1.length → slots' + z0 = qsz σ'.1 → W p l e R s m args below meth c H' locs' cells' slots' Q (F0 m pc' ls' st')) :
    W p l e R s m args below meth c H locs cells slots Q (F0 m pc ls st) := by
  obtain ⟨hkN, hx, hb, hml, hown, hts, hret, hlk, hnm, hRf, hRl, hAO⟩ := C
  obtain ⟨hh, hP, hK, hD, hSS⟩ := Hp
  simp only [qstep] at hs
  simp only [qok, qdec, Bool.and_eq_true, decide_eq_true_eq] at hok
  obtain ⟨h1, h2⟩ := hok
  subst h2
  by_cases a0 : a = 0
  · rw [if_pos a0] at h1 hs
    split at hs <;> first | (cases hs; done) | skip
    simp only [Option.some.injEq, Prod.mk.injEq] at hs
    obtain ⟨rfl, rfl, rfl, rfl⟩ := hs
    obtain ⟨st, rfl, hq, hS⟩ := qsr_int hS
    exact lv_i2l hx hb (of_decide_eq_true h1) rfl (kk ws tys H locs ls _ cells slots qext_rf ⟨hh, hP, hK, hD, hSS⟩ hL ⟨rfl, hS⟩ hc1 hc2)
  · rw [if_neg a0] at h1 hs
    split at hs <;> first | (cases hs; done) | skip
    rename_i y x S1
    rw [Option.ite_none_right_eq_some] at hs
    obtain ⟨hxy, hs⟩ := hs
    simp only [Option.some.injEq, Prod.mk.injEq] at hs
    obtain ⟨rfl, rfl, rfl, rfl⟩ := hs
    obtain ⟨st1, rfl, hS1⟩ := qsr_long hS
    obtain ⟨st2, rfl, hS2⟩ := qsr_long hS1
    subst hxy
    refine W.lcmp hx hb (of_decide_eq_true h1) (kk ws tys H locs ls _ cells slots qext_rf ⟨hh, hP, hK, hD, hSS⟩ hL ⟨⟨?_, q0in⟩, hS2⟩ hc1 hc2)
    have : lg_cmp x x = 0 := by simp [lg_cmp]
    rw [this]; rfl
theorem qs_36 {p : Program} {l : Launch} {e : Env} {R : Room} {s : State} {m : MethodId} {args : Array Value} {below : List Frame} {meth : Method} {c : Code} {H : Heap} {locs : List Loc} {cells slots : Nat} {Q : State → Prop} {D : va_G} {A : Nat → Prop} {k pc b nx : Nat} {a : Int} {cl : List Nat} {L S : List qA} {σ : qM} {pc' : Nat} {L' S' : List qA} {σ' : qM} {n0 z0 : Nat} {ws : va_W} {tys : List (ClassId × FieldType)} {ls : Array Slot} {st : List Value}
    (hok : qok k pc (36, a, b, cl, nx) = true) (hs : qstep 36 a b cl nx pc L S σ = some (pc', L', S', σ')) (hr1 : σ'.1.length ≤ n0 + R.cells) (hr2 : qsz σ'.1 ≤ z0 + R.slots) (C : qCtx p s m args meth c R k) (Hp : qHp D A s ws tys σ H locs) (hL : qlr k ws L ls) (hS : qsr ws S st) (hc1 : cells + n0 = σ.1.length) (hc2 : slots + z0 = qsz σ.1) (hA : ∀ q, s.heap.size ≤ q → A q) (hNl : L.length = qNl k)
    (kk : ∀ (ws' : va_W) (tys' : List (ClassId × FieldType)) (H' : Heap) (locs' : List Loc) (ls' : Array Slot) (st' : List Value) (cells' slots' : Nat), qext ws ws' → qHp D A s ws' tys' σ' H' locs' → qlr k ws' L' ls' → qsr ws' S' st' → cells' + n0 = σ'.1.length → slots' + z0 = qsz σ'.1 → W p l e R s m args below meth c H' locs' cells' slots' Q (F0 m pc' ls' st')) :
    W p l e R s m args below meth c H locs cells slots Q (F0 m pc ls st) := by
  obtain ⟨hkN, hx, hb, hml, hown, hts, hret, hlk, hnm, hRf, hRl, hAO⟩ := C
  obtain ⟨hh, hP, hK, hD, hSS⟩ := Hp
  simp only [qstep] at hs
  split at hs <;> first | (cases hs; done) | skip
  rename_i x hx0
  simp only [Option.some.injEq, Prod.mk.injEq] at hs
  obtain ⟨rfl, rfl, rfl, rfl⟩ := hs
  simp only [qok, qdec, Bool.and_eq_true, Bool.or_eq_true, decide_eq_true_eq] at hok
  obtain ⟨v, hv, hl⟩ := hL.2.2.1 b _ hx0
  have hv : v = _ := hv
  subst hv
  rcases hok with ⟨⟨h1, h2⟩, h3⟩ | ⟨h1, h2⟩
  · subst h2
    exact lv_lload_n hx hb h3 (qfin4 h1) hl (kk ws tys H locs ls _ cells slots qext_rf ⟨hh, hP, hK, hD, hSS⟩ hL ⟨rfl, hS⟩ hc1 hc2)
  · subst h2
    exact lv_lload hx hb h1 hl (kk ws tys H locs ls _ cells slots qext_rf ⟨hh, hP, hK, hD, hSS⟩ hL ⟨rfl, hS⟩ hc1 hc2)
theorem qs_37 {p : Program} {l : Launch} {e : Env} {R : Room} {s : State} {m : MethodId} {args : Array Value} {below : List Frame} {meth : Method} {c : Code} {H : Heap} {locs : List Loc} {cells slots : Nat} {Q : State → Prop} {D : va_G} {A : Nat → Prop} {k pc b nx : Nat} {a : Int} {cl : List Nat} {L S : List qA} {σ : qM} {pc' : Nat} {L' S' : List qA} {σ' : qM} {n0 z0 : Nat} {ws : va_W} {tys : List (ClassId × FieldType)} {ls : Array Slot} {st : List Value}
    (hok : qok k pc (37, a, b, cl, nx) = true) (hs : qstep 37 a b cl nx pc L S σ = some (pc', L', S', σ')) (hr1 : σ'.1.length ≤ n0 + R.cells) (hr2 : qsz σ'.1 ≤ z0 + R.slots) (C : qCtx p s m args meth c R k) (Hp : qHp D A s ws tys σ H locs) (hL : qlr k ws L ls) (hS : qsr ws S st) (hc1 : cells + n0 = σ.1.length) (hc2 : slots + z0 = qsz σ.1) (hA : ∀ q, s.heap.size ≤ q → A q) (hNl : L.length = qNl k)
    (kk : ∀ (ws' : va_W) (tys' : List (ClassId × FieldType)) (H' : Heap) (locs' : List Loc) (ls' : Array Slot) (st' : List Value) (cells' slots' : Nat), qext ws ws' → qHp D A s ws' tys' σ' H' locs' → qlr k ws' L' ls' → qsr ws' S' st' → cells' + n0 = σ'.1.length → slots' + z0 = qsz σ'.1 → W p l e R s m args below meth c H' locs' cells' slots' Q (F0 m pc' ls' st')) :
    W p l e R s m args below meth c H locs cells slots Q (F0 m pc ls st) := by
  obtain ⟨hkN, hx, hb, hml, hown, hts, hret, hlk, hnm, hRf, hRl, hAO⟩ := C
  obtain ⟨hh, hP, hK, hD, hSS⟩ := Hp
  simp only [qstep] at hs
  split at hs <;> first | (cases hs; done) | skip
  rename_i x S1
  rw [Option.ite_none_right_eq_some] at hs
  obtain ⟨hbl, hs⟩ := hs
  simp only [Option.some.injEq, Prod.mk.injEq] at hs
  obtain ⟨rfl, rfl, rfl, rfl⟩ := hs
  simp only [qok, qdec, Bool.and_eq_true, Bool.or_eq_true, decide_eq_true_eq] at hok
  obtain ⟨st1, rfl, hS1⟩ := qsr_long hS
  have hbl : b + 1 < ls.size := by rw [hL.1]; exact hbl
  obtain ⟨hok, hnb, hcn⟩ := hok
  have hcn : b ∈ qlj k := by simpa using hcn
  rcases hok with ⟨⟨h1, h2⟩, h3⟩ | ⟨h1, h2⟩
  · subst h2
    exact lv_lstore_n hx hb h3 (qfin4 h1) (qlv_has hL.2.1) hbl rfl (fun ls' hl' => kk ws tys H locs ls' _ cells slots qext_rf ⟨hh, hP, hK, hD, hSS⟩ (qlr_setL hL hnb hcn hl') hS1 hc1 hc2)
  · subst h2
    exact lv_lstore hx hb h1 (qlv_has hL.2.1) hbl rfl (fun ls' hl' => kk ws tys H locs ls' _ cells slots qext_rf ⟨hh, hP, hK, hD, hSS⟩ (qlr_setL hL hnb hcn hl') hS1 hc1 hc2)
theorem qs_38 {p : Program} {l : Launch} {e : Env} {R : Room} {s : State} {m : MethodId} {args : Array Value} {below : List Frame} {meth : Method} {c : Code} {H : Heap} {locs : List Loc} {cells slots : Nat} {Q : State → Prop} {D : va_G} {A : Nat → Prop} {k pc b nx : Nat} {a : Int} {cl : List Nat} {L S : List qA} {σ : qM} {pc' : Nat} {L' S' : List qA} {σ' : qM} {n0 z0 : Nat} {ws : va_W} {tys : List (ClassId × FieldType)} {ls : Array Slot} {st : List Value}
    (hok : qok k pc (38, a, b, cl, nx) = true) (hs : qstep 38 a b cl nx pc L S σ = some (pc', L', S', σ')) (hr1 : σ'.1.length ≤ n0 + R.cells) (hr2 : qsz σ'.1 ≤ z0 + R.slots) (C : qCtx p s m args meth c R k) (Hp : qHp D A s ws tys σ H locs) (hL : qlr k ws L ls) (hS : qsr ws S st) (hc1 : cells + n0 = σ.1.length) (hc2 : slots + z0 = qsz σ.1) (hA : ∀ q, s.heap.size ≤ q → A q) (hNl : L.length = qNl k)
    (kk : ∀ (ws' : va_W) (tys' : List (ClassId × FieldType)) (H' : Heap) (locs' : List Loc) (ls' : Array Slot) (st' : List Value) (cells' slots' : Nat), qext ws ws' → qHp D A s ws' tys' σ' H' locs' → qlr k ws' L' ls' → qsr ws' S' st' → cells' + n0 = σ'.1.length → slots' + z0 = qsz σ'.1 → W p l e R s m args below meth c H' locs' cells' slots' Q (F0 m pc' ls' st')) :
    W p l e R s m args below meth c H locs cells slots Q (F0 m pc ls st) := by
  obtain ⟨hkN, hx, hb, hml, hown, hts, hret, hlk, hnm, hRf, hRl, hAO⟩ := C
  obtain ⟨hh, hP, hK, hD, hSS⟩ := Hp
  simp only [qstep] at hs
  split at hs <;> first | (cases hs; done) | skip
  rename_i y x S1
  simp only [Option.some.injEq, Prod.mk.injEq] at hs
  obtain ⟨rfl, rfl, rfl, rfl⟩ := hs
  simp only [qok, qdec, Bool.and_eq_true, decide_eq_true_eq] at hok
  obtain ⟨st1, rfl, hS1⟩ := qsr_long hS
  obtain ⟨st2, rfl, hS2⟩ := qsr_long hS1
  obtain ⟨h1, h2⟩ := hok
  subst h2
  by_cases a0 : a = 0
  · rw [if_pos a0] at h1
    exact lv_ladd hx hb (of_decide_eq_true h1) (kk ws tys H locs ls _ cells slots qext_rf ⟨hh, hP, hK, hD, hSS⟩ hL ⟨by simp [qvr, a0], hS2⟩ hc1 hc2)
  · rw [if_neg a0] at h1
    exact lv_lmul hx hb (of_decide_eq_true h1) (kk ws tys H locs ls _ cells slots qext_rf ⟨hh, hP, hK, hD, hSS⟩ hL ⟨by simp [qvr, a0], hS2⟩ hc1 hc2)
theorem qs_39 {p : Program} {l : Launch} {e : Env} {R : Room} {s : State} {m : MethodId} {args : Array Value} {below : List Frame} {meth : Method} {c : Code} {H : Heap} {locs : List Loc} {cells slots : Nat} {Q : State → Prop} {D : va_G} {A : Nat → Prop} {k pc b nx : Nat} {a : Int} {cl : List Nat} {L S : List qA} {σ : qM} {pc' : Nat} {L' S' : List qA} {σ' : qM} {n0 z0 : Nat} {ws : va_W} {tys : List (ClassId × FieldType)} {ls : Array Slot} {st : List Value}
    (hok : qok k pc (39, a, b, cl, nx) = true) (hs : qstep 39 a b cl nx pc L S σ = some (pc', L', S', σ')) (hr1 : σ'.1.length ≤ n0 + R.cells) (hr2 : qsz σ'.1 ≤ z0 + R.slots) (C : qCtx p s m args meth c R k) (Hp : qHp D A s ws tys σ H locs) (hL : qlr k ws L ls) (hS : qsr ws S st) (hc1 : cells + n0 = σ.1.length) (hc2 : slots + z0 = qsz σ.1) (hA : ∀ q, s.heap.size ≤ q → A q) (hNl : L.length = qNl k)
    (kk : ∀ (ws' : va_W) (tys' : List (ClassId × FieldType)) (H' : Heap) (locs' : List Loc) (ls' : Array Slot) (st' : List Value) (cells' slots' : Nat), qext ws ws' → qHp D A s ws' tys' σ' H' locs' → qlr k ws' L' ls' → qsr ws' S' st' → cells' + n0 = σ'.1.length → slots' + z0 = qsz σ'.1 → W p l e R s m args below meth c H' locs' cells' slots' Q (F0 m pc' ls' st')) :
    W p l e R s m args below meth c H locs cells slots Q (F0 m pc ls st) := by
  obtain ⟨hkN, hx, hb, hml, hown, hts, hret, hlk, hnm, hRf, hRl, hAO⟩ := C
  obtain ⟨hh, hP, hK, hD, hSS⟩ := Hp
  simp only [qstep] at hs
  simp only [Option.some.injEq, Prod.mk.injEq] at hs
  obtain ⟨rfl, rfl, rfl, rfl⟩ := hs
  simp only [qok, qdec, Bool.and_eq_true, decide_eq_true_eq] at hok
  obtain ⟨⟨h1, h2, h3⟩, h4⟩ := hok
  subst h2
  rw [h3] at hown
  exact lv_ldc2 hx hb hown (hts _ (qll_at h4)) h1 (kk ws tys H locs ls _ cells slots qext_rf ⟨hh, hP, hK, hD, hSS⟩ hL ⟨rfl, hS⟩ hc1 hc2)
end
section
/-! What the abstract machine does, the machine does -/
theorem qstep_pre {op : Nat} {a : Int} {b : Nat} {c : List Nat} {nx pc : Nat} {L S : List qA} {σ : qM} {pc' : Nat} {L' S' : List qA} {σ' : qM} (h : qstep op a b c nx pc L S σ = some (pc', L', S', σ')) : (∃ X, σ'.1 = σ.1 ++ X) ∧ L'.length = L.length := by
  unfold qstep at h
  repeat' split at h
  all_goals first
    | (cases h; done)
    | (simp only [Option.some.injEq, Prod.mk.injEq] at h
       obtain ⟨-, rfl, -, rfl⟩ := h
       exact ⟨⟨[], (List.append_nil _).symm⟩, by simp⟩)
    | (simp only [Option.some.injEq, Prod.mk.injEq] at h
       obtain ⟨-, rfl, -, rfl⟩ := h
       exact ⟨⟨_, rfl⟩, by simp⟩)
theorem qev_pre : ∀ (n k pc : Nat) (L S : List qA) (σ : qM) (r : qA) (σ' : qM), qev n k pc L S σ = some (r, σ') → ∃ X, σ'.1 = σ.1 ++ X := by
  intro n
  induction n with
  | zero => intro k pc L S σ r σ' h; exact absurd h (by simp [qev])
  | succ n ih =>
    intro k pc L S σ r σ' h
    change qbody (qev n) k pc L S σ = _ at h
    unfold qbody at h
    split at h
    · exact absurd h (by simp)
    · rename_i op a b c nx hc
      split at h
      · split at h
        · rename_i pc' L' S' σ1 hs
          obtain ⟨⟨X, hX⟩, -⟩ := qstep_pre hs
          obtain ⟨Y, hY⟩ := ih _ _ _ _ _ _ _ h
          exact ⟨X ++ Y, by rw [hY, hX, List.append_assoc]⟩
        · exact absurd h (by simp)
      · split at h
        · split at h
          · split at h
            · rename_i r1 σ1 hs
              obtain ⟨X, hX⟩ := ih _ _ _ _ _ _ _ hs
              obtain ⟨Y, hY⟩ := ih _ _ _ _ _ _ _ h
              exact ⟨X ++ Y, by rw [hY, hX, List.append_assoc]⟩
            · exact absurd h (by simp)
          · exact absurd h (by simp)
        · repeat' split at h
          all_goals first
            | (cases h; done)
            | (simp only [Option.some.injEq, Prod.mk.injEq] at h
               obtain ⟨-, rfl⟩ := h
               exact ⟨[], by simp⟩)
theorem qev_ret : ∀ (n k pc : Nat) (L S : List qA) (σ : qM) (r : qA) (σ' : qM), k < qN → qev n k pc L S σ = some (r, σ') → (qRt k = 0 → r = none) ∧ (qRt k ≠ 0 → ∃ x, r = some x) := by
  intro n
  induction n with
  | zero => intro k pc L S σ r σ' _ h; exact absurd h (by simp [qev])
  | succ n ih =>
    intro k pc L S σ r σ' hk h
    change qbody (qev n) k pc L S σ = _ at h
    unfold qbody at h
    split at h
    · exact absurd h (by simp)
    · rename_i op a b c nx hc
      have hok := qk_all k hk pc _ hc
      split at h
      · split at h
        · exact ih _ _ _ _ _ _ _ hk h
        · exact absurd h (by simp)
      · split at h
        · split at h
          · split at h
            · exact ih _ _ _ _ _ _ _ hk h
            · exact absurd h (by simp)
          · exact absurd h (by simp)
        · split at h
          · rename_i ho
            subst ho
            simp only [qok, Bool.and_eq_true, decide_eq_true_eq] at hok
            split at h
            · simp only [Option.some.injEq, Prod.mk.injEq] at h
              exact ⟨fun h0 => by omega, fun _ => ⟨_, h.1.symm⟩⟩
            · exact absurd h (by simp)
          · split at h
            · rename_i ho
              subst ho
              simp only [qok, Bool.and_eq_true, decide_eq_true_eq] at hok
              split at h
              · split at h
                · simp only [Option.some.injEq, Prod.mk.injEq] at h
                  exact ⟨fun h0 => by omega, fun _ => ⟨_, h.1.symm⟩⟩
                · exact absurd h (by simp)
              · exact absurd h (by simp)
            · split at h
              · rename_i ho
                subst ho
                simp only [qok, Bool.and_eq_true, decide_eq_true_eq] at hok
                split at h
                · simp only [Option.some.injEq, Prod.mk.injEq] at h
                  exact ⟨fun h0 => by omega, fun _ => ⟨_, h.1.symm⟩⟩
                · exact absurd h (by simp)
              · split at h
                · rename_i ho
                  subst ho
                  simp only [qok, Bool.and_eq_true, decide_eq_true_eq] at hok
                  split at h
                  · simp only [Option.some.injEq, Prod.mk.injEq] at h
                    exact ⟨fun _ => h.1.symm, fun h0 => absurd hok.2 h0⟩
                  · exact absurd h (by simp)
                · split at h
                  · rename_i ho
                    subst ho
                    simp only [qok, Bool.and_eq_true, decide_eq_true_eq] at hok
                    split at h
                    · simp only [Option.some.injEq, Prod.mk.injEq] at h
                      exact ⟨fun h0 => by omega, fun _ => ⟨_, h.1.symm⟩⟩
                    · exact absurd h (by simp)
                  · exact absurd h (by simp)
def qrr (ws : va_W) : qA → Option Value → Prop
  | none, v => v = none
  | some x, v => ∃ w, qvr ws x w ∧ v = some w
/-- a method's end: the answer, the memory, what isn't the method's stays -/
def qQ (D : va_G) (A : Nat → Prop) (ws0 : va_W) (r : qA) (σ' : qM) : Array Value → State → Outcome → State → Prop := fun _ st oc t =>
  (∃ (v : Option Value) (ws' : va_W) (tys' : List (ClassId × FieldType)), oc = .returned v ∧ qrr ws' r v ∧ qext ws0 ws' ∧ qhr ws' tys' σ' ∧ va_P D vwCl ws' t.heap ∧ va_K D vwCl tys' t ∧ va_D A ws') ∧ va_F A st t
theorem qgo {p : Program} {l : Launch} {e : Env} {R : Room} {s : State} {m : MethodId} {args : Array Value} {below : List Frame} {meth : Method} {c : Code} {H : Heap} {locs : List Loc} {cells slots mc ms : Nat} {Q : State → Prop} {pc : Nat} {ls : Array Slot} {st0 rest : List Value} {Qa : State → Outcome → State → Prop} {free : Addr → Prop}
    (hr : va_Run p l e R s m args below meth c H locs cells slots mc ms (F0 m pc ls st0) rest Qa free)
    (kk : ∀ (v : Option Value) (st₀ t : State) (L : List Loc), st₀.heap = H → (∀ q ∈ L, free q.base) → s.vm.Alike t.vm → Qa st₀ (.returned v) t → W p l e R s m args below meth c t.heap (locs ++ L) (cells + mc) (slots + ms) Q (F0 m (pc + 3) ls (v.toList ++ rest))) : W p l e R s m args below meth c H locs cells slots Q (F0 m pc ls st0) := by
  intro T hT X
  obtain ⟨v, st₀, t, T', L, h0, X', hL, e1, e2, hq, st⟩ := hr T hT X
  obtain ⟨t2, a1, b1⟩ := kk v st₀ t L h0 hL (by rw [← e2]; exact X'.warmed.alike) hq T' e1 X'
  exact ⟨t2, st t2 a1, b1⟩
def qSound (n : Nat) : Prop := ∀ (k pc : Nat) (L S : List qA) (σ : qM) (r : qA) (σ' : qM), qev n k pc L S σ = some (r, σ') →
  ∀ {p : Program} {l : Launch} {e : Env} {R : Room} {s : State} {m : MethodId} {args : Array Value} {below : List Frame} {meth : Method} {c : Code} {H : Heap} {locs : List Loc} {cells slots : Nat} {D : va_G} {A : Nat → Prop} {n0 z0 : Nat} {ws0 ws : va_W} {tys : List (ClassId × FieldType)} {ls : Array Slot} {st : List Value},
    qCtx p s m args meth c R k → qHp D A s ws tys σ H locs → qlr k ws L ls → qsr ws S st → L.length = qNl k → (∀ q, s.heap.size ≤ q → A q) → qext ws0 ws → cells + n0 = σ.1.length → slots + z0 = qsz σ.1 → σ'.1.length ≤ n0 + R.cells → qsz σ'.1 ≤ z0 + R.slots →
    W p l e R s m args below meth c H locs cells slots (MQ below (qQ D A ws0 r σ') args s (σ'.1.length - n0) (qsz σ'.1 - z0) A) (F0 m pc ls st)
def qrm (b : Nat) (σ σ' : qM) : Room := { frames := (qfr b).1, cells := σ'.1.length - σ.1.length, slots := qsz σ'.1 - qsz σ.1, locals := (qfr b).2 }
def qPc (D : va_G) (ws : va_W) (tys : List (ClassId × FieldType)) (sz : Nat) (avs : List Value) : Array Value → State → Prop := va_Pc avs (fun U => U.heap.size = sz ∧ va_P D vwCl ws U.heap ∧ va_K D vwCl tys U ∧ va_D (fun _ => True) ws ∧ qAO U)
def qws (b : Nat) : List Cond := Cond.code (qy b) (qb b) (qNl b) (qret b) :: qtb
theorem qm3 {b : Nat} (hb : b < qN) : (qy b).cls = qR (qCl b) ∧ qCl b < 9 ∧ (qKi b = 0 ∨ qCl b < 8) ∧ plainName (qy b).cls = true ∧ (qy b).cls ≠ "java/lang/invoke/MethodHandle" ∧ (qy b).cls ≠ "java/lang/invoke/VarHandle" ∧ qrt_ok b = true := of_decide_eq_true (List.all_eq_true.mp qmp_ok3 b (List.mem_range.mpr hb))
theorem qcode_in {b : Nat} (hb : b < qN) : Cond.code (qy b) (qb b) (qNl b) (qret b) ∈ qtb := qtb_in (qcw_all b hb) rfl
theorem qws_good {b : Nat} (hb : b < qN) : GoodIn qtb (qws b) := by
  intro w hw
  rcases List.mem_cons.mp hw with rfl | hw
  · exact ⟨qcode_in hb, qtb_good (qcode_in hb)⟩
  · exact ⟨hw, qtb_good hw⟩
theorem qrt1 {b : Nat} (hb : b < qN) (h : qRt b = 1) : qret b = some .int := by
  have h1 := (qm3 hb).2.2.2.2.2.2
  unfold qrt_ok at h1
  rw [h] at h1
  split at h1 <;> simp_all
theorem qrt2 {b : Nat} (hb : b < qN) (h : qRt b = 2) : qret b = some .boolean := by
  have h1 := (qm3 hb).2.2.2.2.2.2
  unfold qrt_ok at h1
  rw [h] at h1
  split at h1 <;> simp_all
theorem qrt3 {b : Nat} (hb : b < qN) (h : qRt b = 3) : ∃ n, qret b = some (.object n) := by
  have h1 := (qm3 hb).2.2.2.2.2.2
  unfold qrt_ok at h1
  rw [h] at h1
  split at h1 <;> simp_all
theorem qrt4 {b : Nat} (hb : b < qN) (h : qRt b = 4) : qret b = some .long := by
  have h1 := (qm3 hb).2.2.2.2.2.2
  unfold qrt_ok at h1
  rw [h] at h1
  split at h1 <;> simp_all
theorem qrt0 {b : Nat} (hb : b < qN) (h : qRt b = 0) : qret b = none := by
  have h1 := (qm3 hb).2.2.2.2.2.2
  unfold qrt_ok at h1
  rw [h] at h1
  split at h1 <;> simp_all
theorem qlr_entry {k : Nat} {ws : va_W} {as : List qA} {avs : List Value} {n : Nat} (h : qsr ws as avs) (hn : qnol as = true) : qlr k ws (as ++ List.replicate (n - as.length) none) ((avs.map Slot.val ++ List.replicate (n - avs.length) Slot.unset).toArray) := by
  have hl := qsr_len h
  have hc := qsr_cat h hn
  refine ⟨by simp [hl], ⟨fun i v hi h2 => ?_, fun i hi => ?_⟩, fun i x hi => ?_, fun i x hi => Or.inl ?_⟩
  · have h1 := List.mem_of_getElem? (l := avs.map Slot.val ++ List.replicate (n - avs.length) Slot.unset) (by simpa using hi)
    rcases List.mem_append.mp h1 with h1 | h1
    · obtain ⟨w, hw, e⟩ := List.mem_map.mp h1
      cases e
      have := hc _ hw
      omega
    · have := (List.mem_replicate.mp h1).2
      cases this
  · have h1 := List.mem_of_getElem? (l := avs.map Slot.val ++ List.replicate (n - avs.length) Slot.unset) (by simpa using hi)
    rcases List.mem_append.mp h1 with h1 | h1
    · obtain ⟨w, hw, e⟩ := List.mem_map.mp h1
      cases e
    · have := (List.mem_replicate.mp h1).2
      cases this
  · by_cases hil : i < as.length
    · rw [List.getElem?_append_left hil] at hi
      have key : ∀ (S : List qA) (st : List Value), qsr ws S st → ∀ i : Nat, S[i]? = some (some x) → ∃ v, qvr ws x v ∧ st[i]? = some v := by
        intro S
        induction S with
        | nil => intro st _ i hi; simp at hi
        | cons a S ih =>
          intro st hs i hi
          cases st with
          | nil => cases a <;> cases hs
          | cons v st =>
            cases a with
            | none => cases hs
            | some y =>
              cases i with
              | zero => simp at hi; subst hi; exact ⟨v, hs.1, rfl⟩
              | succ i => simp at hi; obtain ⟨w, h1, h2⟩ := ih st hs.2 i hi; exact ⟨w, h1, by simpa using h2⟩
      obtain ⟨v, h1, h2⟩ := key as avs h i hi
      refine ⟨v, h1, ?_⟩
      rw [List.getElem?_toArray, List.getElem?_append_left (by simp; omega), List.getElem?_map, h2]
      rfl
    · rw [List.getElem?_append_right (by omega)] at hi
      have := (List.mem_replicate.mp (List.mem_of_getElem? hi)).2
      cases this
  · have h1 := List.mem_of_getElem? hi
    rcases List.mem_append.mp h1 with h1 | h1
    · exact List.all_eq_true.mp hn _ h1
    · have := (List.mem_replicate.mp h1).2
      cases this
theorem qMet {n : Nat} (ih : qSound n) (l : Launch) {D : va_G} {ws : va_W} {tys : List (ClassId × FieldType)} {b sz : Nat} {as : List qA} {avs : List Value} {σ σ' : qM} {r : qA} (hev : qev n b 0 (qent b as) [] σ = some (r, σ')) (hb : b < qN) (hal : as.length ≤ qNl b) (hnl : qnol as = true) (hs : qsr ws as avs) (hh : qhr ws tys σ) :
    Met l (qy b) (qws b) (qrm b σ σ') (qPc D ws tys sz avs) (qQ D (va_A ws sz) ws r σ') (σ'.1.length - σ.1.length) (qsz σ'.1 - qsz σ.1) (va_A ws sz) := by
  refine Met.ofW (cc := qb b) (maxL := qNl b) (ret := qret b) (qm3 hb).2.2.2.1 rfl ?_
  intro p e s m args below meth c s₁ B hml hv
  obtain ⟨rfl, hsz, hP, hK, hD0, hAO⟩ := hv
  have hts := atoms_spec (ws := qws b) B.pre
  have hown : s.vm.findClass (qR (qCl b)) = some m.cls := by rw [← (qm3 hb).1]; exact findClass_of_methodNamed B.named
  subst hsz
  rw [entry_eq m avs (qsr_cat hs hnl) (qNl b)]
  have hX := qev_pre _ _ _ _ _ _ _ _ hev
  obtain ⟨X, hX⟩ := hX
  have hz := qsz_app σ.1 X
  refine ih b 0 (qent b as) [] σ r σ' hev ⟨hb, B.exec, B.bytes, hml, hown, fun w hw => hts w (List.mem_cons_of_mem _ hw), B.returns, B.notSynchronized, (name_of_methodNamed B.named B.method).1, Nat.le_refl _, Nat.le_refl _, hAO⟩ ⟨hh, hP, hK, hD0.self, va_S.rf⟩ (qlr_entry hs hnl) trivial ?_ (fun q h => Or.inr h) qext_rf (by omega) (by omega) ?_ ?_
  · unfold qent
    rw [List.length_append, List.length_replicate]
    omega
  · show σ'.1.length ≤ σ.1.length + (σ'.1.length - σ.1.length)
    omega
  · show qsz σ'.1 ≤ qsz σ.1 + (qsz σ'.1 - qsz σ.1)
    omega
theorem qsound_step {n : Nat} (ih : qSound n) {k pc : Nat} {L S : List qA} {σ : qM} {r : qA} {σ' : qM} {op : Nat} {a : Int} {b : Nat} {cl : List Nat} {nx : Nat} {pc' : Nat} {L' S' : List qA} {σ1 : qM} (hcd : qcd k pc = some (op, a, b, cl, nx)) (hs : qstep op a b cl nx pc L S σ = some (pc', L', S', σ1)) (hev : qev n k pc' L' S' σ1 = some (r, σ'))
    {p : Program} {l : Launch} {e : Env} {R : Room} {s : State} {m : MethodId} {args : Array Value} {below : List Frame} {meth : Method} {c : Code} {H : Heap} {locs : List Loc} {cells slots : Nat} {D : va_G} {A : Nat → Prop} {n0 z0 : Nat} {ws0 ws : va_W} {tys : List (ClassId × FieldType)} {ls : Array Slot} {st : List Value}
    (C : qCtx p s m args meth c R k) (Hp : qHp D A s ws tys σ H locs) (hL : qlr k ws L ls) (hS : qsr ws S st) (hNl : L.length = qNl k) (hA : ∀ q, s.heap.size ≤ q → A q) (hx0 : qext ws0 ws) (hc1 : cells + n0 = σ.1.length) (hc2 : slots + z0 = qsz σ.1) (hr1 : σ'.1.length ≤ n0 + R.cells) (hr2 : qsz σ'.1 ≤ z0 + R.slots) :
    W p l e R s m args below meth c H locs cells slots (MQ below (qQ D A ws0 r σ') args s (σ'.1.length - n0) (qsz σ'.1 - z0) A) (F0 m pc ls st) := by
  have hok := qk_all k C.1 pc _ hcd
  obtain ⟨X, hX⟩ := qev_pre _ _ _ _ _ _ _ _ hev
  have hzX := qsz_app σ1.1 X
  have hlX : σ'.1.length = σ1.1.length + X.length := by rw [hX, List.length_append]
  rw [← hX] at hzX
  have hl1 : σ1.1.length ≤ n0 + R.cells := by omega
  have hz1 : qsz σ1.1 ≤ z0 + R.slots := by omega
  have hNl' := (qstep_pre hs).2
  have KK : ∀ (ws' : va_W) (tys' : List (ClassId × FieldType)) (H' : Heap) (locs' : List Loc) (ls' : Array Slot) (st' : List Value) (cells' slots' : Nat), qext ws ws' → qHp D A s ws' tys' σ1 H' locs' → qlr k ws' L' ls' → qsr ws' S' st' → cells' + n0 = σ1.1.length → slots' + z0 = qsz σ1.1 → W p l e R s m args below meth c H' locs' cells' slots' (MQ below (qQ D A ws0 r σ') args s (σ'.1.length - n0) (qsz σ'.1 - z0) A) (F0 m pc' ls' st') :=
    fun ws' tys' H' locs' ls' st' cells' slots' g1 g2 g3 g4 g5 g6 => ih k pc' L' S' σ1 r σ' hev C g2 g3 g4 (hNl'.trans hNl) hA (qext_tr hx0 g1) g5 g6 hr1 hr2
  match op, hok, hs with
  | 0, hok, hs => exact qs_0 hok hs hl1 hz1 C Hp hL hS hc1 hc2 hA hNl KK
  | 1, hok, hs => exact qs_1 hok hs hl1 hz1 C Hp hL hS hc1 hc2 hA hNl KK
  | 2, hok, hs => exact qs_2 hok hs hl1 hz1 C Hp hL hS hc1 hc2 hA hNl KK
  | 3, hok, hs => exact qs_3 hok hs hl1 hz1 C Hp hL hS hc1 hc2 hA hNl KK
  | 4, hok, hs => exact qs_4 hok hs hl1 hz1 C Hp hL hS hc1 hc2 hA hNl KK
  | 5, hok, hs => exact qs_5 hok hs hl1 hz1 C Hp hL hS hc1 hc2 hA hNl KK
  | 6, hok, hs => exact qs_6 hok hs hl1 hz1 C Hp hL hS hc1 hc2 hA hNl KK
  | 7, hok, hs => exact qs_7 hok hs hl1 hz1 C Hp hL hS hc1 hc2 hA hNl KK
  | 8, hok, hs => exact qs_8 hok hs hl1 hz1 C Hp hL hS hc1 hc2 hA hNl KK
  | 9, hok, hs => exact qs_9 hok hs hl1 hz1 C Hp hL hS hc1 hc2 hA hNl KK
  | 10, hok, hs => exact qs_10 hok hs hl1 hz1 C Hp hL hS hc1 hc2 hA hNl KK
  | 12, hok, hs => exact qs_12 hok hs hl1 hz1 C Hp hL hS hc1 hc2 hA hNl KK
  | 13, hok, hs => exact qs_13 hok hs hl1 hz1 C Hp hL hS hc1 hc2 hA hNl KK
  | 14, hok, hs => exact qs_14 hok hs hl1 hz1 C Hp hL hS hc1 hc2 hA hNl KK
  | 15, hok, hs => exact qs_15 hok hs hl1 hz1 C Hp hL hS hc1 hc2 hA hNl KK
  | 16, hok, hs => exact qs_16 hok hs hl1 hz1 C Hp hL hS hc1 hc2 hA hNl KK
  | 17, hok, hs => exact qs_17 hok hs hl1 hz1 C Hp hL hS hc1 hc2 hA hNl KK
  | 18, hok, hs => exact qs_18 hok hs hl1 hz1 C Hp hL hS hc1 hc2 hA hNl KK
  | 19, hok, hs => exact qs_19 hok hs hl1 hz1 C Hp hL hS hc1 hc2 hA hNl KK
  | 20, hok, hs => exact qs_20 hok hs hl1 hz1 C Hp hL hS hc1 hc2 hA hNl KK
  | 21, hok, hs => exact qs_21 hok hs hl1 hz1 C Hp hL hS hc1 hc2 hA hNl KK
  | 22, hok, hs => exact qs_22 hok hs hl1 hz1 C Hp hL hS hc1 hc2 hA hNl KK
  | 23, hok, hs => exact qs_23 hok hs hl1 hz1 C Hp hL hS hc1 hc2 hA hNl KK
  | 24, hok, hs => exact qs_24 hok hs hl1 hz1 C Hp hL hS hc1 hc2 hA hNl KK
  | 25, hok, hs => exact qs_25 hok hs hl1 hz1 C Hp hL hS hc1 hc2 hA hNl KK
  | 26, hok, hs => exact qs_26 hok hs hl1 hz1 C Hp hL hS hc1 hc2 hA hNl KK
  | 27, hok, hs => exact qs_27 hok hs hl1 hz1 C Hp hL hS hc1 hc2 hA hNl KK
  | 28, hok, hs => exact qs_28 hok hs hl1 hz1 C Hp hL hS hc1 hc2 hA hNl KK
  | 29, hok, hs => exact qs_29 hok hs hl1 hz1 C Hp hL hS hc1 hc2 hA hNl KK
  | 30, hok, hs => exact qs_30 hok hs hl1 hz1 C Hp hL hS hc1 hc2 hA hNl KK
  | 31, hok, hs => exact qs_31 hok hs hl1 hz1 C Hp hL hS hc1 hc2 hA hNl KK
  | 32, hok, hs => exact qs_32 hok hs hl1 hz1 C Hp hL hS hc1 hc2 hA hNl KK
  | 33, hok, hs => exact qs_33 hok hs hl1 hz1 C Hp hL hS hc1 hc2 hA hNl KK
  | 34, hok, hs => exact qs_34 hok hs hl1 hz1 C Hp hL hS hc1 hc2 hA hNl KK
  | 11, hok, hs => exact qs_11 hok hs hl1 hz1 C Hp hL hS hc1 hc2 hA hNl KK
  | 35, hok, hs => exact qs_35 hok hs hl1 hz1 C Hp hL hS hc1 hc2 hA hNl KK
  | 36, hok, hs => exact qs_36 hok hs hl1 hz1 C Hp hL hS hc1 hc2 hA hNl KK
  | 37, hok, hs => exact qs_37 hok hs hl1 hz1 C Hp hL hS hc1 hc2 hA hNl KK
  | 38, hok, hs => exact qs_38 hok hs hl1 hz1 C Hp hL hS hc1 hc2 hA hNl KK
  | 39, hok, hs => exact qs_39 hok hs hl1 hz1 C Hp hL hS hc1 hc2 hA hNl KK
  | _ + 40, _, hs => exact absurd hs (by simp [qstep])
theorem qsound_call {n : Nat} (ih : qSound n) {k pc : Nat} {L S : List qA} {σ : qM} {r : qA} {σ' : qM} {a : Int} {b : Nat} {cl : List Nat} {nx : Nat} {r1 : qA} {σ1 : qM} (hcd : qcd k pc = some (40, a, b, cl, nx)) (hg : qNa b ≤ S.length ∧ S.length ≤ qNa b + 4 ∧ qrcv b (S.take (qNa b)).reverse σ = true ∧ qNa b ≤ qNl b) (he1 : qev n b 0 (qent b (S.take (qNa b)).reverse) [] σ = some (r1, σ1)) (hev : qev n k nx L (if qRt b = 0 then S.drop (qNa b) else r1 :: S.drop (qNa b)) σ1 = some (r, σ'))
    {p : Program} {l : Launch} {e : Env} {R : Room} {s : State} {m : MethodId} {args : Array Value} {below : List Frame} {meth : Method} {c : Code} {H : Heap} {locs : List Loc} {cells slots : Nat} {D : va_G} {A : Nat → Prop} {n0 z0 : Nat} {ws0 ws : va_W} {tys : List (ClassId × FieldType)} {ls : Array Slot} {st : List Value}
    (C : qCtx p s m args meth c R k) (Hp : qHp D A s ws tys σ H locs) (hL : qlr k ws L ls) (hS : qsr ws S st) (hNl : L.length = qNl k) (hA : ∀ q, s.heap.size ≤ q → A q) (hx0 : qext ws0 ws) (hc1 : cells + n0 = σ.1.length) (hc2 : slots + z0 = qsz σ.1) (hr1 : σ'.1.length ≤ n0 + R.cells) (hr2 : qsz σ'.1 ≤ z0 + R.slots) :
    W p l e R s m args below meth c H locs cells slots (MQ below (qQ D A ws0 r σ') args s (σ'.1.length - n0) (qsz σ'.1 - z0) A) (F0 m pc ls st) := by
  have hok := qk_all k C.1 pc _ hcd
  obtain ⟨X, hX⟩ := qev_pre _ _ _ _ _ _ _ _ hev
  have hzX := qsz_app σ1.1 X
  have hlX : σ'.1.length = σ1.1.length + X.length := by rw [hX, List.length_append]
  rw [← hX] at hzX
  obtain ⟨Y, hY⟩ := qev_pre _ _ _ _ _ _ _ _ he1
  have hzY := qsz_app σ.1 Y
  have hlY : σ1.1.length = σ.1.length + Y.length := by rw [hY, List.length_append]
  rw [← hY] at hzY
  have C0 := C
  obtain ⟨hkN, hx, hb, hml, hown, hts, hret, hlk, hnm, hRf, hRl, hAO⟩ := C
  obtain ⟨hh, hP, hK, hD, hSS⟩ := Hp
  obtain ⟨hn1, hn2, hrc, hn3⟩ := hg
  have hnl : qnol (S.take (qNa b)).reverse = true := by
    unfold qrcv at hrc
    rw [Bool.and_eq_true] at hrc
    exact hrc.1
  simp only [qok, Bool.and_eq_true, decide_eq_true_eq] at hok
  obtain ⟨⟨⟨ho1, ho2, ho3, ho4, ho5⟩, ho6⟩, ho7⟩ := hok
  subst ho1
  have hsl := qsr_len hS
  have hta := qsr_rev (qsr_take (qNa b) hS)
  have htr := qsr_drop (qNa b) hS
  have hst : st = (st.take (qNa b)).reverse.reverse ++ st.drop (qNa b) := by rw [List.reverse_reverse, List.take_append_drop]
  have hasl : (S.take (qNa b)).reverse.length = qNa b := by rw [List.length_reverse, List.length_take]; omega
  have havl : (st.take (qNa b)).reverse.length = qNa b := by rw [List.length_reverse, List.length_take]; omega
  generalize (S.take (qNa b)).reverse = as at *
  generalize (st.take (qNa b)).reverse = avs at *
  have hM := qMet ih l (D := D) (sz := H.size) he1 ho2 (by omega) hnl hta hh
  have hfree : ∀ q, va_A ws H.size q → A q := by
    rintro q (⟨j, e0, hj⟩ | h)
    · exact hD.2 j (q, e0) hj
    · exact hA q (Nat.le_trans hSS.1 h)
  have hcw : ∀ nn, (parseMethodDescriptor (qy b).desc).map (fun d => d.parameters.length) = some nn → CallB R s args (qR (qCl k)) a.toNat (qy b) (qb b) (qNl b) (qret b) (qws b) (qrm b σ σ1) (σ1.1.length - σ.1.length) (qsz σ1.1 - qsz σ.1) nn := fun nn hnn =>
    callB_of nn hts (qws_good ho2) rfl rfl rfl (by rw [(qm3 ho2).1]; exact hts _ (qcp_at (qm3 ho2).2.1).2) (hts _ (qml_at ho6)) ⟨(qm3 ho2).2.2.2.2.1, (qm3 ho2).2.2.2.2.2.1, hnn⟩ ⟨by show (qfr b).1 + 1 ≤ R.frames; omega, by show 8 + (qNl b + 11) + (qfr b).2 ≤ R.locals; omega⟩
  have hblind : FrameBlind (qPc D ws tys H.size avs) := fun a U g mk q => by
    obtain ⟨q0, q1, qP, qK, qD, qO⟩ := q
    exact ⟨q0, q1, qP, va_K.moved (u := U) (U := U.calling g mk a) (Vm.Alike.refl U.vm) qK, qD, qAO_moved (u := U) (U := U.calling g mk a) (Vm.Alike.refl U.vm) qO⟩
  have hPc : ∀ U : State, U.heap = H → s.WarmedH U.vm → qPc D ws tys H.size avs avs.toArray U := fun U hU hW => ⟨rfl, by rw [hU], by rw [hU]; exact hP, va_K.moved hW.alike hK, hD.weaken (fun _ _ _ _ => trivial), qAO_moved hW.alike hAO⟩
  have hsum : ((st.drop (qNa b)).map fun v => v.category).sum ≤ 8 := by
    have := qsr_cat2 htr
    rw [List.length_drop] at this
    omega
  have hroom : cells + (σ1.1.length - σ.1.length) ≤ R.cells ∧ slots + (qsz σ1.1 - qsz σ.1) ≤ R.slots := ⟨by omega, by omega⟩
  have hNls : ls.size = qNl k := hL.1.trans hNl
  have KK : ∀ (v : Option Value) (st₀ t : State) (L1 : List Loc), st₀.heap = H → (∀ q ∈ L1, va_A ws H.size q.base) → s.vm.Alike t.vm → qQ D (va_A ws H.size) ws r1 σ1 avs.toArray st₀ (.returned v) t → W p l e R s m args below meth c t.heap (locs ++ L1) (cells + (σ1.1.length - σ.1.length)) (slots + (qsz σ1.1 - qsz σ.1)) (MQ below (qQ D A ws0 r σ') args s (σ'.1.length - n0) (qsz σ'.1 - z0) A) (F0 m (pc + 3) ls (v.toList ++ st.drop (qNa b))) := by
    intro v st₀ t L1 h0 hL1 hal hq
    obtain ⟨⟨v', ws', tys', hv, hrr, hext, hh', hP', hK', hD'⟩, hF⟩ := hq
    cases hv
    have hstk : qsr ws' (if qRt b = 0 then S.drop (qNa b) else r1 :: S.drop (qNa b)) (v.toList ++ st.drop (qNa b)) := by
      obtain ⟨g0, g1⟩ := qev_ret _ _ _ _ _ _ _ _ ho2 he1
      by_cases h9 : qRt b = 0
      · rw [if_pos h9]
        have := g0 h9
        subst this
        have : v = none := hrr
        subst this
        exact qsr_ext hext htr
      · rw [if_neg h9]
        obtain ⟨x, rfl⟩ := g1 h9
        obtain ⟨w, hw, rfl⟩ := hrr
        exact ⟨hw, qsr_ext hext htr⟩
    refine ih k (pc + 3) L _ σ1 r σ' hev C0 ⟨hh', hP', va_K.moved hal.symm hK', hD'.weaken (fun _ q _ h => hfree q.1 h), ?_⟩ (qlr_ext hext hL) hstk hNl hA (qext_tr hx0 hext) (by omega) (by omega) hr1 hr2
    obtain ⟨hF1, hF2⟩ := hF
    rw [h0] at hF1 hF2
    refine ⟨Nat.le_trans hSS.1 hF1, fun q h1 h2 => ?_, fun q hq => ?_⟩
    · rw [hF2 q (Nat.lt_of_lt_of_le h1 hSS.1) (fun z => h2 (hfree q z))]
      exact hSS.2.1 q h1 h2
    · rcases List.mem_append.mp hq with h | h
      · exact hSS.2.2 q h
      · exact hfree _ (hL1 q h)
  have hmp := List.all_eq_true.mp qmp_ok2 b (List.mem_range.mpr ho2)
  have hki : qKi b = 0 ∨ qKi b = 1 ∨ qKi b = 2 := by
    rcases Nat.lt_or_ge (qKi b) 3 with h | h
    · omega
    · obtain ⟨y, hy⟩ : ∃ y, qKi b = y + 3 := ⟨qKi b - 3, by omega⟩
      unfold qrcv at hrc
      rw [hy] at hrc
      rw [Bool.and_eq_true] at hrc
      exact absurd (show false = true from hrc.2) (by decide)
  rcases hki with hki | hki | hki
  · rw [hki] at hmp ho7
    have hmp := of_decide_eq_true hmp
    simp only [qdec, decide_eq_true_eq] at ho7
    refine qgo (va_runS (As := avs) (rest := st.drop (qNa b)) ⟨hx, hb, hml, hown, hts⟩ hM ⟨hcw _ hmp.2, hts _ (qtb_at hmp.1 rfl)⟩ ⟨hblind, hPc⟩ rfl havl hNls hst (lv_room hsum) ho7 hroom) KK
  · rw [hki] at hmp ho7
    have hmp := of_decide_eq_true hmp
    simp only [qdec, decide_eq_true_eq] at ho7
    simp only [qrcv, hki] at hrc
    rw [Bool.and_eq_true] at hrc
    obtain ⟨-, hrc⟩ := hrc
    split at hrc
    · rename_i k0 as'
      have hrc := of_decide_eq_true hrc
      cases avs with
      | nil => cases hta
      | cons v0 As =>
        obtain ⟨q, hq, rfl⟩ := hta.1
        obtain ⟨e0, he, fs, rfl, -⟩ := qhr_at hh hrc hq
        obtain ⟨nn, hnn, hnn2⟩ := Option.map_eq_some_iff.mp hmp.2.2
        have hAs : As.length = nn.parameters.length := by simp at havl; omega
        have hrecv := va_recv hK hP (qvw (by rcases (qm3 ho2).2.2.1 with h9 | h9 <;> omega)) he
        refine qgo (va_runV (As := As) (C := qR (qCl b)) (rest := st.drop (qNa b)) ⟨hx, hb, hml, hown, hts⟩ hM ⟨hcw nn.parameters.length (by rw [hnn]; rfl), hts _ (qtb_at hmp.1 rfl), hts _ (qtb_at hmp.2.1 rfl)⟩ ⟨hblind, hrecv, hPc⟩ rfl hAs hNls ?_ (lv_room hsum) ho7 hroom) KK
        show st = As.reverse ++ .ref q :: st.drop (qNa b)
        rw [List.reverse_cons, List.append_assoc] at hst
        exact hst
    · cases hrc
  · rw [hki] at hmp ho7
    have hmp := of_decide_eq_true hmp
    simp only [qdec, decide_eq_true_eq] at ho7
    simp only [qrcv, hki] at hrc
    rw [Bool.and_eq_true] at hrc
    obtain ⟨-, hrc⟩ := hrc
    split at hrc
    · rename_i k0 as'
      cases avs with
      | nil => cases hta
      | cons v0 As =>
        obtain ⟨q, hq, rfl⟩ := hta.1
        obtain ⟨nn, hnn, hnn2⟩ := Option.map_eq_some_iff.mp hmp.2.2.2
        have hAs : As.length = nn.parameters.length := by simp at havl; omega
        have hcw1 := hcw nn.parameters.length (by rw [hnn]; rfl)
        rw [hmp.2.2.1] at hcw1
        refine qgo (va_runI (As := As) (rest := st.drop (qNa b)) ⟨hx, hb, hml, hown, hts⟩ hM ⟨hcw1, hmp.2.1, hts _ (qtb_at hmp.1 rfl)⟩ ⟨hblind, hPc⟩ rfl hAs hNls ?_ (lv_room hsum) ho7 hroom) KK
        show st = As.reverse ++ .ref q :: st.drop (qNa b)
        rw [List.reverse_cons, List.append_assoc] at hst
        exact hst
    · cases hrc
theorem qsound : ∀ n, qSound n := by
  intro n
  induction n with
  | zero => intro k pc L S σ r σ' h; exact absurd h (by simp [qev])
  | succ n ih =>
    intro k pc L S σ r σ' h p l e R s m args below meth c H locs cells slots D A n0 z0 ws0 ws tys ls st C Hp hL hS hNl hA hx0 hc1 hc2 hr1 hr2
    change qbody (qev n) k pc L S σ = _ at h
    unfold qbody at h
    split at h
    · cases h
    · rename_i op a b cl nx hcd
      split at h
      · split at h
        · rename_i pc' L' S' σ1 hs
          exact qsound_step ih hcd hs h C Hp hL hS hNl hA hx0 hc1 hc2 hr1 hr2
        · cases h
      · split at h
        · rename_i ho
          subst ho
          split at h
          · rename_i hg
            split at h
            · rename_i r1 σ1 hs
              exact qsound_call ih hcd hg hs h C Hp hL hS hNl hA hx0 hc1 hc2 hr1 hr2
            · cases h
          · cases h
        · have hok := qk_all k C.1 pc _ hcd
          obtain ⟨hkN, hx, hb, hml, hown, hts, hret, hlk, hnm, hRf, hRl, hAO⟩ := C
          obtain ⟨hh, hP, hK, hD, hSS⟩ := Hp
          split at h
          · rename_i ho
            subst ho
            simp only [qok, qdec, Bool.and_eq_true, decide_eq_true_eq] at hok
            split at h
            · simp only [Option.some.injEq, Prod.mk.injEq] at h
              obtain ⟨rfl, rfl⟩ := h
              obtain ⟨st', rfl, hq, hS⟩ := qsr_int hS
              cases qsr_nil hS
              rw [show σ.1.length - n0 = cells by omega, show qsz σ.1 - z0 = slots by omega]
              exact W.iret hx hb (hret.trans (qrt1 hkN hok.2)) (fun t ht hW => ⟨⟨_, ws, tys, rfl, ⟨_, ⟨rfl, hq⟩, rfl⟩, hx0, hh, by rw [ht]; exact hP, va_K.moved hW.alike hK, hD⟩, hSS.F ht⟩) hSS.2.2 hok.1 hlk
            · cases h
          · split at h
            · rename_i ho
              subst ho
              simp only [qok, qdec, Bool.and_eq_true, decide_eq_true_eq] at hok
              split at h
              · split at h
                · rename_i x hx01
                  simp only [Option.some.injEq, Prod.mk.injEq] at h
                  obtain ⟨rfl, rfl⟩ := h
                  obtain ⟨st', rfl, hq, hS⟩ := qsr_int hS
                  cases qsr_nil hS
                  rw [show σ.1.length - n0 = cells by omega, show qsz σ.1 - z0 = slots by omega]
                  exact W.zret hx hb (hret.trans (qrt2 hkN hok.2)) (by rcases hx01 with h1 | h1 <;> rw [h1] <;> rfl) (fun t ht hW => ⟨⟨_, ws, tys, rfl, ⟨_, ⟨rfl, hq⟩, rfl⟩, hx0, hh, by rw [ht]; exact hP, va_K.moved hW.alike hK, hD⟩, hSS.F ht⟩) hSS.2.2 hok.1 hlk
                · cases h
              · cases h
            · split at h
              · rename_i ho
                subst ho
                simp only [qok, qdec, Bool.and_eq_true, decide_eq_true_eq] at hok
                split at h
                · simp only [Option.some.injEq, Prod.mk.injEq] at h
                  obtain ⟨rfl, rfl⟩ := h
                  obtain ⟨q, st', rfl, hq, hS⟩ := qsr_ref hS
                  cases qsr_nil hS
                  rw [show σ.1.length - n0 = cells by omega, show qsz σ.1 - z0 = slots by omega]
                  obtain ⟨nm, hrt⟩ := qrt3 hkN hok.2
                  exact W.aret hx hb (hret.trans hrt) (Or.inl ⟨nm, rfl⟩) (Or.inr ⟨q, rfl⟩) (fun t ht hW => ⟨⟨_, ws, tys, rfl, ⟨_, ⟨q, hq, rfl⟩, rfl⟩, hx0, hh, by rw [ht]; exact hP, va_K.moved hW.alike hK, hD⟩, hSS.F ht⟩) hSS.2.2 hok.1 hlk
                · cases h
              · split at h
                · rename_i ho
                  subst ho
                  simp only [qok, qdec, Bool.and_eq_true, decide_eq_true_eq] at hok
                  split at h
                  · simp only [Option.some.injEq, Prod.mk.injEq] at h
                    obtain ⟨rfl, rfl⟩ := h
                    cases qsr_nil hS
                    rw [show σ.1.length - n0 = cells by omega, show qsz σ.1 - z0 = slots by omega]
                    exact W.vret hx hb (hret.trans (qrt0 hkN hok.2)) (fun t ht hW => ⟨⟨none, ws, tys, rfl, rfl, hx0, hh, by rw [ht]; exact hP, va_K.moved hW.alike hK, hD⟩, hSS.F ht⟩) hSS.2.2 hok.1 hlk
                  · cases h
                · split at h
                  · rename_i ho
                    subst ho
                    simp only [qok, qdec, Bool.and_eq_true, decide_eq_true_eq] at hok
                    split at h
                    · simp only [Option.some.injEq, Prod.mk.injEq] at h
                      obtain ⟨rfl, rfl⟩ := h
                      obtain ⟨st', rfl, hS1⟩ := qsr_long hS
                      cases qsr_nil hS1
                      rw [show σ.1.length - n0 = cells by omega, show qsz σ.1 - z0 = slots by omega]
                      exact W.lret hx hb (hret.trans (qrt4 hkN hok.2)) (fun t ht hW => ⟨⟨_, ws, tys, rfl, ⟨_, rfl, rfl⟩, hx0, hh, by rw [ht]; exact hP, va_K.moved hW.alike hK, hD⟩, hSS.F ht⟩) hSS.2.2 hok.1 hlk
                    · cases h
                  · cases h
end
section
/-! Rules of qW, one an instruction; numbers are Int -/
theorem qr_const {k pc : Nat} {L S : List qA} {T : List (Nat × Nat)} {m : Nat → Int → Int} {r : Nat → Int → Option Nat} {Q : qA → qM → Prop} {a : Int} {b : Nat} {c : List Nat} {nx : Nat}  (hc : qcd k pc = some (0, a, b, c, nx)) (h : qin a := by decide) (w : qW k nx L (qI a :: S) (T, m, r) Q) : qW k pc L S (T, m, r) Q := by
  exact qW_step hc (by decide) (by simp only [qstep, if_pos h]) w
theorem qr_il {k pc : Nat} {L S : List qA} {T : List (Nat × Nat)} {m : Nat → Int → Int} {r : Nat → Int → Option Nat} {Q : qA → qM → Prop} {a : Int} {b : Nat} {c : List Nat} {nx : Nat} {x : Int} (hc : qcd k pc = some (1, a, b, c, nx)) (hl : L[b]? = some (some (Sum.inl x))) (w : qW k nx L (qI x :: S) (T, m, r) Q) : qW k pc L S (T, m, r) Q := by
  exact qW_step hc (by decide) (by simp only [qstep, hl]) w
theorem qr_al {k pc : Nat} {L S : List qA} {T : List (Nat × Nat)} {m : Nat → Int → Int} {r : Nat → Int → Option Nat} {Q : qA → qM → Prop} {a : Int} {b : Nat} {c : List Nat} {nx : Nat} {x : Nat} (hc : qcd k pc = some (2, a, b, c, nx)) (hl : L[b]? = some (some (Sum.inr (Sum.inl x)))) (w : qW k nx L (qK x :: S) (T, m, r) Q) : qW k pc L S (T, m, r) Q := by
  exact qW_step hc (by decide) (by simp only [qstep, hl]) w
theorem qr_is0 {k pc : Nat} {L S : List qA} {T : List (Nat × Nat)} {m : Nat → Int → Int} {r : Nat → Int → Option Nat} {Q : qA → qM → Prop} {a : Int} {c : List Nat} {nx : Nat} {x : Int} {x0 : qA} (hc : qcd k pc = some (3, a, 0, c, nx))  (w : qW k nx (qI x :: L) S (T, m, r) Q) : qW k pc (x0 :: L) (qI x :: S) (T, m, r) Q := by
  exact qW_step hc (by decide) (by simp [qstep]) w
theorem qr_as0 {k pc : Nat} {L S : List qA} {T : List (Nat × Nat)} {m : Nat → Int → Int} {r : Nat → Int → Option Nat} {Q : qA → qM → Prop} {a : Int} {c : List Nat} {nx : Nat} {x : Nat} {x0 : qA} (hc : qcd k pc = some (4, a, 0, c, nx))  (w : qW k nx (qK x :: L) S (T, m, r) Q) : qW k pc (x0 :: L) (qK x :: S) (T, m, r) Q := by
  exact qW_step hc (by decide) (by simp [qstep]) w
theorem qr_inc0 {k pc : Nat} {L S : List qA} {T : List (Nat × Nat)} {m : Nat → Int → Int} {r : Nat → Int → Option Nat} {Q : qA → qM → Prop} {a : Int} {c : List Nat} {nx : Nat} {x : Int}  (hc : qcd k pc = some (5, a, 0, c, nx)) (h : qin (x + a)) (w : qW k nx (qI (x + a) :: L) S (T, m, r) Q) : qW k pc (qI x :: L) S (T, m, r) Q := by
  exact qW_step hc (by decide) (by simp [qstep]; exact h) w
theorem qr_is1 {k pc : Nat} {L S : List qA} {T : List (Nat × Nat)} {m : Nat → Int → Int} {r : Nat → Int → Option Nat} {Q : qA → qM → Prop} {a : Int} {c : List Nat} {nx : Nat} {x : Int} {x0 x1 : qA} (hc : qcd k pc = some (3, a, 1, c, nx))  (w : qW k nx (x0 :: qI x :: L) S (T, m, r) Q) : qW k pc (x0 :: x1 :: L) (qI x :: S) (T, m, r) Q := by
  exact qW_step hc (by decide) (by simp [qstep]) w
theorem qr_as1 {k pc : Nat} {L S : List qA} {T : List (Nat × Nat)} {m : Nat → Int → Int} {r : Nat → Int → Option Nat} {Q : qA → qM → Prop} {a : Int} {c : List Nat} {nx : Nat} {x : Nat} {x0 x1 : qA} (hc : qcd k pc = some (4, a, 1, c, nx))  (w : qW k nx (x0 :: qK x :: L) S (T, m, r) Q) : qW k pc (x0 :: x1 :: L) (qK x :: S) (T, m, r) Q := by
  exact qW_step hc (by decide) (by simp [qstep]) w
theorem qr_inc1 {k pc : Nat} {L S : List qA} {T : List (Nat × Nat)} {m : Nat → Int → Int} {r : Nat → Int → Option Nat} {Q : qA → qM → Prop} {a : Int} {c : List Nat} {nx : Nat} {x : Int} {x0 : qA} (hc : qcd k pc = some (5, a, 1, c, nx)) (h : qin (x + a)) (w : qW k nx (x0 :: qI (x + a) :: L) S (T, m, r) Q) : qW k pc (x0 :: qI x :: L) S (T, m, r) Q := by
  exact qW_step hc (by decide) (by simp [qstep]; exact h) w
theorem qr_is2 {k pc : Nat} {L S : List qA} {T : List (Nat × Nat)} {m : Nat → Int → Int} {r : Nat → Int → Option Nat} {Q : qA → qM → Prop} {a : Int} {c : List Nat} {nx : Nat} {x : Int} {x0 x1 x2 : qA} (hc : qcd k pc = some (3, a, 2, c, nx))  (w : qW k nx (x0 :: x1 :: qI x :: L) S (T, m, r) Q) : qW k pc (x0 :: x1 :: x2 :: L) (qI x :: S) (T, m, r) Q := by
  exact qW_step hc (by decide) (by simp [qstep]) w
theorem qr_as2 {k pc : Nat} {L S : List qA} {T : List (Nat × Nat)} {m : Nat → Int → Int} {r : Nat → Int → Option Nat} {Q : qA → qM → Prop} {a : Int} {c : List Nat} {nx : Nat} {x : Nat} {x0 x1 x2 : qA} (hc : qcd k pc = some (4, a, 2, c, nx))  (w : qW k nx (x0 :: x1 :: qK x :: L) S (T, m, r) Q) : qW k pc (x0 :: x1 :: x2 :: L) (qK x :: S) (T, m, r) Q := by
  exact qW_step hc (by decide) (by simp [qstep]) w
theorem qr_inc2 {k pc : Nat} {L S : List qA} {T : List (Nat × Nat)} {m : Nat → Int → Int} {r : Nat → Int → Option Nat} {Q : qA → qM → Prop} {a : Int} {c : List Nat} {nx : Nat} {x : Int} {x0 x1 : qA} (hc : qcd k pc = some (5, a, 2, c, nx)) (h : qin (x + a)) (w : qW k nx (x0 :: x1 :: qI (x + a) :: L) S (T, m, r) Q) : qW k pc (x0 :: x1 :: qI x :: L) S (T, m, r) Q := by
  exact qW_step hc (by decide) (by simp [qstep]; exact h) w
theorem qr_is3 {k pc : Nat} {L S : List qA} {T : List (Nat × Nat)} {m : Nat → Int → Int} {r : Nat → Int → Option Nat} {Q : qA → qM → Prop} {a : Int} {c : List Nat} {nx : Nat} {x : Int} {x0 x1 x2 x3 : qA} (hc : qcd k pc = some (3, a, 3, c, nx))  (w : qW k nx (x0 :: x1 :: x2 :: qI x :: L) S (T, m, r) Q) : qW k pc (x0 :: x1 :: x2 :: x3 :: L) (qI x :: S) (T, m, r) Q := by
  exact qW_step hc (by decide) (by simp [qstep]) w
theorem qr_as3 {k pc : Nat} {L S : List qA} {T : List (Nat × Nat)} {m : Nat → Int → Int} {r : Nat → Int → Option Nat} {Q : qA → qM → Prop} {a : Int} {c : List Nat} {nx : Nat} {x : Nat} {x0 x1 x2 x3 : qA} (hc : qcd k pc = some (4, a, 3, c, nx))  (w : qW k nx (x0 :: x1 :: x2 :: qK x :: L) S (T, m, r) Q) : qW k pc (x0 :: x1 :: x2 :: x3 :: L) (qK x :: S) (T, m, r) Q := by
  exact qW_step hc (by decide) (by simp [qstep]) w
theorem qr_inc3 {k pc : Nat} {L S : List qA} {T : List (Nat × Nat)} {m : Nat → Int → Int} {r : Nat → Int → Option Nat} {Q : qA → qM → Prop} {a : Int} {c : List Nat} {nx : Nat} {x : Int} {x0 x1 x2 : qA} (hc : qcd k pc = some (5, a, 3, c, nx)) (h : qin (x + a)) (w : qW k nx (x0 :: x1 :: x2 :: qI (x + a) :: L) S (T, m, r) Q) : qW k pc (x0 :: x1 :: x2 :: qI x :: L) S (T, m, r) Q := by
  exact qW_step hc (by decide) (by simp [qstep]; exact h) w
theorem qr_is4 {k pc : Nat} {L S : List qA} {T : List (Nat × Nat)} {m : Nat → Int → Int} {r : Nat → Int → Option Nat} {Q : qA → qM → Prop} {a : Int} {c : List Nat} {nx : Nat} {x : Int} {x0 x1 x2 x3 x4 : qA} (hc : qcd k pc = some (3, a, 4, c, nx))  (w : qW k nx (x0 :: x1 :: x2 :: x3 :: qI x :: L) S (T, m, r) Q) : qW k pc (x0 :: x1 :: x2 :: x3 :: x4 :: L) (qI x :: S) (T, m, r) Q := by
  exact qW_step hc (by decide) (by simp [qstep]) w
theorem qr_as4 {k pc : Nat} {L S : List qA} {T : List (Nat × Nat)} {m : Nat → Int → Int} {r : Nat → Int → Option Nat} {Q : qA → qM → Prop} {a : Int} {c : List Nat} {nx : Nat} {x : Nat} {x0 x1 x2 x3 x4 : qA} (hc : qcd k pc = some (4, a, 4, c, nx))  (w : qW k nx (x0 :: x1 :: x2 :: x3 :: qK x :: L) S (T, m, r) Q) : qW k pc (x0 :: x1 :: x2 :: x3 :: x4 :: L) (qK x :: S) (T, m, r) Q := by
  exact qW_step hc (by decide) (by simp [qstep]) w
theorem qr_inc4 {k pc : Nat} {L S : List qA} {T : List (Nat × Nat)} {m : Nat → Int → Int} {r : Nat → Int → Option Nat} {Q : qA → qM → Prop} {a : Int} {c : List Nat} {nx : Nat} {x : Int} {x0 x1 x2 x3 : qA} (hc : qcd k pc = some (5, a, 4, c, nx)) (h : qin (x + a)) (w : qW k nx (x0 :: x1 :: x2 :: x3 :: qI (x + a) :: L) S (T, m, r) Q) : qW k pc (x0 :: x1 :: x2 :: x3 :: qI x :: L) S (T, m, r) Q := by
  exact qW_step hc (by decide) (by simp [qstep]; exact h) w
theorem qr_is5 {k pc : Nat} {L S : List qA} {T : List (Nat × Nat)} {m : Nat → Int → Int} {r : Nat → Int → Option Nat} {Q : qA → qM → Prop} {a : Int} {c : List Nat} {nx : Nat} {x : Int} {x0 x1 x2 x3 x4 x5 : qA} (hc : qcd k pc = some (3, a, 5, c, nx))  (w : qW k nx (x0 :: x1 :: x2 :: x3 :: x4 :: qI x :: L) S (T, m, r) Q) : qW k pc (x0 :: x1 :: x2 :: x3 :: x4 :: x5 :: L) (qI x :: S) (T, m, r) Q := by
  exact qW_step hc (by decide) (by simp [qstep]) w
theorem qr_as5 {k pc : Nat} {L S : List qA} {T : List (Nat × Nat)} {m : Nat → Int → Int} {r : Nat → Int → Option Nat} {Q : qA → qM → Prop} {a : Int} {c : List Nat} {nx : Nat} {x : Nat} {x0 x1 x2 x3 x4 x5 : qA} (hc : qcd k pc = some (4, a, 5, c, nx))  (w : qW k nx (x0 :: x1 :: x2 :: x3 :: x4 :: qK x :: L) S (T, m, r) Q) : qW k pc (x0 :: x1 :: x2 :: x3 :: x4 :: x5 :: L) (qK x :: S) (T, m, r) Q := by
  exact qW_step hc (by decide) (by simp [qstep]) w
theorem qr_inc5 {k pc : Nat} {L S : List qA} {T : List (Nat × Nat)} {m : Nat → Int → Int} {r : Nat → Int → Option Nat} {Q : qA → qM → Prop} {a : Int} {c : List Nat} {nx : Nat} {x : Int} {x0 x1 x2 x3 x4 : qA} (hc : qcd k pc = some (5, a, 5, c, nx)) (h : qin (x + a)) (w : qW k nx (x0 :: x1 :: x2 :: x3 :: x4 :: qI (x + a) :: L) S (T, m, r) Q) : qW k pc (x0 :: x1 :: x2 :: x3 :: x4 :: qI x :: L) S (T, m, r) Q := by
  exact qW_step hc (by decide) (by simp [qstep]; exact h) w
theorem qr_is6 {k pc : Nat} {L S : List qA} {T : List (Nat × Nat)} {m : Nat → Int → Int} {r : Nat → Int → Option Nat} {Q : qA → qM → Prop} {a : Int} {c : List Nat} {nx : Nat} {x : Int} {x0 x1 x2 x3 x4 x5 x6 : qA} (hc : qcd k pc = some (3, a, 6, c, nx))  (w : qW k nx (x0 :: x1 :: x2 :: x3 :: x4 :: x5 :: qI x :: L) S (T, m, r) Q) : qW k pc (x0 :: x1 :: x2 :: x3 :: x4 :: x5 :: x6 :: L) (qI x :: S) (T, m, r) Q := by
  exact qW_step hc (by decide) (by simp [qstep]) w
theorem qr_as6 {k pc : Nat} {L S : List qA} {T : List (Nat × Nat)} {m : Nat → Int → Int} {r : Nat → Int → Option Nat} {Q : qA → qM → Prop} {a : Int} {c : List Nat} {nx : Nat} {x : Nat} {x0 x1 x2 x3 x4 x5 x6 : qA} (hc : qcd k pc = some (4, a, 6, c, nx))  (w : qW k nx (x0 :: x1 :: x2 :: x3 :: x4 :: x5 :: qK x :: L) S (T, m, r) Q) : qW k pc (x0 :: x1 :: x2 :: x3 :: x4 :: x5 :: x6 :: L) (qK x :: S) (T, m, r) Q := by
  exact qW_step hc (by decide) (by simp [qstep]) w
theorem qr_inc6 {k pc : Nat} {L S : List qA} {T : List (Nat × Nat)} {m : Nat → Int → Int} {r : Nat → Int → Option Nat} {Q : qA → qM → Prop} {a : Int} {c : List Nat} {nx : Nat} {x : Int} {x0 x1 x2 x3 x4 x5 : qA} (hc : qcd k pc = some (5, a, 6, c, nx)) (h : qin (x + a)) (w : qW k nx (x0 :: x1 :: x2 :: x3 :: x4 :: x5 :: qI (x + a) :: L) S (T, m, r) Q) : qW k pc (x0 :: x1 :: x2 :: x3 :: x4 :: x5 :: qI x :: L) S (T, m, r) Q := by
  exact qW_step hc (by decide) (by simp [qstep]; exact h) w
theorem qr_is7 {k pc : Nat} {L S : List qA} {T : List (Nat × Nat)} {m : Nat → Int → Int} {r : Nat → Int → Option Nat} {Q : qA → qM → Prop} {a : Int} {c : List Nat} {nx : Nat} {x : Int} {x0 x1 x2 x3 x4 x5 x6 x7 : qA} (hc : qcd k pc = some (3, a, 7, c, nx))  (w : qW k nx (x0 :: x1 :: x2 :: x3 :: x4 :: x5 :: x6 :: qI x :: L) S (T, m, r) Q) : qW k pc (x0 :: x1 :: x2 :: x3 :: x4 :: x5 :: x6 :: x7 :: L) (qI x :: S) (T, m, r) Q := by
  exact qW_step hc (by decide) (by simp [qstep]) w
theorem qr_as7 {k pc : Nat} {L S : List qA} {T : List (Nat × Nat)} {m : Nat → Int → Int} {r : Nat → Int → Option Nat} {Q : qA → qM → Prop} {a : Int} {c : List Nat} {nx : Nat} {x : Nat} {x0 x1 x2 x3 x4 x5 x6 x7 : qA} (hc : qcd k pc = some (4, a, 7, c, nx))  (w : qW k nx (x0 :: x1 :: x2 :: x3 :: x4 :: x5 :: x6 :: qK x :: L) S (T, m, r) Q) : qW k pc (x0 :: x1 :: x2 :: x3 :: x4 :: x5 :: x6 :: x7 :: L) (qK x :: S) (T, m, r) Q := by
  exact qW_step hc (by decide) (by simp [qstep]) w
theorem qr_inc7 {k pc : Nat} {L S : List qA} {T : List (Nat × Nat)} {m : Nat → Int → Int} {r : Nat → Int → Option Nat} {Q : qA → qM → Prop} {a : Int} {c : List Nat} {nx : Nat} {x : Int} {x0 x1 x2 x3 x4 x5 x6 : qA} (hc : qcd k pc = some (5, a, 7, c, nx)) (h : qin (x + a)) (w : qW k nx (x0 :: x1 :: x2 :: x3 :: x4 :: x5 :: x6 :: qI (x + a) :: L) S (T, m, r) Q) : qW k pc (x0 :: x1 :: x2 :: x3 :: x4 :: x5 :: x6 :: qI x :: L) S (T, m, r) Q := by
  exact qW_step hc (by decide) (by simp [qstep]; exact h) w
theorem qr_is8 {k pc : Nat} {L S : List qA} {T : List (Nat × Nat)} {m : Nat → Int → Int} {r : Nat → Int → Option Nat} {Q : qA → qM → Prop} {a : Int} {c : List Nat} {nx : Nat} {x : Int} {x0 x1 x2 x3 x4 x5 x6 x7 x8 : qA} (hc : qcd k pc = some (3, a, 8, c, nx))  (w : qW k nx (x0 :: x1 :: x2 :: x3 :: x4 :: x5 :: x6 :: x7 :: qI x :: L) S (T, m, r) Q) : qW k pc (x0 :: x1 :: x2 :: x3 :: x4 :: x5 :: x6 :: x7 :: x8 :: L) (qI x :: S) (T, m, r) Q := by
  exact qW_step hc (by decide) (by simp [qstep]) w
theorem qr_as8 {k pc : Nat} {L S : List qA} {T : List (Nat × Nat)} {m : Nat → Int → Int} {r : Nat → Int → Option Nat} {Q : qA → qM → Prop} {a : Int} {c : List Nat} {nx : Nat} {x : Nat} {x0 x1 x2 x3 x4 x5 x6 x7 x8 : qA} (hc : qcd k pc = some (4, a, 8, c, nx))  (w : qW k nx (x0 :: x1 :: x2 :: x3 :: x4 :: x5 :: x6 :: x7 :: qK x :: L) S (T, m, r) Q) : qW k pc (x0 :: x1 :: x2 :: x3 :: x4 :: x5 :: x6 :: x7 :: x8 :: L) (qK x :: S) (T, m, r) Q := by
  exact qW_step hc (by decide) (by simp [qstep]) w
theorem qr_inc8 {k pc : Nat} {L S : List qA} {T : List (Nat × Nat)} {m : Nat → Int → Int} {r : Nat → Int → Option Nat} {Q : qA → qM → Prop} {a : Int} {c : List Nat} {nx : Nat} {x : Int} {x0 x1 x2 x3 x4 x5 x6 x7 : qA} (hc : qcd k pc = some (5, a, 8, c, nx)) (h : qin (x + a)) (w : qW k nx (x0 :: x1 :: x2 :: x3 :: x4 :: x5 :: x6 :: x7 :: qI (x + a) :: L) S (T, m, r) Q) : qW k pc (x0 :: x1 :: x2 :: x3 :: x4 :: x5 :: x6 :: x7 :: qI x :: L) S (T, m, r) Q := by
  exact qW_step hc (by decide) (by simp [qstep]; exact h) w
theorem qr_is9 {k pc : Nat} {L S : List qA} {T : List (Nat × Nat)} {m : Nat → Int → Int} {r : Nat → Int → Option Nat} {Q : qA → qM → Prop} {a : Int} {c : List Nat} {nx : Nat} {x : Int} {x0 x1 x2 x3 x4 x5 x6 x7 x8 x9 : qA} (hc : qcd k pc = some (3, a, 9, c, nx))  (w : qW k nx (x0 :: x1 :: x2 :: x3 :: x4 :: x5 :: x6 :: x7 :: x8 :: qI x :: L) S (T, m, r) Q) : qW k pc (x0 :: x1 :: x2 :: x3 :: x4 :: x5 :: x6 :: x7 :: x8 :: x9 :: L) (qI x :: S) (T, m, r) Q := by
  exact qW_step hc (by decide) (by simp [qstep]) w
theorem qr_as9 {k pc : Nat} {L S : List qA} {T : List (Nat × Nat)} {m : Nat → Int → Int} {r : Nat → Int → Option Nat} {Q : qA → qM → Prop} {a : Int} {c : List Nat} {nx : Nat} {x : Nat} {x0 x1 x2 x3 x4 x5 x6 x7 x8 x9 : qA} (hc : qcd k pc = some (4, a, 9, c, nx))  (w : qW k nx (x0 :: x1 :: x2 :: x3 :: x4 :: x5 :: x6 :: x7 :: x8 :: qK x :: L) S (T, m, r) Q) : qW k pc (x0 :: x1 :: x2 :: x3 :: x4 :: x5 :: x6 :: x7 :: x8 :: x9 :: L) (qK x :: S) (T, m, r) Q := by
  exact qW_step hc (by decide) (by simp [qstep]) w
theorem qr_inc9 {k pc : Nat} {L S : List qA} {T : List (Nat × Nat)} {m : Nat → Int → Int} {r : Nat → Int → Option Nat} {Q : qA → qM → Prop} {a : Int} {c : List Nat} {nx : Nat} {x : Int} {x0 x1 x2 x3 x4 x5 x6 x7 x8 : qA} (hc : qcd k pc = some (5, a, 9, c, nx)) (h : qin (x + a)) (w : qW k nx (x0 :: x1 :: x2 :: x3 :: x4 :: x5 :: x6 :: x7 :: x8 :: qI (x + a) :: L) S (T, m, r) Q) : qW k pc (x0 :: x1 :: x2 :: x3 :: x4 :: x5 :: x6 :: x7 :: x8 :: qI x :: L) S (T, m, r) Q := by
  exact qW_step hc (by decide) (by simp [qstep]; exact h) w
theorem qr_is10 {k pc : Nat} {L S : List qA} {T : List (Nat × Nat)} {m : Nat → Int → Int} {r : Nat → Int → Option Nat} {Q : qA → qM → Prop} {a : Int} {c : List Nat} {nx : Nat} {x : Int} {x0 x1 x2 x3 x4 x5 x6 x7 x8 x9 x10 : qA} (hc : qcd k pc = some (3, a, 10, c, nx))  (w : qW k nx (x0 :: x1 :: x2 :: x3 :: x4 :: x5 :: x6 :: x7 :: x8 :: x9 :: qI x :: L) S (T, m, r) Q) : qW k pc (x0 :: x1 :: x2 :: x3 :: x4 :: x5 :: x6 :: x7 :: x8 :: x9 :: x10 :: L) (qI x :: S) (T, m, r) Q := by
  exact qW_step hc (by decide) (by simp [qstep]) w
theorem qr_as10 {k pc : Nat} {L S : List qA} {T : List (Nat × Nat)} {m : Nat → Int → Int} {r : Nat → Int → Option Nat} {Q : qA → qM → Prop} {a : Int} {c : List Nat} {nx : Nat} {x : Nat} {x0 x1 x2 x3 x4 x5 x6 x7 x8 x9 x10 : qA} (hc : qcd k pc = some (4, a, 10, c, nx))  (w : qW k nx (x0 :: x1 :: x2 :: x3 :: x4 :: x5 :: x6 :: x7 :: x8 :: x9 :: qK x :: L) S (T, m, r) Q) : qW k pc (x0 :: x1 :: x2 :: x3 :: x4 :: x5 :: x6 :: x7 :: x8 :: x9 :: x10 :: L) (qK x :: S) (T, m, r) Q := by
  exact qW_step hc (by decide) (by simp [qstep]) w
theorem qr_inc10 {k pc : Nat} {L S : List qA} {T : List (Nat × Nat)} {m : Nat → Int → Int} {r : Nat → Int → Option Nat} {Q : qA → qM → Prop} {a : Int} {c : List Nat} {nx : Nat} {x : Int} {x0 x1 x2 x3 x4 x5 x6 x7 x8 x9 : qA} (hc : qcd k pc = some (5, a, 10, c, nx)) (h : qin (x + a)) (w : qW k nx (x0 :: x1 :: x2 :: x3 :: x4 :: x5 :: x6 :: x7 :: x8 :: x9 :: qI (x + a) :: L) S (T, m, r) Q) : qW k pc (x0 :: x1 :: x2 :: x3 :: x4 :: x5 :: x6 :: x7 :: x8 :: x9 :: qI x :: L) S (T, m, r) Q := by
  exact qW_step hc (by decide) (by simp [qstep]; exact h) w
theorem qr_is11 {k pc : Nat} {L S : List qA} {T : List (Nat × Nat)} {m : Nat → Int → Int} {r : Nat → Int → Option Nat} {Q : qA → qM → Prop} {a : Int} {c : List Nat} {nx : Nat} {x : Int} {x0 x1 x2 x3 x4 x5 x6 x7 x8 x9 x10 x11 : qA} (hc : qcd k pc = some (3, a, 11, c, nx))  (w : qW k nx (x0 :: x1 :: x2 :: x3 :: x4 :: x5 :: x6 :: x7 :: x8 :: x9 :: x10 :: qI x :: L) S (T, m, r) Q) : qW k pc (x0 :: x1 :: x2 :: x3 :: x4 :: x5 :: x6 :: x7 :: x8 :: x9 :: x10 :: x11 :: L) (qI x :: S) (T, m, r) Q := by
  exact qW_step hc (by decide) (by simp [qstep]) w
theorem qr_as11 {k pc : Nat} {L S : List qA} {T : List (Nat × Nat)} {m : Nat → Int → Int} {r : Nat → Int → Option Nat} {Q : qA → qM → Prop} {a : Int} {c : List Nat} {nx : Nat} {x : Nat} {x0 x1 x2 x3 x4 x5 x6 x7 x8 x9 x10 x11 : qA} (hc : qcd k pc = some (4, a, 11, c, nx))  (w : qW k nx (x0 :: x1 :: x2 :: x3 :: x4 :: x5 :: x6 :: x7 :: x8 :: x9 :: x10 :: qK x :: L) S (T, m, r) Q) : qW k pc (x0 :: x1 :: x2 :: x3 :: x4 :: x5 :: x6 :: x7 :: x8 :: x9 :: x10 :: x11 :: L) (qK x :: S) (T, m, r) Q := by
  exact qW_step hc (by decide) (by simp [qstep]) w
theorem qr_inc11 {k pc : Nat} {L S : List qA} {T : List (Nat × Nat)} {m : Nat → Int → Int} {r : Nat → Int → Option Nat} {Q : qA → qM → Prop} {a : Int} {c : List Nat} {nx : Nat} {x : Int} {x0 x1 x2 x3 x4 x5 x6 x7 x8 x9 x10 : qA} (hc : qcd k pc = some (5, a, 11, c, nx)) (h : qin (x + a)) (w : qW k nx (x0 :: x1 :: x2 :: x3 :: x4 :: x5 :: x6 :: x7 :: x8 :: x9 :: x10 :: qI (x + a) :: L) S (T, m, r) Q) : qW k pc (x0 :: x1 :: x2 :: x3 :: x4 :: x5 :: x6 :: x7 :: x8 :: x9 :: x10 :: qI x :: L) S (T, m, r) Q := by
  exact qW_step hc (by decide) (by simp [qstep]; exact h) w
theorem qr_is12 {k pc : Nat} {L S : List qA} {T : List (Nat × Nat)} {m : Nat → Int → Int} {r : Nat → Int → Option Nat} {Q : qA → qM → Prop} {a : Int} {c : List Nat} {nx : Nat} {x : Int} {x0 x1 x2 x3 x4 x5 x6 x7 x8 x9 x10 x11 x12 : qA} (hc : qcd k pc = some (3, a, 12, c, nx))  (w : qW k nx (x0 :: x1 :: x2 :: x3 :: x4 :: x5 :: x6 :: x7 :: x8 :: x9 :: x10 :: x11 :: qI x :: L) S (T, m, r) Q) : qW k pc (x0 :: x1 :: x2 :: x3 :: x4 :: x5 :: x6 :: x7 :: x8 :: x9 :: x10 :: x11 :: x12 :: L) (qI x :: S) (T, m, r) Q := by
  exact qW_step hc (by decide) (by simp [qstep]) w
theorem qr_as12 {k pc : Nat} {L S : List qA} {T : List (Nat × Nat)} {m : Nat → Int → Int} {r : Nat → Int → Option Nat} {Q : qA → qM → Prop} {a : Int} {c : List Nat} {nx : Nat} {x : Nat} {x0 x1 x2 x3 x4 x5 x6 x7 x8 x9 x10 x11 x12 : qA} (hc : qcd k pc = some (4, a, 12, c, nx))  (w : qW k nx (x0 :: x1 :: x2 :: x3 :: x4 :: x5 :: x6 :: x7 :: x8 :: x9 :: x10 :: x11 :: qK x :: L) S (T, m, r) Q) : qW k pc (x0 :: x1 :: x2 :: x3 :: x4 :: x5 :: x6 :: x7 :: x8 :: x9 :: x10 :: x11 :: x12 :: L) (qK x :: S) (T, m, r) Q := by
  exact qW_step hc (by decide) (by simp [qstep]) w
theorem qr_inc12 {k pc : Nat} {L S : List qA} {T : List (Nat × Nat)} {m : Nat → Int → Int} {r : Nat → Int → Option Nat} {Q : qA → qM → Prop} {a : Int} {c : List Nat} {nx : Nat} {x : Int} {x0 x1 x2 x3 x4 x5 x6 x7 x8 x9 x10 x11 : qA} (hc : qcd k pc = some (5, a, 12, c, nx)) (h : qin (x + a)) (w : qW k nx (x0 :: x1 :: x2 :: x3 :: x4 :: x5 :: x6 :: x7 :: x8 :: x9 :: x10 :: x11 :: qI (x + a) :: L) S (T, m, r) Q) : qW k pc (x0 :: x1 :: x2 :: x3 :: x4 :: x5 :: x6 :: x7 :: x8 :: x9 :: x10 :: x11 :: qI x :: L) S (T, m, r) Q := by
  exact qW_step hc (by decide) (by simp [qstep]; exact h) w
theorem qr_add {k pc : Nat} {L S : List qA} {T : List (Nat × Nat)} {m : Nat → Int → Int} {r : Nat → Int → Option Nat} {Q : qA → qM → Prop} {a : Int} {b : Nat} {c : List Nat} {nx : Nat} {x y : Int} (hc : qcd k pc = some (6, a, b, c, nx)) (h : qin (x + y)) (w : qW k nx L (qI (x + y) :: S) (T, m, r) Q) : qW k pc L (qI y :: qI x :: S) (T, m, r) Q := by
  exact qW_step hc (by decide) (by simp only [qstep, if_pos h]) w
theorem qr_sub {k pc : Nat} {L S : List qA} {T : List (Nat × Nat)} {m : Nat → Int → Int} {r : Nat → Int → Option Nat} {Q : qA → qM → Prop} {a : Int} {b : Nat} {c : List Nat} {nx : Nat} {x y : Int} (hc : qcd k pc = some (7, a, b, c, nx)) (h : qin (x - y)) (w : qW k nx L (qI (x - y) :: S) (T, m, r) Q) : qW k pc L (qI y :: qI x :: S) (T, m, r) Q := by
  exact qW_step hc (by decide) (by simp only [qstep, if_pos h]) w
theorem qr_mul {k pc : Nat} {L S : List qA} {T : List (Nat × Nat)} {m : Nat → Int → Int} {r : Nat → Int → Option Nat} {Q : qA → qM → Prop} {a : Int} {b : Nat} {c : List Nat} {nx : Nat} {x y : Int} (hc : qcd k pc = some (8, a, b, c, nx)) (h : qin (x * y)) (w : qW k nx L (qI (x * y) :: S) (T, m, r) Q) : qW k pc L (qI y :: qI x :: S) (T, m, r) Q := by
  exact qW_step hc (by decide) (by simp only [qstep, if_pos h]) w
theorem qr_div {k pc : Nat} {L S : List qA} {T : List (Nat × Nat)} {m : Nat → Int → Int} {r : Nat → Int → Option Nat} {Q : qA → qM → Prop} {a : Int} {b : Nat} {c : List Nat} {nx : Nat} {x y : Int} (hc : qcd k pc = some (9, a, b, c, nx)) (h : 0 ≤ x ∧ 0 < y) (w : qW k nx L (qI (x / y) :: S) (T, m, r) Q) : qW k pc L (qI y :: qI x :: S) (T, m, r) Q := by
  exact qW_step hc (by decide) (by simp only [qstep, if_pos h]) w
theorem qr_rem {k pc : Nat} {L S : List qA} {T : List (Nat × Nat)} {m : Nat → Int → Int} {r : Nat → Int → Option Nat} {Q : qA → qM → Prop} {a : Int} {b : Nat} {c : List Nat} {nx : Nat} {x y : Int} (hc : qcd k pc = some (10, a, b, c, nx)) (h : 0 ≤ x ∧ 0 < y) (w : qW k nx L (qI (x % y) :: S) (T, m, r) Q) : qW k pc L (qI y :: qI x :: S) (T, m, r) Q := by
  exact qW_step hc (by decide) (by simp only [qstep, if_pos h]) w
theorem qr_dup {k pc : Nat} {L S : List qA} {T : List (Nat × Nat)} {m : Nat → Int → Int} {r : Nat → Int → Option Nat} {Q : qA → qM → Prop} {a : Int} {b : Nat} {c : List Nat} {nx : Nat} {x : qV} (hc : qcd k pc = some (12, a, b, c, nx)) (hx : qn1 (some x) = true := by rfl) (w : qW k nx L (some x :: some x :: S) (T, m, r) Q) : qW k pc L (some x :: S) (T, m, r) Q := by
  exact qW_step hc (by decide) (by simp only [qstep, if_pos hx]) w
theorem qr_dup2 {k pc : Nat} {L S : List qA} {T : List (Nat × Nat)} {m : Nat → Int → Int} {r : Nat → Int → Option Nat} {Q : qA → qM → Prop} {a : Int} {b : Nat} {c : List Nat} {nx : Nat} {x y : qV} (hc : qcd k pc = some (13, a, b, c, nx)) (hx : qn1 (some x) = true ∧ qn1 (some y) = true := by exact ⟨rfl, rfl⟩) (w : qW k nx L (some x :: some y :: some x :: some y :: S) (T, m, r) Q) : qW k pc L (some x :: some y :: S) (T, m, r) Q := by
  exact qW_step hc (by decide) (by simp only [qstep, if_pos hx]) w
theorem qr_pop {k pc : Nat} {L S : List qA} {T : List (Nat × Nat)} {m : Nat → Int → Int} {r : Nat → Int → Option Nat} {Q : qA → qM → Prop} {a : Int} {b : Nat} {c : List Nat} {nx : Nat} {x : qV} (hc : qcd k pc = some (14, a, b, c, nx)) (hx : qn1 (some x) = true := by rfl) (w : qW k nx L S (T, m, r) Q) : qW k pc L (some x :: S) (T, m, r) Q := by
  exact qW_step hc (by decide) (by simp only [qstep, if_pos hx]) w
theorem qr_op2 {k pc : Nat} {L S : List qA} {T : List (Nat × Nat)} {m : Nat → Int → Int} {r : Nat → Int → Option Nat} {Q : qA → qM → Prop} {a : Int} {b : Nat} {c : List Nat} {nx : Nat} {x y : Int} (hc : qcd k pc = some (11, a, b, c, nx))  (w : qW k nx L (qI (qop2 a x y) :: S) (T, m, r) Q) : qW k pc L (qI y :: qI x :: S) (T, m, r) Q := by
  exact qW_step hc (by decide) rfl w
theorem qr_i2l {k pc : Nat} {L S : List qA} {T : List (Nat × Nat)} {m : Nat → Int → Int} {r : Nat → Int → Option Nat} {Q : qA → qM → Prop} {b : Nat} {c : List Nat} {nx : Nat} {x : Int} (hc : qcd k pc = some (35, 0, b, c, nx))  (w : qW k nx L (qJ (Int32.ofInt x).toInt64 :: S) (T, m, r) Q) : qW k pc L (qI x :: S) (T, m, r) Q := by
  exact qW_step hc (by decide) rfl w
theorem qr_lcmp {k pc : Nat} {L S : List qA} {T : List (Nat × Nat)} {m : Nat → Int → Int} {r : Nat → Int → Option Nat} {Q : qA → qM → Prop} {b : Nat} {c : List Nat} {nx : Nat} {x : Int64} (hc : qcd k pc = some (35, 1, b, c, nx))  (w : qW k nx L (qI 0 :: S) (T, m, r) Q) : qW k pc L (qJ x :: qJ x :: S) (T, m, r) Q := by
  exact qW_step hc (by decide) (by simp [qstep]) w
theorem qr_ll {k pc : Nat} {L S : List qA} {T : List (Nat × Nat)} {m : Nat → Int → Int} {r : Nat → Int → Option Nat} {Q : qA → qM → Prop} {a : Int} {b : Nat} {c : List Nat} {nx : Nat} {x : Int64} (hc : qcd k pc = some (36, a, b, c, nx)) (hl : L[b]? = some (some (Sum.inr (Sum.inr x)))) (w : qW k nx L (qJ x :: S) (T, m, r) Q) : qW k pc L S (T, m, r) Q := by
  exact qW_step hc (by decide) (by simp only [qstep, hl]) w
theorem qr_ls1 {k pc : Nat} {L S : List qA} {T : List (Nat × Nat)} {m : Nat → Int → Int} {r : Nat → Int → Option Nat} {Q : qA → qM → Prop} {a : Int} {c : List Nat} {nx : Nat} {x : Int64} {x0 x1 x2 : qA} (hc : qcd k pc = some (37, a, 1, c, nx))  (w : qW k nx (x0 :: qJ x :: none :: L) S (T, m, r) Q) : qW k pc (x0 :: x1 :: x2 :: L) (qJ x :: S) (T, m, r) Q := by
  exact qW_step hc (by decide) (by simp [qstep]) w
theorem qr_ls6 {k pc : Nat} {L S : List qA} {T : List (Nat × Nat)} {m : Nat → Int → Int} {r : Nat → Int → Option Nat} {Q : qA → qM → Prop} {a : Int} {c : List Nat} {nx : Nat} {x : Int64} {x0 x1 x2 x3 x4 x5 x6 x7 : qA} (hc : qcd k pc = some (37, a, 6, c, nx))  (w : qW k nx (x0 :: x1 :: x2 :: x3 :: x4 :: x5 :: qJ x :: none :: L) S (T, m, r) Q) : qW k pc (x0 :: x1 :: x2 :: x3 :: x4 :: x5 :: x6 :: x7 :: L) (qJ x :: S) (T, m, r) Q := by
  exact qW_step hc (by decide) (by simp [qstep]) w
theorem qr_ls7 {k pc : Nat} {L S : List qA} {T : List (Nat × Nat)} {m : Nat → Int → Int} {r : Nat → Int → Option Nat} {Q : qA → qM → Prop} {a : Int} {c : List Nat} {nx : Nat} {x : Int64} {x0 x1 x2 x3 x4 x5 x6 x7 x8 : qA} (hc : qcd k pc = some (37, a, 7, c, nx))  (w : qW k nx (x0 :: x1 :: x2 :: x3 :: x4 :: x5 :: x6 :: qJ x :: none :: L) S (T, m, r) Q) : qW k pc (x0 :: x1 :: x2 :: x3 :: x4 :: x5 :: x6 :: x7 :: x8 :: L) (qJ x :: S) (T, m, r) Q := by
  exact qW_step hc (by decide) (by simp [qstep]) w
theorem qr_ladd {k pc : Nat} {L S : List qA} {T : List (Nat × Nat)} {m : Nat → Int → Int} {r : Nat → Int → Option Nat} {Q : qA → qM → Prop} {b : Nat} {c : List Nat} {nx : Nat} {x y : Int64} (hc : qcd k pc = some (38, 0, b, c, nx))  (w : qW k nx L (qJ (x + y) :: S) (T, m, r) Q) : qW k pc L (qJ y :: qJ x :: S) (T, m, r) Q := by
  exact qW_step hc (by decide) rfl w
theorem qr_lmul {k pc : Nat} {L S : List qA} {T : List (Nat × Nat)} {m : Nat → Int → Int} {r : Nat → Int → Option Nat} {Q : qA → qM → Prop} {b : Nat} {c : List Nat} {nx : Nat} {x y : Int64} (hc : qcd k pc = some (38, 1, b, c, nx))  (w : qW k nx L (qJ (x * y) :: S) (T, m, r) Q) : qW k pc L (qJ y :: qJ x :: S) (T, m, r) Q := by
  exact qW_step hc (by decide) rfl w
theorem qr_ldc2 {k pc : Nat} {L S : List qA} {T : List (Nat × Nat)} {m : Nat → Int → Int} {r : Nat → Int → Option Nat} {Q : qA → qM → Prop} {a : Int} {b : Nat} {c : List Nat} {nx : Nat}  (hc : qcd k pc = some (39, a, b, c, nx))  (w : qW k nx L (qJ (Int64.ofInt a) :: S) (T, m, r) Q) : qW k pc L S (T, m, r) Q := by
  exact qW_step hc (by decide) rfl w
theorem qr_goto {k pc : Nat} {L S : List qA} {T : List (Nat × Nat)} {m : Nat → Int → Int} {r : Nat → Int → Option Nat} {Q : qA → qM → Prop} {a : Int} {b : Nat} {c : List Nat} {nx : Nat}  (hc : qcd k pc = some (15, a, b, c, nx))  (w : qW k b L S (T, m, r) Q) : qW k pc L S (T, m, r) Q := by
  exact qW_step hc (by decide) rfl w
theorem qr_iceq {k pc : Nat} {L S : List qA} {T : List (Nat × Nat)} {m : Nat → Int → Int} {r : Nat → Int → Option Nat} {Q : qA → qM → Prop} {b : Nat} {c : List Nat} {nx : Nat} {x y : Int} (hc : qcd k pc = some (16, 0, b, c, nx)) (kt : x = y → qW k b L S (T, m, r) Q) (kf : x ≠ y → qW k nx L S (T, m, r) Q) : qW k pc L (qI y :: qI x :: S) (T, m, r) Q := by
  by_cases h : x = y
  · exact qW_step hc (by decide) (by simp [qstep, qcmp, h]) (kt h)
  · exact qW_step hc (by decide) (by simp [qstep, qcmp, h]) (kf (by omega))
theorem qr_ifeq {k pc : Nat} {L S : List qA} {T : List (Nat × Nat)} {m : Nat → Int → Int} {r : Nat → Int → Option Nat} {Q : qA → qM → Prop} {b : Nat} {c : List Nat} {nx : Nat} {x : Int} (hc : qcd k pc = some (17, 0, b, c, nx)) (kt : x = 0 → qW k b L S (T, m, r) Q) (kf : x ≠ 0 → qW k nx L S (T, m, r) Q) : qW k pc L (qI x :: S) (T, m, r) Q := by
  by_cases h : x = 0
  · exact qW_step hc (by decide) (by simp [qstep, qcmp, h]) (kt h)
  · exact qW_step hc (by decide) (by simp [qstep, qcmp, h]) (kf (by omega))
theorem qr_icne {k pc : Nat} {L S : List qA} {T : List (Nat × Nat)} {m : Nat → Int → Int} {r : Nat → Int → Option Nat} {Q : qA → qM → Prop} {b : Nat} {c : List Nat} {nx : Nat} {x y : Int} (hc : qcd k pc = some (16, 1, b, c, nx)) (kt : x ≠ y → qW k b L S (T, m, r) Q) (kf : x = y → qW k nx L S (T, m, r) Q) : qW k pc L (qI y :: qI x :: S) (T, m, r) Q := by
  by_cases h : x ≠ y
  · exact qW_step hc (by decide) (by simp [qstep, qcmp, h]) (kt h)
  · exact qW_step hc (by decide) (by simp [qstep, qcmp, h]) (kf (by omega))
theorem qr_ifne {k pc : Nat} {L S : List qA} {T : List (Nat × Nat)} {m : Nat → Int → Int} {r : Nat → Int → Option Nat} {Q : qA → qM → Prop} {b : Nat} {c : List Nat} {nx : Nat} {x : Int} (hc : qcd k pc = some (17, 1, b, c, nx)) (kt : x ≠ 0 → qW k b L S (T, m, r) Q) (kf : x = 0 → qW k nx L S (T, m, r) Q) : qW k pc L (qI x :: S) (T, m, r) Q := by
  by_cases h : x ≠ 0
  · exact qW_step hc (by decide) (by simp [qstep, qcmp, h]) (kt h)
  · exact qW_step hc (by decide) (by simp [qstep, qcmp, h]) (kf (by omega))
theorem qr_iclt {k pc : Nat} {L S : List qA} {T : List (Nat × Nat)} {m : Nat → Int → Int} {r : Nat → Int → Option Nat} {Q : qA → qM → Prop} {b : Nat} {c : List Nat} {nx : Nat} {x y : Int} (hc : qcd k pc = some (16, 2, b, c, nx)) (kt : x < y → qW k b L S (T, m, r) Q) (kf : y ≤ x → qW k nx L S (T, m, r) Q) : qW k pc L (qI y :: qI x :: S) (T, m, r) Q := by
  by_cases h : x < y
  · exact qW_step hc (by decide) (by simp [qstep, qcmp, h]) (kt h)
  · exact qW_step hc (by decide) (by simp [qstep, qcmp, h]) (kf (by omega))
theorem qr_iflt {k pc : Nat} {L S : List qA} {T : List (Nat × Nat)} {m : Nat → Int → Int} {r : Nat → Int → Option Nat} {Q : qA → qM → Prop} {b : Nat} {c : List Nat} {nx : Nat} {x : Int} (hc : qcd k pc = some (17, 2, b, c, nx)) (kt : x < 0 → qW k b L S (T, m, r) Q) (kf : 0 ≤ x → qW k nx L S (T, m, r) Q) : qW k pc L (qI x :: S) (T, m, r) Q := by
  by_cases h : x < 0
  · exact qW_step hc (by decide) (by simp [qstep, qcmp, h]) (kt h)
  · exact qW_step hc (by decide) (by simp [qstep, qcmp, h]) (kf (by omega))
theorem qr_icge {k pc : Nat} {L S : List qA} {T : List (Nat × Nat)} {m : Nat → Int → Int} {r : Nat → Int → Option Nat} {Q : qA → qM → Prop} {b : Nat} {c : List Nat} {nx : Nat} {x y : Int} (hc : qcd k pc = some (16, 3, b, c, nx)) (kt : y ≤ x → qW k b L S (T, m, r) Q) (kf : x < y → qW k nx L S (T, m, r) Q) : qW k pc L (qI y :: qI x :: S) (T, m, r) Q := by
  by_cases h : y ≤ x
  · exact qW_step hc (by decide) (by simp [qstep, qcmp, h]) (kt h)
  · exact qW_step hc (by decide) (by simp [qstep, qcmp, h]) (kf (by omega))
theorem qr_ifge {k pc : Nat} {L S : List qA} {T : List (Nat × Nat)} {m : Nat → Int → Int} {r : Nat → Int → Option Nat} {Q : qA → qM → Prop} {b : Nat} {c : List Nat} {nx : Nat} {x : Int} (hc : qcd k pc = some (17, 3, b, c, nx)) (kt : 0 ≤ x → qW k b L S (T, m, r) Q) (kf : x < 0 → qW k nx L S (T, m, r) Q) : qW k pc L (qI x :: S) (T, m, r) Q := by
  by_cases h : 0 ≤ x
  · exact qW_step hc (by decide) (by simp [qstep, qcmp, h]) (kt h)
  · exact qW_step hc (by decide) (by simp [qstep, qcmp, h]) (kf (by omega))
theorem qr_icgt {k pc : Nat} {L S : List qA} {T : List (Nat × Nat)} {m : Nat → Int → Int} {r : Nat → Int → Option Nat} {Q : qA → qM → Prop} {b : Nat} {c : List Nat} {nx : Nat} {x y : Int} (hc : qcd k pc = some (16, 4, b, c, nx)) (kt : y < x → qW k b L S (T, m, r) Q) (kf : x ≤ y → qW k nx L S (T, m, r) Q) : qW k pc L (qI y :: qI x :: S) (T, m, r) Q := by
  by_cases h : y < x
  · exact qW_step hc (by decide) (by simp [qstep, qcmp, h]) (kt h)
  · exact qW_step hc (by decide) (by simp [qstep, qcmp, h]) (kf (by omega))
theorem qr_ifgt {k pc : Nat} {L S : List qA} {T : List (Nat × Nat)} {m : Nat → Int → Int} {r : Nat → Int → Option Nat} {Q : qA → qM → Prop} {b : Nat} {c : List Nat} {nx : Nat} {x : Int} (hc : qcd k pc = some (17, 4, b, c, nx)) (kt : 0 < x → qW k b L S (T, m, r) Q) (kf : x ≤ 0 → qW k nx L S (T, m, r) Q) : qW k pc L (qI x :: S) (T, m, r) Q := by
  by_cases h : 0 < x
  · exact qW_step hc (by decide) (by simp [qstep, qcmp, h]) (kt h)
  · exact qW_step hc (by decide) (by simp [qstep, qcmp, h]) (kf (by omega))
theorem qr_icle {k pc : Nat} {L S : List qA} {T : List (Nat × Nat)} {m : Nat → Int → Int} {r : Nat → Int → Option Nat} {Q : qA → qM → Prop} {b : Nat} {c : List Nat} {nx : Nat} {x y : Int} (hc : qcd k pc = some (16, 5, b, c, nx)) (kt : x ≤ y → qW k b L S (T, m, r) Q) (kf : y < x → qW k nx L S (T, m, r) Q) : qW k pc L (qI y :: qI x :: S) (T, m, r) Q := by
  by_cases h : x ≤ y
  · exact qW_step hc (by decide) (by simp [qstep, qcmp, h]) (kt h)
  · exact qW_step hc (by decide) (by simp [qstep, qcmp, h]) (kf (by omega))
theorem qr_ifle {k pc : Nat} {L S : List qA} {T : List (Nat × Nat)} {m : Nat → Int → Int} {r : Nat → Int → Option Nat} {Q : qA → qM → Prop} {b : Nat} {c : List Nat} {nx : Nat} {x : Int} (hc : qcd k pc = some (17, 5, b, c, nx)) (kt : x ≤ 0 → qW k b L S (T, m, r) Q) (kf : 0 < x → qW k nx L S (T, m, r) Q) : qW k pc L (qI x :: S) (T, m, r) Q := by
  by_cases h : x ≤ 0
  · exact qW_step hc (by decide) (by simp [qstep, qcmp, h]) (kt h)
  · exact qW_step hc (by decide) (by simp [qstep, qcmp, h]) (kf (by omega))
def qbi (b : Bool) : Int := if b = true then 1 else 0
theorem qbi_t : qbi true = 1 := rfl
theorem qbi_f : qbi false = 0 := rfl
theorem qr_ifeqB {k pc : Nat} {L S : List qA} {T : List (Nat × Nat)} {m : Nat → Int → Int} {r : Nat → Int → Option Nat} {Q : qA → qM → Prop} {b : Nat} {c : List Nat} {nx : Nat} {x : Bool} (hc : qcd k pc = some (17, 0, b, c, nx)) (kt : x = false → qW k b L S (T, m, r) Q) (kf : x = true → qW k nx L S (T, m, r) Q) : qW k pc L (qI (qbi x) :: S) (T, m, r) Q := by
  refine qr_ifeq hc (fun h => kt ?_) (fun h => kf ?_)
  · cases x <;> first | rfl | exact absurd h (by decide)
  · cases x <;> first | rfl | exact absurd rfl h
theorem qr_ifneB {k pc : Nat} {L S : List qA} {T : List (Nat × Nat)} {m : Nat → Int → Int} {r : Nat → Int → Option Nat} {Q : qA → qM → Prop} {b : Nat} {c : List Nat} {nx : Nat} {x : Bool} (hc : qcd k pc = some (17, 1, b, c, nx)) (kt : x = true → qW k b L S (T, m, r) Q) (kf : x = false → qW k nx L S (T, m, r) Q) : qW k pc L (qI (qbi x) :: S) (T, m, r) Q := by
  refine qr_ifne hc (fun h => kt ?_) (fun h => kf ?_)
  · cases x <;> first | rfl | exact absurd rfl h
  · cases x <;> first | rfl | exact absurd h (by decide)
theorem qr_nul {k pc : Nat} {L S : List qA} {T : List (Nat × Nat)} {m : Nat → Int → Int} {r : Nat → Int → Option Nat} {Q : qA → qM → Prop} {a : Int} {b : Nat} {c : List Nat} {nx : Nat} {x : Nat} (hc : qcd k pc = some (18, a, b, c, nx))  (w : qW k nx L S (T, m, r) Q) : qW k pc L (qK x :: S) (T, m, r) Q := by
  exact qW_step hc (by decide) rfl w
theorem qr_nnul {k pc : Nat} {L S : List qA} {T : List (Nat × Nat)} {m : Nat → Int → Int} {r : Nat → Int → Option Nat} {Q : qA → qM → Prop} {a : Int} {b : Nat} {c : List Nat} {nx : Nat} {x : Nat} (hc : qcd k pc = some (19, a, b, c, nx))  (w : qW k b L S (T, m, r) Q) : qW k pc L (qK x :: S) (T, m, r) Q := by
  exact qW_step hc (by decide) rfl w
theorem qr_swin {k pc : Nat} {L S : List qA} {T : List (Nat × Nat)} {m : Nat → Int → Int} {r : Nat → Int → Option Nat} {Q : qA → qM → Prop} {a : Int} {b : Nat} {c : List Nat} {nx : Nat} {x : Int} {t : Nat} (hc : qcd k pc = some (20, a, b, c, nx)) (ha : a ≤ x) (h : c[(x - a).toNat]? = some t) (w : qW k t L S (T, m, r) Q) : qW k pc L (qI x :: S) (T, m, r) Q := by
  have h1 := (List.getElem?_eq_some_iff.mp h).1
  have h2 : a ≤ x ∧ x < a + c.length := ⟨ha, by omega⟩
  exact qW_step hc (by decide) (by simp only [qstep, if_pos h2, List.getD_eq_getElem?_getD, h, Option.getD_some]) w
theorem qr_swout {k pc : Nat} {L S : List qA} {T : List (Nat × Nat)} {m : Nat → Int → Int} {r : Nat → Int → Option Nat} {Q : qA → qM → Prop} {a : Int} {b : Nat} {c : List Nat} {nx : Nat} {x : Int} (hc : qcd k pc = some (20, a, b, c, nx)) (h : x < a ∨ a + c.length ≤ x) (w : qW k b L S (T, m, r) Q) : qW k pc L (qI x :: S) (T, m, r) Q := by
  have h2 : ¬ (a ≤ x ∧ x < a + c.length) := by omega
  exact qW_step hc (by decide) (by simp only [qstep, if_neg h2]) w
theorem qr_gi {k pc : Nat} {L S : List qA} {T : List (Nat × Nat)} {m : Nat → Int → Int} {r : Nat → Int → Option Nat} {Q : qA → qM → Prop} {a : Int} {b : Nat} {nx : Nat} {z ci : Nat} (hc : qcd k pc = some (21, a, b, [ci], nx)) (hk : T[z]? = some (0, ci)) (hf : 0 ≤ a ∧ (qfs ci)[a.toNat]? = some false := by decide) (w : qW k nx L (qI (m z a) :: S) (T, m, r) Q) : qW k pc L (qK z :: S) (T, m, r) Q := by
  exact qW_step hc (by decide) (by simp only [qstep, List.headD_cons, hk, hf, and_self, if_true]) w
theorem qr_gr {k pc : Nat} {L S : List qA} {T : List (Nat × Nat)} {m : Nat → Int → Int} {r : Nat → Int → Option Nat} {Q : qA → qM → Prop} {a : Int} {b : Nat} {nx : Nat} {z ci y : Nat} (hc : qcd k pc = some (22, a, b, [ci], nx)) (hk : T[z]? = some (0, ci)) (hf : 0 ≤ a ∧ (qfs ci)[a.toNat]? = some true := by decide) (hr : r z a = some y) (w : qW k nx L (qK y :: S) (T, m, r) Q) : qW k pc L (qK z :: S) (T, m, r) Q := by
  exact qW_step hc (by decide) (by simp only [qstep, List.headD_cons, hk, hf, hr, and_self, if_true]) w
theorem qr_pi {k pc : Nat} {L S : List qA} {T : List (Nat × Nat)} {m : Nat → Int → Int} {r : Nat → Int → Option Nat} {Q : qA → qM → Prop} {a : Int} {b : Nat} {nx : Nat} {z ci : Nat} {x : Int} (hc : qcd k pc = some (23, a, b, [ci], nx)) (hk : T[z]? = some (0, ci)) (hf : 0 ≤ a ∧ (qfs ci)[a.toNat]? = some false := by decide) (w : qW k nx L S (T, qup m z a x, r) Q) : qW k pc L (qI x :: qK z :: S) (T, m, r) Q := by
  exact qW_step hc (by decide) (by simp only [qstep, List.headD_cons, hk, hf, and_self, if_true]) w
theorem qr_pr {k pc : Nat} {L S : List qA} {T : List (Nat × Nat)} {m : Nat → Int → Int} {r : Nat → Int → Option Nat} {Q : qA → qM → Prop} {a : Int} {b : Nat} {nx : Nat} {z ci y : Nat} (hc : qcd k pc = some (24, a, b, [ci], nx)) (hk : T[z]? = some (0, ci)) (hf : 0 ≤ a ∧ (qfs ci)[a.toNat]? = some true := by decide) (w : qW k nx L S (T, m, qup r z a (some y)) Q) : qW k pc L (qK y :: qK z :: S) (T, m, r) Q := by
  exact qW_step hc (by decide) (by simp only [qstep, List.headD_cons, hk, hf, and_self, if_true]) w
theorem qr_ia {k pc : Nat} {L S : List qA} {T : List (Nat × Nat)} {m : Nat → Int → Int} {r : Nat → Int → Option Nat} {Q : qA → qM → Prop} {a : Int} {b : Nat} {c : List Nat} {nx : Nat} {z n : Nat} {i : Int} (hc : qcd k pc = some (25, a, b, c, nx)) (hk : T[z]? = some (1, n)) (h : 0 ≤ i ∧ i < n) (w : qW k nx L (qI (m z i) :: S) (T, m, r) Q) : qW k pc L (qI i :: qK z :: S) (T, m, r) Q := by
  exact qW_step hc (by decide) (by simp only [qstep, hk, if_pos h]) w
theorem qr_ias {k pc : Nat} {L S : List qA} {T : List (Nat × Nat)} {m : Nat → Int → Int} {r : Nat → Int → Option Nat} {Q : qA → qM → Prop} {a : Int} {b : Nat} {c : List Nat} {nx : Nat} {z n : Nat} {i x : Int} (hc : qcd k pc = some (26, a, b, c, nx)) (hk : T[z]? = some (1, n)) (h : 0 ≤ i ∧ i < n) (w : qW k nx L S (T, qup m z i x, r) Q) : qW k pc L (qI x :: qI i :: qK z :: S) (T, m, r) Q := by
  exact qW_step hc (by decide) (by simp only [qstep, hk, if_pos h]) w
theorem qr_aa {k pc : Nat} {L S : List qA} {T : List (Nat × Nat)} {m : Nat → Int → Int} {r : Nat → Int → Option Nat} {Q : qA → qM → Prop} {a : Int} {b : Nat} {c : List Nat} {nx : Nat} {z ci n y : Nat} {i : Int} (hc : qcd k pc = some (27, a, b, c, nx)) (hk : T[z]? = some (ci + 2, n)) (h : 0 ≤ i ∧ i < n) (hr : r z i = some y) (w : qW k nx L (qK y :: S) (T, m, r) Q) : qW k pc L (qI i :: qK z :: S) (T, m, r) Q := by
  exact qW_step hc (by decide) (by simp only [qstep, hk, if_pos h, hr]) w
theorem qr_aas {k pc : Nat} {L S : List qA} {T : List (Nat × Nat)} {m : Nat → Int → Int} {r : Nat → Int → Option Nat} {Q : qA → qM → Prop} {a : Int} {b : Nat} {c : List Nat} {nx : Nat} {z ci n y : Nat} {i : Int} (hc : qcd k pc = some (28, a, b, c, nx)) (hk : T[z]? = some (ci + 2, n)) (h : 0 ≤ i ∧ i < n ∧ T[y]? = some (0, ci)) (w : qW k nx L S (T, m, qup r z i (some y)) Q) : qW k pc L (qK y :: qI i :: qK z :: S) (T, m, r) Q := by
  exact qW_step hc (by decide) (by simp only [qstep, hk, if_pos h]) w
theorem qr_len {k pc : Nat} {L S : List qA} {T : List (Nat × Nat)} {m : Nat → Int → Int} {r : Nat → Int → Option Nat} {Q : qA → qM → Prop} {a : Int} {b : Nat} {c : List Nat} {nx : Nat} {z t n : Nat} (hc : qcd k pc = some (29, a, b, c, nx)) (hk : T[z]? = some (t + 1, n)) (w : qW k nx L (qI n :: S) (T, m, r) Q) : qW k pc L (qK z :: S) (T, m, r) Q := by
  exact qW_step hc (by decide) (by simp only [qstep, hk]) w
theorem qhn {b n l : Nat} (h : (Nat.ble b n && Nat.ble n (b + 4) && Nat.ble b l) = true) : b ≤ n ∧ n ≤ b + 4 ∧ b ≤ l := by
  simp only [Bool.and_eq_true] at h
  exact ⟨Nat.le_of_ble_eq_true h.1.1, Nat.le_of_ble_eq_true h.1.2, Nat.le_of_ble_eq_true h.2⟩
/-- a call of a method that answers a value and keeps the memory -/
theorem qr_callP {k pc : Nat} {L S : List qA} {T : List (Nat × Nat)} {m : Nat → Int → Int} {r : Nat → Int → Option Nat} {Q : qA → qM → Prop} {a : Int} {b : Nat} {c : List Nat} {nx : Nat} {L0 : List qA} {v : qV} (hc : qcd k pc = some (40, a, b, c, nx)) (h1 : qP b L0 (T, m, r) (some v)) (hr : qrcv b (S.take (qNa b)).reverse (T, m, r) = true) (hn : (Nat.ble (qNa b) S.length && Nat.ble S.length (qNa b + 4) && Nat.ble (qNa b) (qNl b)) = true := by rfl) (hL : qent b (S.take (qNa b)).reverse = L0 := by rfl) (ht : qRt b ≠ 0 := by decide)
    (w : qW k nx L (some v :: S.drop (qNa b)) (T, m, r) Q) : qW k pc L S (T, m, r) Q := by
  refine qW_call hc (qhn hn) hr hL h1 (fun x σ' hx => ?_)
  obtain ⟨rfl, rfl⟩ := hx
  rw [if_neg ht]
  exact w
/-- a call of a method that answers something -/
theorem qr_callA {k pc : Nat} {L S : List qA} {T : List (Nat × Nat)} {m : Nat → Int → Int} {r : Nat → Int → Option Nat} {Q : qA → qM → Prop} {a : Int} {b : Nat} {c : List Nat} {nx : Nat} {L0 : List qA} {Q1 : qA → qM → Prop} (hc : qcd k pc = some (40, a, b, c, nx)) (h1 : qW b 0 L0 [] (T, m, r) Q1) (hr : qrcv b (S.take (qNa b)).reverse (T, m, r) = true) (hn : (Nat.ble (qNa b) S.length && Nat.ble S.length (qNa b + 4) && Nat.ble (qNa b) (qNl b)) = true := by rfl) (hL : qent b (S.take (qNa b)).reverse = L0 := by rfl) (ht : qRt b ≠ 0 := by decide)
    (w : ∀ x σ', Q1 x σ' → qW k nx L (x :: S.drop (qNa b)) σ' Q) : qW k pc L S (T, m, r) Q := by
  refine qW_call hc (qhn hn) hr hL h1 (fun x σ' hx => ?_)
  rw [if_neg ht]
  exact w x σ' hx
/-- a call of a method that answers nothing -/
theorem qr_callV {k pc : Nat} {L S : List qA} {T : List (Nat × Nat)} {m : Nat → Int → Int} {r : Nat → Int → Option Nat} {Q : qA → qM → Prop} {a : Int} {b : Nat} {c : List Nat} {nx : Nat} {L0 : List qA} {Q1 : qA → qM → Prop} (hc : qcd k pc = some (40, a, b, c, nx)) (h1 : qW b 0 L0 [] (T, m, r) Q1) (hr : qrcv b (S.take (qNa b)).reverse (T, m, r) = true) (hn : (Nat.ble (qNa b) S.length && Nat.ble S.length (qNa b + 4) && Nat.ble (qNa b) (qNl b)) = true := by rfl) (hL : qent b (S.take (qNa b)).reverse = L0 := by rfl) (ht : qRt b = 0 := by decide)
    (w : ∀ x σ', Q1 x σ' → qW k nx L (S.drop (qNa b)) σ' Q) : qW k pc L S (T, m, r) Q := by
  refine qW_call hc (qhn hn) hr hL h1 (fun x σ' hx => ?_)
  rw [if_pos ht]
  exact w x σ' hx
theorem qrcv1 {b z ci : Nat} {as : List qA} {T : List (Nat × Nat)} {m : Nat → Int → Int} {r : Nat → Int → Option Nat} (h : T[z]? = some (0, ci)) (hk : qKi b = 1 := by rfl) (hc : qCl b = ci := by rfl) (hl : qnol as = true := by rfl) : qrcv b (qK z :: as) (T, m, r) = true := by
  unfold qrcv
  rw [hk]
  have h1 : qnol (qK z :: as) = true := hl
  rw [h1]
  simp only [hc, h, decide_true, Bool.true_and]
end
section
/-! What the two constructors make -/
def qT0 : List (Nat × Nat) := [(0, 7), (0, 4), (1, 80), (0, 4), (1, 100), (0, 3), (0, 2), (0, 4), (1, 86), (0, 4), (1, 86), (0, 0), (0, 4), (1, 26), (0, 4), (1, 10), (0, 5), (2, 40), (0, 0), (0, 4), (1, 26), (0, 0), (0, 4), (1, 26), (0, 0), (0, 4), (1, 26), (0, 0), (0, 4), (1, 26), (0, 0), (0, 4), (1, 26), (0, 0), (0, 4), (1, 26), (0, 0), (0, 4), (1, 26), (0, 0), (0, 4), (1, 26), (0, 0), (0, 4), (1, 26), (0, 0), (0, 4), (1, 26), (0, 0), (0, 4), (1, 26), (0, 0), (0, 4), (1, 26), (0, 0), (0, 4), (1, 26), (0, 0), (0, 4), (1, 26), (0, 0), (0, 4), (1, 26), (0, 0), (0, 4), (1, 26), (0, 0), (0, 4), (1, 26), (0, 0), (0, 4), (1, 26), (0, 0), (0, 4), (1, 26), (0, 0), (0, 4), (1, 26), (0, 0), (0, 4), (1, 26), (0, 0), (0, 4), (1, 26), (0, 0), (0, 4), (1, 26), (0, 0), (0, 4), (1, 26), (0, 0), (0, 4), (1, 26), (0, 0), (0, 4), (1, 26), (0, 0), (0, 4), (1, 26), (0, 0), (0, 4), (1, 26), (0, 0), (0, 4), (1, 26), (0, 0), (0, 4), (1, 26), (0, 0), (0, 4), (1, 26), (0, 0), (0, 4), (1, 26), (0, 0), (0, 4), (1, 26), (0, 0), (0, 4), (1, 26), (0, 0), (0, 4), (1, 26), (0, 0), (0, 4), (1, 26), (0, 0), (0, 4), (1, 26), (0, 0), (0, 4), (1, 26), (0, 0), (0, 4), (1, 26), (0, 0), (0, 4), (1, 26), (0, 0), (0, 4), (1, 26), (0, 0), (0, 4), (1, 26), (0, 6), (0, 4), (1, 30), (0, 4), (1, 300), (0, 1), (8, 5), (0, 6), (0, 4), (1, 30), (0, 4), (1, 300), (0, 6), (0, 4), (1, 30), (0, 4), (1, 300), (0, 6), (0, 4), (1, 30), (0, 4), (1, 300), (0, 6), (0, 4), (1, 30), (0, 4), (1, 300), (0, 6), (0, 4), (1, 30), (0, 4), (1, 300)]
def qL0 : List (List (Option Nat)) := [[some 1, some 3, some 5, some 6, some 16, some 141, some 144, some 149], [some 2], [], [some 4], [], [some 6, some 11, some 14], [some 7, some 9], [some 8], [], [some 10], [], [some 12], [some 13], [], [some 15], [], [some 17, some 138], [some 18, some 21, some 24, some 27, some 30, some 33, some 36, some 39, some 42, some 45, some 48, some 51, some 54, some 57, some 60, some 63, some 66, some 69, some 72, some 75, some 78, some 81, some 84, some 87, some 90, some 93, some 96, some 99, some 102, some 105, some 108, some 111, some 114, some 117, some 120, some 123, some 126, some 129, some 132, some 135], [some 19], [some 20], [], [some 22], [some 23], [], [some 25], [some 26], [], [some 28], [some 29], [], [some 31], [some 32], [], [some 34], [some 35], [], [some 37], [some 38], [], [some 40], [some 41], [], [some 43], [some 44], [], [some 46], [some 47], [], [some 49], [some 50], [], [some 52], [some 53], [], [some 55], [some 56], [], [some 58], [some 59], [], [some 61], [some 62], [], [some 64], [some 65], [], [some 67], [some 68], [], [some 70], [some 71], [], [some 73], [some 74], [], [some 76], [some 77], [], [some 79], [some 80], [], [some 82], [some 83], [], [some 85], [some 86], [], [some 88], [some 89], [], [some 91], [some 92], [], [some 94], [some 95], [], [some 97], [some 98], [], [some 100], [some 101], [], [some 103], [some 104], [], [some 106], [some 107], [], [some 109], [some 110], [], [some 112], [some 113], [], [some 115], [some 116], [], [some 118], [some 119], [], [some 121], [some 122], [], [some 124], [some 125], [], [some 127], [some 128], [], [some 130], [some 131], [], [some 133], [some 134], [], [some 136], [some 137], [], [some 139], [some 140], [], [some 142], [some 143], [], [some 145, some 147], [some 146], [], [some 148], [], [some 150], [some 151, some 156, some 161, some 166, some 171], [some 152, some 154], [some 153], [], [some 155], [], [some 157, some 159], [some 158], [], [some 160], [], [some 162, some 164], [some 163], [], [some 165], [], [some 167, some 169], [some 168], [], [some 170], [], [some 172, some 174], [some 173], [], [some 175], []]
def qr0 (k : Nat) (j : Int) : Option Nat := if 0 ≤ j then ((qL0.getD k [])[j.toNat]?).join else none
def qs0 : qM := ([(0, 7)], fun _ _ => 0, fun _ _ => none)
def qrun1 : Option (qA × qM) := qev 6000 m_LR_init 0 [qK 0] [] qs0
def qs1 : qM := match qrun1 with
  | some x => x.2
  | none => qs0
theorem qrun1_T : qrun1.map (fun x => (x.1, x.2.1)) = some (none, qT0.take 176) := by decide +kernel
end
