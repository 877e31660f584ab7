section
-- ===== PART A: goes FIRST, ahead of the names: the tables' words, and 'selects' of the private methods out of them =====
/-- a private method of a class that the tables say can be made, by its rows of tables_1 -/
def lw_okq (q : MethodName × Nat) : Prop := (q.1.cls ≠ "java/lang/invoke/MethodHandle" ∧ q.1.cls ≠ "java/lang/invoke/VarHandle") ∧ Cond.instantiable q.1.cls q.2 ∈ tables_1 ∧ Cond.privateMethod q.1 ∈ tables_1 ∧ Cond.instanceMethod q.1 ∈ tables_1
theorem lw_p0 : lw_okq (⟨"LikeRecords", "takeText", "()I"⟩, 8) := ⟨⟨by decide +kernel, by decide +kernel⟩, List.mem_of_getElem? (i := 12) (by decide +kernel), List.mem_of_getElem? (i := 225) (by decide +kernel), List.mem_of_getElem? (i := 226) (by decide +kernel)⟩
theorem lw_p1 : lw_okq (⟨"LikeRecords$Row", "isInside", "(I)Z"⟩, 2) := ⟨⟨by decide +kernel, by decide +kernel⟩, List.mem_of_getElem? (i := 20) (by decide +kernel), List.mem_of_getElem? (i := 233) (by decide +kernel), List.mem_of_getElem? (i := 234) (by decide +kernel)⟩
theorem lw_p2 : lw_okq (⟨"LikeRecords$Reading", "takeSpace", "()V"⟩, 7) := ⟨⟨by decide +kernel, by decide +kernel⟩, List.mem_of_getElem? (i := 37) (by decide +kernel), List.mem_of_getElem? (i := 241) (by decide +kernel), List.mem_of_getElem? (i := 242) (by decide +kernel)⟩
theorem lw_p3 : lw_okq (⟨"LikeRecords$Reading", "takeOpening", "(II)Z"⟩, 7) := ⟨⟨by decide +kernel, by decide +kernel⟩, List.mem_of_getElem? (i := 37) (by decide +kernel), List.mem_of_getElem? (i := 245) (by decide +kernel), List.mem_of_getElem? (i := 246) (by decide +kernel)⟩
theorem lw_p4 : lw_okq (⟨"LikeRecords$Reading", "takeClosing", "()Z"⟩, 7) := ⟨⟨by decide +kernel, by decide +kernel⟩, List.mem_of_getElem? (i := 37) (by decide +kernel), List.mem_of_getElem? (i := 254) (by decide +kernel), List.mem_of_getElem? (i := 255) (by decide +kernel)⟩
theorem lw_p5 : lw_okq (⟨"LikeRecords$Reading", "takeLetter", "(I)Z"⟩, 7) := ⟨⟨by decide +kernel, by decide +kernel⟩, List.mem_of_getElem? (i := 37) (by decide +kernel), List.mem_of_getElem? (i := 263) (by decide +kernel), List.mem_of_getElem? (i := 264) (by decide +kernel)⟩
theorem lw_p6 : lw_okq (⟨"LikeRecords$Reading", "takeColon", "(I)Z"⟩, 7) := ⟨⟨by decide +kernel, by decide +kernel⟩, List.mem_of_getElem? (i := 37) (by decide +kernel), List.mem_of_getElem? (i := 279) (by decide +kernel), List.mem_of_getElem? (i := 280) (by decide +kernel)⟩
theorem lw_p7 : lw_okq (⟨"LikeRecords$Reading", "takeFirstDigit", "(I)Z"⟩, 7) := ⟨⟨by decide +kernel, by decide +kernel⟩, List.mem_of_getElem? (i := 37) (by decide +kernel), List.mem_of_getElem? (i := 286) (by decide +kernel), List.mem_of_getElem? (i := 287) (by decide +kernel)⟩
theorem lw_p8 : lw_okq (⟨"LikeRecords$Reading", "takeNextDigit", "(I)Z"⟩, 7) := ⟨⟨by decide +kernel, by decide +kernel⟩, List.mem_of_getElem? (i := 37) (by decide +kernel), List.mem_of_getElem? (i := 292) (by decide +kernel), List.mem_of_getElem? (i := 293) (by decide +kernel)⟩
theorem lw_p9 : lw_okq (⟨"LikeRecords$Reading", "takeFieldEnd", "(I)Z"⟩, 7) := ⟨⟨by decide +kernel, by decide +kernel⟩, List.mem_of_getElem? (i := 37) (by decide +kernel), List.mem_of_getElem? (i := 301) (by decide +kernel), List.mem_of_getElem? (i := 302) (by decide +kernel)⟩
theorem lw_p10 : lw_okq (⟨"LikeRecords$History", "forgetOldest", "()V"⟩, 2) := ⟨⟨by decide +kernel, by decide +kernel⟩, List.mem_of_getElem? (i := 145) (by decide +kernel), List.mem_of_getElem? (i := 342) (by decide +kernel), List.mem_of_getElem? (i := 343) (by decide +kernel)⟩
theorem lw_p11 : lw_okq (⟨"LikeRecords", "learnShape", "(ILLikeRecords$Form;)V"⟩, 8) := ⟨⟨by decide +kernel, by decide +kernel⟩, List.mem_of_getElem? (i := 12) (by decide +kernel), List.mem_of_getElem? (i := 357) (by decide +kernel), List.mem_of_getElem? (i := 358) (by decide +kernel)⟩
theorem lw_p12 : lw_okq (⟨"LikeRecords", "isPath", "(I)Z"⟩, 8) := ⟨⟨by decide +kernel, by decide +kernel⟩, List.mem_of_getElem? (i := 12) (by decide +kernel), List.mem_of_getElem? (i := 398) (by decide +kernel), List.mem_of_getElem? (i := 399) (by decide +kernel)⟩
theorem lw_p13 : lw_okq (⟨"LikeRecords", "formOf", "(I)LLikeRecords$Form;"⟩, 8) := ⟨⟨by decide +kernel, by decide +kernel⟩, List.mem_of_getElem? (i := 12) (by decide +kernel), List.mem_of_getElem? (i := 402) (by decide +kernel), List.mem_of_getElem? (i := 403) (by decide +kernel)⟩
theorem lw_p14 : lw_okq (⟨"LikeRecords", "fillRemainder", "(LLikeRecords$Form;I)V"⟩, 8) := ⟨⟨by decide +kernel, by decide +kernel⟩, List.mem_of_getElem? (i := 12) (by decide +kernel), List.mem_of_getElem? (i := 432) (by decide +kernel), List.mem_of_getElem? (i := 433) (by decide +kernel)⟩
theorem lw_p15 : lw_okq (⟨"LikeRecords", "dropValues", "(ILLikeRecords$Form;I)V"⟩, 8) := ⟨⟨by decide +kernel, by decide +kernel⟩, List.mem_of_getElem? (i := 12) (by decide +kernel), List.mem_of_getElem? (i := 448) (by decide +kernel), List.mem_of_getElem? (i := 449) (by decide +kernel)⟩
def lw_privs_1 : List (MethodName × Nat) := [(⟨"LikeRecords", "takeText", "()I"⟩, 8), (⟨"LikeRecords$Row", "isInside", "(I)Z"⟩, 2), (⟨"LikeRecords$Reading", "takeSpace", "()V"⟩, 7), (⟨"LikeRecords$Reading", "takeOpening", "(II)Z"⟩, 7), (⟨"LikeRecords$Reading", "takeClosing", "()Z"⟩, 7), (⟨"LikeRecords$Reading", "takeLetter", "(I)Z"⟩, 7), (⟨"LikeRecords$Reading", "takeColon", "(I)Z"⟩, 7), (⟨"LikeRecords$Reading", "takeFirstDigit", "(I)Z"⟩, 7), (⟨"LikeRecords$Reading", "takeNextDigit", "(I)Z"⟩, 7), (⟨"LikeRecords$Reading", "takeFieldEnd", "(I)Z"⟩, 7), (⟨"LikeRecords$History", "forgetOldest", "()V"⟩, 2), (⟨"LikeRecords", "learnShape", "(ILLikeRecords$Form;)V"⟩, 8), (⟨"LikeRecords", "isPath", "(I)Z"⟩, 8), (⟨"LikeRecords", "formOf", "(I)LLikeRecords$Form;"⟩, 8), (⟨"LikeRecords", "fillRemainder", "(LLikeRecords$Form;I)V"⟩, 8), (⟨"LikeRecords", "dropValues", "(ILLikeRecords$Form;I)V"⟩, 8)]
theorem lw_r1 : ∀ q ∈ lw_privs_1, lw_okq q := List.forall_mem_cons.mpr ⟨lw_p0, List.forall_mem_cons.mpr ⟨lw_p1, List.forall_mem_cons.mpr ⟨lw_p2, List.forall_mem_cons.mpr ⟨lw_p3, List.forall_mem_cons.mpr ⟨lw_p4, List.forall_mem_cons.mpr ⟨lw_p5, List.forall_mem_cons.mpr ⟨lw_p6, List.forall_mem_cons.mpr ⟨lw_p7, List.forall_mem_cons.mpr ⟨lw_p8, List.forall_mem_cons.mpr ⟨lw_p9, List.forall_mem_cons.mpr ⟨lw_p10, List.forall_mem_cons.mpr ⟨lw_p11, List.forall_mem_cons.mpr ⟨lw_p12, List.forall_mem_cons.mpr ⟨lw_p13, List.forall_mem_cons.mpr ⟨lw_p14, List.forall_mem_cons.mpr ⟨lw_p15, fun _ h => absurd h List.not_mem_nil⟩⟩⟩⟩⟩⟩⟩⟩⟩⟩⟩⟩⟩⟩⟩⟩
theorem lw_p16 : lw_okq (⟨"LikeRecords", "isBound", "(I)Z"⟩, 8) := ⟨⟨by decide +kernel, by decide +kernel⟩, List.mem_of_getElem? (i := 12) (by decide +kernel), List.mem_of_getElem? (i := 457) (by decide +kernel), List.mem_of_getElem? (i := 458) (by decide +kernel)⟩
theorem lw_p17 : lw_okq (⟨"LikeRecords", "commonShapes", "()I"⟩, 8) := ⟨⟨by decide +kernel, by decide +kernel⟩, List.mem_of_getElem? (i := 12) (by decide +kernel), List.mem_of_getElem? (i := 461) (by decide +kernel), List.mem_of_getElem? (i := 462) (by decide +kernel)⟩
theorem lw_p18 : lw_okq (⟨"LikeRecords", "isCommon", "(I)Z"⟩, 8) := ⟨⟨by decide +kernel, by decide +kernel⟩, List.mem_of_getElem? (i := 12) (by decide +kernel), List.mem_of_getElem? (i := 465) (by decide +kernel), List.mem_of_getElem? (i := 466) (by decide +kernel)⟩
theorem lw_p19 : lw_okq (⟨"LikeRecords", "rareRecords", "()I"⟩, 8) := ⟨⟨by decide +kernel, by decide +kernel⟩, List.mem_of_getElem? (i := 12) (by decide +kernel), List.mem_of_getElem? (i := 489) (by decide +kernel), List.mem_of_getElem? (i := 490) (by decide +kernel)⟩
theorem lw_p20 : lw_okq (⟨"LikeRecords", "sizeFor", "(I)I"⟩, 8) := ⟨⟨by decide +kernel, by decide +kernel⟩, List.mem_of_getElem? (i := 12) (by decide +kernel), List.mem_of_getElem? (i := 493) (by decide +kernel), List.mem_of_getElem? (i := 494) (by decide +kernel)⟩
theorem lw_p21 : lw_okq (⟨"LikeRecords", "writeText", "(LLikeRecords$Form;I)I"⟩, 8) := ⟨⟨by decide +kernel, by decide +kernel⟩, List.mem_of_getElem? (i := 12) (by decide +kernel), List.mem_of_getElem? (i := 509) (by decide +kernel), List.mem_of_getElem? (i := 510) (by decide +kernel)⟩
theorem lw_p22 : lw_okq (⟨"LikeRecords", "writeClosings", "(II)I"⟩, 8) := ⟨⟨by decide +kernel, by decide +kernel⟩, List.mem_of_getElem? (i := 12) (by decide +kernel), List.mem_of_getElem? (i := 514) (by decide +kernel), List.mem_of_getElem? (i := 515) (by decide +kernel)⟩
theorem lw_p23 : lw_okq (⟨"LikeRecords", "writeName", "(I)V"⟩, 8) := ⟨⟨by decide +kernel, by decide +kernel⟩, List.mem_of_getElem? (i := 12) (by decide +kernel), List.mem_of_getElem? (i := 518) (by decide +kernel), List.mem_of_getElem? (i := 519) (by decide +kernel)⟩
theorem lw_p24 : lw_okq (⟨"LikeRecords", "writeNumber", "(I)V"⟩, 8) := ⟨⟨by decide +kernel, by decide +kernel⟩, List.mem_of_getElem? (i := 12) (by decide +kernel), List.mem_of_getElem? (i := 526) (by decide +kernel), List.mem_of_getElem? (i := 527) (by decide +kernel)⟩
theorem lw_p25 : lw_okq (⟨"LikeRecords", "sumOfRecord", "(II)I"⟩, 8) := ⟨⟨by decide +kernel, by decide +kernel⟩, List.mem_of_getElem? (i := 12) (by decide +kernel), List.mem_of_getElem? (i := 530) (by decide +kernel), List.mem_of_getElem? (i := 531) (by decide +kernel)⟩
theorem lw_p26 : lw_okq (⟨"LikeRecords", "recordsHolding", "(I)I"⟩, 8) := ⟨⟨by decide +kernel, by decide +kernel⟩, List.mem_of_getElem? (i := 12) (by decide +kernel), List.mem_of_getElem? (i := 546) (by decide +kernel), List.mem_of_getElem? (i := 547) (by decide +kernel)⟩
theorem lw_p27 : lw_okq (⟨"LikeRecords", "sumOfPath", "(I)I"⟩, 8) := ⟨⟨by decide +kernel, by decide +kernel⟩, List.mem_of_getElem? (i := 12) (by decide +kernel), List.mem_of_getElem? (i := 550) (by decide +kernel), List.mem_of_getElem? (i := 551) (by decide +kernel)⟩
theorem lw_p28 : lw_okq (⟨"LikeRecords", "costOf", "(I)I"⟩, 8) := ⟨⟨by decide +kernel, by decide +kernel⟩, List.mem_of_getElem? (i := 12) (by decide +kernel), List.mem_of_getElem? (i := 554) (by decide +kernel), List.mem_of_getElem? (i := 555) (by decide +kernel)⟩
theorem lw_p29 : lw_okq (⟨"LikeRecords", "isShape", "(I)Z"⟩, 8) := ⟨⟨by decide +kernel, by decide +kernel⟩, List.mem_of_getElem? (i := 12) (by decide +kernel), List.mem_of_getElem? (i := 562) (by decide +kernel), List.mem_of_getElem? (i := 563) (by decide +kernel)⟩
theorem lw_p30 : lw_okq (⟨"LikeRecordsModel", "faultOf", "()I"⟩, 19) := ⟨⟨by decide +kernel, by decide +kernel⟩, List.mem_of_getElem? (i := 595) (by decide +kernel), List.mem_of_getElem? (i := 674) (by decide +kernel), List.mem_of_getElem? (i := 675) (by decide +kernel)⟩
theorem lw_p31 : lw_okq (⟨"LikeRecordsModel", "stands", "(I)Z"⟩, 19) := ⟨⟨by decide +kernel, by decide +kernel⟩, List.mem_of_getElem? (i := 595) (by decide +kernel), List.mem_of_getElem? (i := 678) (by decide +kernel), List.mem_of_getElem? (i := 679) (by decide +kernel)⟩
def lw_privs_2 : List (MethodName × Nat) := [(⟨"LikeRecords", "isBound", "(I)Z"⟩, 8), (⟨"LikeRecords", "commonShapes", "()I"⟩, 8), (⟨"LikeRecords", "isCommon", "(I)Z"⟩, 8), (⟨"LikeRecords", "rareRecords", "()I"⟩, 8), (⟨"LikeRecords", "sizeFor", "(I)I"⟩, 8), (⟨"LikeRecords", "writeText", "(LLikeRecords$Form;I)I"⟩, 8), (⟨"LikeRecords", "writeClosings", "(II)I"⟩, 8), (⟨"LikeRecords", "writeName", "(I)V"⟩, 8), (⟨"LikeRecords", "writeNumber", "(I)V"⟩, 8), (⟨"LikeRecords", "sumOfRecord", "(II)I"⟩, 8), (⟨"LikeRecords", "recordsHolding", "(I)I"⟩, 8), (⟨"LikeRecords", "sumOfPath", "(I)I"⟩, 8), (⟨"LikeRecords", "costOf", "(I)I"⟩, 8), (⟨"LikeRecords", "isShape", "(I)Z"⟩, 8), (⟨"LikeRecordsModel", "faultOf", "()I"⟩, 19), (⟨"LikeRecordsModel", "stands", "(I)Z"⟩, 19)]
theorem lw_r2 : ∀ q ∈ lw_privs_2, lw_okq q := List.forall_mem_cons.mpr ⟨lw_p16, List.forall_mem_cons.mpr ⟨lw_p17, List.forall_mem_cons.mpr ⟨lw_p18, List.forall_mem_cons.mpr ⟨lw_p19, List.forall_mem_cons.mpr ⟨lw_p20, List.forall_mem_cons.mpr ⟨lw_p21, List.forall_mem_cons.mpr ⟨lw_p22, List.forall_mem_cons.mpr ⟨lw_p23, List.forall_mem_cons.mpr ⟨lw_p24, List.forall_mem_cons.mpr ⟨lw_p25, List.forall_mem_cons.mpr ⟨lw_p26, List.forall_mem_cons.mpr ⟨lw_p27, List.forall_mem_cons.mpr ⟨lw_p28, List.forall_mem_cons.mpr ⟨lw_p29, List.forall_mem_cons.mpr ⟨lw_p30, List.forall_mem_cons.mpr ⟨lw_p31, fun _ h => absurd h List.not_mem_nil⟩⟩⟩⟩⟩⟩⟩⟩⟩⟩⟩⟩⟩⟩⟩⟩
theorem lw_p32 : lw_okq (⟨"LikeRecordsModel", "takesLetter", "(I)V"⟩, 19) := ⟨⟨by decide +kernel, by decide +kernel⟩, List.mem_of_getElem? (i := 595) (by decide +kernel), List.mem_of_getElem? (i := 682) (by decide +kernel), List.mem_of_getElem? (i := 683) (by decide +kernel)⟩
theorem lw_p33 : lw_okq (⟨"LikeRecordsModel", "numberMany", "()I"⟩, 19) := ⟨⟨by decide +kernel, by decide +kernel⟩, List.mem_of_getElem? (i := 595) (by decide +kernel), List.mem_of_getElem? (i := 686) (by decide +kernel), List.mem_of_getElem? (i := 687) (by decide +kernel)⟩
theorem lw_p34 : lw_okq (⟨"LikeRecordsModel", "readsNumber", "()Z"⟩, 19) := ⟨⟨by decide +kernel, by decide +kernel⟩, List.mem_of_getElem? (i := 595) (by decide +kernel), List.mem_of_getElem? (i := 690) (by decide +kernel), List.mem_of_getElem? (i := 691) (by decide +kernel)⟩
theorem lw_p35 : lw_okq (⟨"LikeRecordsModel", "takesSign", "(I)Z"⟩, 19) := ⟨⟨by decide +kernel, by decide +kernel⟩, List.mem_of_getElem? (i := 595) (by decide +kernel), List.mem_of_getElem? (i := 694) (by decide +kernel), List.mem_of_getElem? (i := 695) (by decide +kernel)⟩
theorem lw_p36 : lw_okq (⟨"LikeRecordsModel", "laysPaths", "()Z"⟩, 19) := ⟨⟨by decide +kernel, by decide +kernel⟩, List.mem_of_getElem? (i := 595) (by decide +kernel), List.mem_of_getElem? (i := 701) (by decide +kernel), List.mem_of_getElem? (i := 702) (by decide +kernel)⟩
theorem lw_p37 : lw_okq (⟨"LikeRecordsModel", "pathWith", "(II)I"⟩, 19) := ⟨⟨by decide +kernel, by decide +kernel⟩, List.mem_of_getElem? (i := 595) (by decide +kernel), List.mem_of_getElem? (i := 705) (by decide +kernel), List.mem_of_getElem? (i := 706) (by decide +kernel)⟩
theorem lw_p38 : lw_okq (⟨"LikeRecordsModel", "letterOf", "(I)I"⟩, 19) := ⟨⟨by decide +kernel, by decide +kernel⟩, List.mem_of_getElem? (i := 595) (by decide +kernel), List.mem_of_getElem? (i := 709) (by decide +kernel), List.mem_of_getElem? (i := 710) (by decide +kernel)⟩
theorem lw_p39 : lw_okq (⟨"LikeRecordsModel", "innerOf", "(I)I"⟩, 19) := ⟨⟨by decide +kernel, by decide +kernel⟩, List.mem_of_getElem? (i := 595) (by decide +kernel), List.mem_of_getElem? (i := 713) (by decide +kernel), List.mem_of_getElem? (i := 714) (by decide +kernel)⟩
theorem lw_p40 : lw_okq (⟨"LikeRecordsModel", "findsShape", "()I"⟩, 19) := ⟨⟨by decide +kernel, by decide +kernel⟩, List.mem_of_getElem? (i := 595) (by decide +kernel), List.mem_of_getElem? (i := 717) (by decide +kernel), List.mem_of_getElem? (i := 718) (by decide +kernel)⟩
theorem lw_p41 : lw_okq (⟨"LikeRecordsModel", "isRow", "(I)Z"⟩, 19) := ⟨⟨by decide +kernel, by decide +kernel⟩, List.mem_of_getElem? (i := 595) (by decide +kernel), List.mem_of_getElem? (i := 721) (by decide +kernel), List.mem_of_getElem? (i := 722) (by decide +kernel)⟩
theorem lw_p42 : lw_okq (⟨"LikeRecordsModel", "fieldsOf", "(I)I"⟩, 19) := ⟨⟨by decide +kernel, by decide +kernel⟩, List.mem_of_getElem? (i := 595) (by decide +kernel), List.mem_of_getElem? (i := 725) (by decide +kernel), List.mem_of_getElem? (i := 726) (by decide +kernel)⟩
theorem lw_p43 : lw_okq (⟨"LikeRecordsModel", "fieldOf", "(II)I"⟩, 19) := ⟨⟨by decide +kernel, by decide +kernel⟩, List.mem_of_getElem? (i := 595) (by decide +kernel), List.mem_of_getElem? (i := 729) (by decide +kernel), List.mem_of_getElem? (i := 730) (by decide +kernel)⟩
theorem lw_p44 : lw_okq (⟨"LikeRecordsModel", "records", "([I)V"⟩, 19) := ⟨⟨by decide +kernel, by decide +kernel⟩, List.mem_of_getElem? (i := 595) (by decide +kernel), List.mem_of_getElem? (i := 733) (by decide +kernel), List.mem_of_getElem? (i := 734) (by decide +kernel)⟩
theorem lw_p45 : lw_okq (⟨"LikeRecordsModel", "isRecord", "(I)Z"⟩, 19) := ⟨⟨by decide +kernel, by decide +kernel⟩, List.mem_of_getElem? (i := 595) (by decide +kernel), List.mem_of_getElem? (i := 741) (by decide +kernel), List.mem_of_getElem? (i := 742) (by decide +kernel)⟩
theorem lw_p46 : lw_okq (⟨"LikeRecordsModel", "shapeOf", "(I)I"⟩, 19) := ⟨⟨by decide +kernel, by decide +kernel⟩, List.mem_of_getElem? (i := 595) (by decide +kernel), List.mem_of_getElem? (i := 745) (by decide +kernel), List.mem_of_getElem? (i := 746) (by decide +kernel)⟩
theorem lw_p47 : lw_okq (⟨"LikeRecordsModel", "recordMany", "()I"⟩, 19) := ⟨⟨by decide +kernel, by decide +kernel⟩, List.mem_of_getElem? (i := 595) (by decide +kernel), List.mem_of_getElem? (i := 749) (by decide +kernel), List.mem_of_getElem? (i := 750) (by decide +kernel)⟩
def lw_privs_3 : List (MethodName × Nat) := [(⟨"LikeRecordsModel", "takesLetter", "(I)V"⟩, 19), (⟨"LikeRecordsModel", "numberMany", "()I"⟩, 19), (⟨"LikeRecordsModel", "readsNumber", "()Z"⟩, 19), (⟨"LikeRecordsModel", "takesSign", "(I)Z"⟩, 19), (⟨"LikeRecordsModel", "laysPaths", "()Z"⟩, 19), (⟨"LikeRecordsModel", "pathWith", "(II)I"⟩, 19), (⟨"LikeRecordsModel", "letterOf", "(I)I"⟩, 19), (⟨"LikeRecordsModel", "innerOf", "(I)I"⟩, 19), (⟨"LikeRecordsModel", "findsShape", "()I"⟩, 19), (⟨"LikeRecordsModel", "isRow", "(I)Z"⟩, 19), (⟨"LikeRecordsModel", "fieldsOf", "(I)I"⟩, 19), (⟨"LikeRecordsModel", "fieldOf", "(II)I"⟩, 19), (⟨"LikeRecordsModel", "records", "([I)V"⟩, 19), (⟨"LikeRecordsModel", "isRecord", "(I)Z"⟩, 19), (⟨"LikeRecordsModel", "shapeOf", "(I)I"⟩, 19), (⟨"LikeRecordsModel", "recordMany", "()I"⟩, 19)]
theorem lw_r3 : ∀ q ∈ lw_privs_3, lw_okq q := List.forall_mem_cons.mpr ⟨lw_p32, List.forall_mem_cons.mpr ⟨lw_p33, List.forall_mem_cons.mpr ⟨lw_p34, List.forall_mem_cons.mpr ⟨lw_p35, List.forall_mem_cons.mpr ⟨lw_p36, List.forall_mem_cons.mpr ⟨lw_p37, List.forall_mem_cons.mpr ⟨lw_p38, List.forall_mem_cons.mpr ⟨lw_p39, List.forall_mem_cons.mpr ⟨lw_p40, List.forall_mem_cons.mpr ⟨lw_p41, List.forall_mem_cons.mpr ⟨lw_p42, List.forall_mem_cons.mpr ⟨lw_p43, List.forall_mem_cons.mpr ⟨lw_p44, List.forall_mem_cons.mpr ⟨lw_p45, List.forall_mem_cons.mpr ⟨lw_p46, List.forall_mem_cons.mpr ⟨lw_p47, fun _ h => absurd h List.not_mem_nil⟩⟩⟩⟩⟩⟩⟩⟩⟩⟩⟩⟩⟩⟩⟩⟩
theorem lw_p48 : lw_okq (⟨"LikeRecordsModel", "isPath", "(I)Z"⟩, 19) := ⟨⟨by decide +kernel, by decide +kernel⟩, List.mem_of_getElem? (i := 595) (by decide +kernel), List.mem_of_getElem? (i := 757) (by decide +kernel), List.mem_of_getElem? (i := 758) (by decide +kernel)⟩
theorem lw_p49 : lw_okq (⟨"LikeRecordsModel", "leafAt", "(II)I"⟩, 19) := ⟨⟨by decide +kernel, by decide +kernel⟩, List.mem_of_getElem? (i := 595) (by decide +kernel), List.mem_of_getElem? (i := 761) (by decide +kernel), List.mem_of_getElem? (i := 762) (by decide +kernel)⟩
theorem lw_p50 : lw_okq (⟨"LikeRecordsModel", "valueOf", "(II)I"⟩, 19) := ⟨⟨by decide +kernel, by decide +kernel⟩, List.mem_of_getElem? (i := 595) (by decide +kernel), List.mem_of_getElem? (i := 765) (by decide +kernel), List.mem_of_getElem? (i := 766) (by decide +kernel)⟩
theorem lw_p51 : lw_okq (⟨"LikeRecordsModel", "isBranch", "(II)Z"⟩, 19) := ⟨⟨by decide +kernel, by decide +kernel⟩, List.mem_of_getElem? (i := 595) (by decide +kernel), List.mem_of_getElem? (i := 773) (by decide +kernel), List.mem_of_getElem? (i := 774) (by decide +kernel)⟩
theorem lw_p52 : lw_okq (⟨"LikeRecordsModel", "isWithin", "(II)Z"⟩, 19) := ⟨⟨by decide +kernel, by decide +kernel⟩, List.mem_of_getElem? (i := 595) (by decide +kernel), List.mem_of_getElem? (i := 777) (by decide +kernel), List.mem_of_getElem? (i := 778) (by decide +kernel)⟩
theorem lw_p53 : lw_okq (⟨"LikeRecordsModel", "commonMany", "(I)I"⟩, 19) := ⟨⟨by decide +kernel, by decide +kernel⟩, List.mem_of_getElem? (i := 595) (by decide +kernel), List.mem_of_getElem? (i := 785) (by decide +kernel), List.mem_of_getElem? (i := 786) (by decide +kernel)⟩
theorem lw_p54 : lw_okq (⟨"LikeRecordsModel", "isCommon", "(II)Z"⟩, 19) := ⟨⟨by decide +kernel, by decide +kernel⟩, List.mem_of_getElem? (i := 595) (by decide +kernel), List.mem_of_getElem? (i := 789) (by decide +kernel), List.mem_of_getElem? (i := 790) (by decide +kernel)⟩
theorem lw_p55 : lw_okq (⟨"LikeRecordsModel", "haveOf", "(I)I"⟩, 19) := ⟨⟨by decide +kernel, by decide +kernel⟩, List.mem_of_getElem? (i := 595) (by decide +kernel), List.mem_of_getElem? (i := 793) (by decide +kernel), List.mem_of_getElem? (i := 794) (by decide +kernel)⟩
theorem lw_p56 : lw_okq (⟨"LikeRecordsModel", "rareMany", "()I"⟩, 19) := ⟨⟨by decide +kernel, by decide +kernel⟩, List.mem_of_getElem? (i := 595) (by decide +kernel), List.mem_of_getElem? (i := 805) (by decide +kernel), List.mem_of_getElem? (i := 806) (by decide +kernel)⟩
theorem lw_p57 : lw_okq (⟨"LikeRecordsModel", "sizeBy", "(I)I"⟩, 19) := ⟨⟨by decide +kernel, by decide +kernel⟩, List.mem_of_getElem? (i := 595) (by decide +kernel), List.mem_of_getElem? (i := 809) (by decide +kernel), List.mem_of_getElem? (i := 810) (by decide +kernel)⟩
theorem lw_p58 : lw_okq (⟨"LikeRecordsModel", "leavesOf", "(I)I"⟩, 19) := ⟨⟨by decide +kernel, by decide +kernel⟩, List.mem_of_getElem? (i := 595) (by decide +kernel), List.mem_of_getElem? (i := 813) (by decide +kernel), List.mem_of_getElem? (i := 814) (by decide +kernel)⟩
theorem lw_p59 : lw_okq (⟨"LikeRecordsModel", "writesAll", "(II)V"⟩, 19) := ⟨⟨by decide +kernel, by decide +kernel⟩, List.mem_of_getElem? (i := 595) (by decide +kernel), List.mem_of_getElem? (i := 821) (by decide +kernel), List.mem_of_getElem? (i := 822) (by decide +kernel)⟩
theorem lw_p60 : lw_okq (⟨"LikeRecordsModel", "writes", "(I)V"⟩, 19) := ⟨⟨by decide +kernel, by decide +kernel⟩, List.mem_of_getElem? (i := 595) (by decide +kernel), List.mem_of_getElem? (i := 825) (by decide +kernel), List.mem_of_getElem? (i := 826) (by decide +kernel)⟩
theorem lw_p61 : lw_okq (⟨"LikeRecordsModel", "writesValue", "(I)V"⟩, 19) := ⟨⟨by decide +kernel, by decide +kernel⟩, List.mem_of_getElem? (i := 595) (by decide +kernel), List.mem_of_getElem? (i := 829) (by decide +kernel), List.mem_of_getElem? (i := 830) (by decide +kernel)⟩
theorem lw_p62 : lw_okq (⟨"LikeRecordsModel", "branchesOf", "(I)I"⟩, 19) := ⟨⟨by decide +kernel, by decide +kernel⟩, List.mem_of_getElem? (i := 595) (by decide +kernel), List.mem_of_getElem? (i := 833) (by decide +kernel), List.mem_of_getElem? (i := 834) (by decide +kernel)⟩
theorem lw_p63 : lw_okq (⟨"LikeRecordsModel", "sumOf", "(I)I"⟩, 19) := ⟨⟨by decide +kernel, by decide +kernel⟩, List.mem_of_getElem? (i := 595) (by decide +kernel), List.mem_of_getElem? (i := 837) (by decide +kernel), List.mem_of_getElem? (i := 838) (by decide +kernel)⟩
def lw_privs_4 : List (MethodName × Nat) := [(⟨"LikeRecordsModel", "isPath", "(I)Z"⟩, 19), (⟨"LikeRecordsModel", "leafAt", "(II)I"⟩, 19), (⟨"LikeRecordsModel", "valueOf", "(II)I"⟩, 19), (⟨"LikeRecordsModel", "isBranch", "(II)Z"⟩, 19), (⟨"LikeRecordsModel", "isWithin", "(II)Z"⟩, 19), (⟨"LikeRecordsModel", "commonMany", "(I)I"⟩, 19), (⟨"LikeRecordsModel", "isCommon", "(II)Z"⟩, 19), (⟨"LikeRecordsModel", "haveOf", "(I)I"⟩, 19), (⟨"LikeRecordsModel", "rareMany", "()I"⟩, 19), (⟨"LikeRecordsModel", "sizeBy", "(I)I"⟩, 19), (⟨"LikeRecordsModel", "leavesOf", "(I)I"⟩, 19), (⟨"LikeRecordsModel", "writesAll", "(II)V"⟩, 19), (⟨"LikeRecordsModel", "writes", "(I)V"⟩, 19), (⟨"LikeRecordsModel", "writesValue", "(I)V"⟩, 19), (⟨"LikeRecordsModel", "branchesOf", "(I)I"⟩, 19), (⟨"LikeRecordsModel", "sumOf", "(I)I"⟩, 19)]
theorem lw_r4 : ∀ q ∈ lw_privs_4, lw_okq q := List.forall_mem_cons.mpr ⟨lw_p48, List.forall_mem_cons.mpr ⟨lw_p49, List.forall_mem_cons.mpr ⟨lw_p50, List.forall_mem_cons.mpr ⟨lw_p51, List.forall_mem_cons.mpr ⟨lw_p52, List.forall_mem_cons.mpr ⟨lw_p53, List.forall_mem_cons.mpr ⟨lw_p54, List.forall_mem_cons.mpr ⟨lw_p55, List.forall_mem_cons.mpr ⟨lw_p56, List.forall_mem_cons.mpr ⟨lw_p57, List.forall_mem_cons.mpr ⟨lw_p58, List.forall_mem_cons.mpr ⟨lw_p59, List.forall_mem_cons.mpr ⟨lw_p60, List.forall_mem_cons.mpr ⟨lw_p61, List.forall_mem_cons.mpr ⟨lw_p62, List.forall_mem_cons.mpr ⟨lw_p63, fun _ h => absurd h List.not_mem_nil⟩⟩⟩⟩⟩⟩⟩⟩⟩⟩⟩⟩⟩⟩⟩⟩
theorem lw_p64 : lw_okq (⟨"LikeRecordsModel", "overRecords", "(II)I"⟩, 19) := ⟨⟨by decide +kernel, by decide +kernel⟩, List.mem_of_getElem? (i := 595) (by decide +kernel), List.mem_of_getElem? (i := 853) (by decide +kernel), List.mem_of_getElem? (i := 854) (by decide +kernel)⟩
theorem lw_p65 : lw_okq (⟨"LikeRecordsModel", "isShape", "(I)Z"⟩, 19) := ⟨⟨by decide +kernel, by decide +kernel⟩, List.mem_of_getElem? (i := 595) (by decide +kernel), List.mem_of_getElem? (i := 861) (by decide +kernel), List.mem_of_getElem? (i := 862) (by decide +kernel)⟩
theorem lw_p66 : lw_okq (⟨"LikeRecordsModel", "inCommon", "(II)I"⟩, 19) := ⟨⟨by decide +kernel, by decide +kernel⟩, List.mem_of_getElem? (i := 595) (by decide +kernel), List.mem_of_getElem? (i := 885) (by decide +kernel), List.mem_of_getElem? (i := 886) (by decide +kernel)⟩
def lw_privs_5 : List (MethodName × Nat) := [(⟨"LikeRecordsModel", "overRecords", "(II)I"⟩, 19), (⟨"LikeRecordsModel", "isShape", "(I)Z"⟩, 19), (⟨"LikeRecordsModel", "inCommon", "(II)I"⟩, 19)]
theorem lw_r5 : ∀ q ∈ lw_privs_5, lw_okq q := List.forall_mem_cons.mpr ⟨lw_p64, List.forall_mem_cons.mpr ⟨lw_p65, List.forall_mem_cons.mpr ⟨lw_p66, fun _ h => absurd h List.not_mem_nil⟩⟩⟩
def lw_privs : List (MethodName × Nat) := lw_privs_1 ++ (lw_privs_2 ++ (lw_privs_3 ++ (lw_privs_4 ++ (lw_privs_5))))
def lw_tbl : List Cond := k2_sels lw_privs ++ tables_1
theorem lw_privs_ok : ∀ q ∈ lw_privs, lw_okq q := by
  show ∀ q ∈ lw_privs_1 ++ (lw_privs_2 ++ (lw_privs_3 ++ (lw_privs_4 ++ (lw_privs_5)))), lw_okq q
  exact List.forall_mem_append.mpr ⟨lw_r1, List.forall_mem_append.mpr ⟨lw_r2, List.forall_mem_append.mpr ⟨lw_r3, List.forall_mem_append.mpr ⟨lw_r4, lw_r5⟩⟩⟩⟩
-- class names, fields, types (printed by the check's program); methods
def RX0 : String := "LikeRecords$Form"
def TX0 : u_T := fun k => match k with
  | 0 => ("LikeRecords$Form", "fields", "LLikeRecords$Row;", true)
  | _ => ("LikeRecords$Form", "leaves", "I", false)
def tyX0 : Nat → FieldType := fun k => match k with
  | 0 => .object "LikeRecords$Row"
  | _ => .int
abbrev wsX00 : List Cond := u_ws RX0 TX0 2
theorem nmX0 : ∀ a, a < 2 → ∀ b, b < 2 → a ≠ b → (TX0 a).2.1 ≠ (TX0 b).2.1 := by decide +kernel
theorem tyX0_ok : ∀ k, k < 2 → parseFieldDescriptor (TX0 k).2.2.1 = some (tyX0 k) := by decide +kernel
abbrev cX0_init : ByteArray := prog_2_method_1_code
def yX0_init : MethodName := ⟨RX0, "<init>", "()V"⟩
abbrev cX0_clear : ByteArray := prog_2_method_2_code
def yX0_clear : MethodName := ⟨RX0, "clear", "()V"⟩
abbrev cX0_add : ByteArray := prog_2_method_3_code
def yX0_add : MethodName := ⟨RX0, "add", "(I)V"⟩
abbrev cX0_copyFrom : ByteArray := prog_2_method_4_code
def yX0_copyFrom : MethodName := ⟨RX0, "copyFrom", "(LLikeRecords$Form;)V"⟩
abbrev cX0_size : ByteArray := prog_2_method_5_code
def yX0_size : MethodName := ⟨RX0, "size", "()I"⟩
abbrev cX0_leaves : ByteArray := prog_2_method_6_code
def yX0_leaves : MethodName := ⟨RX0, "leaves", "()I"⟩
abbrev cX0_branches : ByteArray := prog_2_method_7_code
def yX0_branches : MethodName := ⟨RX0, "branches", "()I"⟩
abbrev cX0_at : ByteArray := prog_2_method_8_code
def yX0_at : MethodName := ⟨RX0, "at", "(I)I"⟩
abbrev cX0_isBranchAt : ByteArray := prog_2_method_9_code
def yX0_isBranchAt : MethodName := ⟨RX0, "isBranchAt", "(I)Z"⟩
abbrev cX0_pathAt : ByteArray := prog_2_method_10_code
def yX0_pathAt : MethodName := ⟨RX0, "pathAt", "(I)I"⟩
abbrev cX0_holds : ByteArray := prog_2_method_11_code
def yX0_holds : MethodName := ⟨RX0, "holds", "(I)Z"⟩
abbrev cX0_leafPlace : ByteArray := prog_2_method_12_code
def yX0_leafPlace : MethodName := ⟨RX0, "leafPlace", "(I)I"⟩
abbrev cX0_isSameAs : ByteArray := prog_2_method_13_code
def yX0_isSameAs : MethodName := ⟨RX0, "isSameAs", "(LLikeRecords$Form;)Z"⟩
abbrev cX0_leavesInCommon : ByteArray := prog_2_method_14_code
def yX0_leavesInCommon : MethodName := ⟨RX0, "leavesInCommon", "(LLikeRecords$Form;)I"⟩
def RX1 : String := "LikeRecords$History"
def TX1 : u_T := fun k => match k with
  | 0 => ("LikeRecords$History", "states", "[LLikeRecords$State;", true)
  | _ => ("LikeRecords$History", "size", "I", false)
def tyX1 : Nat → FieldType := fun k => match k with
  | 0 => .array (.object "LikeRecords$State")
  | _ => .int
abbrev wsX10 : List Cond := u_ws RX1 TX1 2
theorem nmX1 : ∀ a, a < 2 → ∀ b, b < 2 → a ≠ b → (TX1 a).2.1 ≠ (TX1 b).2.1 := by decide +kernel
theorem tyX1_ok : ∀ k, k < 2 → parseFieldDescriptor (TX1 k).2.2.1 = some (tyX1 k) := by decide +kernel
abbrev cX1_init : ByteArray := prog_3_method_1_code
def yX1_init : MethodName := ⟨RX1, "<init>", "()V"⟩
abbrev cX1_size : ByteArray := prog_3_method_2_code
def yX1_size : MethodName := ⟨RX1, "size", "()I"⟩
abbrev cX1_keep : ByteArray := prog_3_method_3_code
def yX1_keep : MethodName := ⟨RX1, "keep", "(LLikeRecords$State;)V"⟩
abbrev cX1_forgetOldest : ByteArray := prog_3_method_4_code
def yX1_forgetOldest : MethodName := ⟨RX1, "forgetOldest", "()V"⟩
abbrev cX1_restore : ByteArray := prog_3_method_5_code
def yX1_restore : MethodName := ⟨RX1, "restore", "(LLikeRecords$State;)V"⟩
def RX2 : String := "LikeRecords$Paths"
def TX2 : u_T := fun k => match k with
  | 0 => ("LikeRecords$Paths", "letters", "LLikeRecords$Row;", true)
  | _ => ("LikeRecords$Paths", "outers", "LLikeRecords$Row;", true)
def tyX2 : Nat → FieldType := fun k => match k with
  | 0 => .object "LikeRecords$Row"
  | _ => .object "LikeRecords$Row"
abbrev wsX20 : List Cond := u_ws RX2 TX2 2
theorem nmX2 : ∀ a, a < 2 → ∀ b, b < 2 → a ≠ b → (TX2 a).2.1 ≠ (TX2 b).2.1 := by decide +kernel
theorem tyX2_ok : ∀ k, k < 2 → parseFieldDescriptor (TX2 k).2.2.1 = some (tyX2 k) := by decide +kernel
abbrev cX2_init : ByteArray := prog_4_method_1_code
def yX2_init : MethodName := ⟨RX2, "<init>", "()V"⟩
abbrev cX2_size : ByteArray := prog_4_method_2_code
def yX2_size : MethodName := ⟨RX2, "size", "()I"⟩
abbrev cX2_cutTo : ByteArray := prog_4_method_3_code
def yX2_cutTo : MethodName := ⟨RX2, "cutTo", "(I)V"⟩
abbrev cX2_letterOf : ByteArray := prog_4_method_4_code
def yX2_letterOf : MethodName := ⟨RX2, "letterOf", "(I)I"⟩
abbrev cX2_outerOf : ByteArray := prog_4_method_5_code
def yX2_outerOf : MethodName := ⟨RX2, "outerOf", "(I)I"⟩
abbrev cX2_findOrAdd : ByteArray := prog_4_method_6_code
def yX2_findOrAdd : MethodName := ⟨RX2, "findOrAdd", "(II)I"⟩
abbrev cX2_isWithin : ByteArray := prog_4_method_7_code
def yX2_isWithin : MethodName := ⟨RX2, "isWithin", "(II)Z"⟩
def RX3 : String := "LikeRecords$Reading"
def TX3 : u_T := fun k => match k with
  | 0 => ("LikeRecords$Reading", "paths", "LLikeRecords$Paths;", true)
  | 1 => ("LikeRecords$Reading", "form", "LLikeRecords$Form;", true)
  | 2 => ("LikeRecords$Reading", "numbers", "LLikeRecords$Row;", true)
  | 3 => ("LikeRecords$Reading", "step", "I", false)
  | 4 => ("LikeRecords$Reading", "level", "I", false)
  | 5 => ("LikeRecords$Reading", "open", "I", false)
  | _ => ("LikeRecords$Reading", "named", "I", false)
def tyX3 : Nat → FieldType := fun k => match k with
  | 0 => .object "LikeRecords$Paths"
  | 1 => .object "LikeRecords$Form"
  | 2 => .object "LikeRecords$Row"
  | 3 => .int
  | 4 => .int
  | 5 => .int
  | _ => .int
abbrev wsX30 : List Cond := u_ws RX3 TX3 7
theorem nmX3 : ∀ a, a < 7 → ∀ b, b < 7 → a ≠ b → (TX3 a).2.1 ≠ (TX3 b).2.1 := by decide +kernel
theorem tyX3_ok : ∀ k, k < 7 → parseFieldDescriptor (TX3 k).2.2.1 = some (tyX3 k) := by decide +kernel
abbrev cX3_init : ByteArray := prog_5_method_1_code
def yX3_init : MethodName := ⟨RX3, "<init>", "()V"⟩
abbrev cX3_begin : ByteArray := prog_5_method_2_code
def yX3_begin : MethodName := ⟨RX3, "begin", "(I)V"⟩
abbrev cX3_isComplete : ByteArray := prog_5_method_3_code
def yX3_isComplete : MethodName := ⟨RX3, "isComplete", "()Z"⟩
abbrev cX3_take : ByteArray := prog_5_method_4_code
def yX3_take : MethodName := ⟨RX3, "take", "(I)Z"⟩
abbrev cX3_isDigit : ByteArray := prog_5_method_5_code
def yX3_isDigit : MethodName := ⟨RX3, "isDigit", "(I)Z"⟩
abbrev cX3_takeSpace : ByteArray := prog_5_method_6_code
def yX3_takeSpace : MethodName := ⟨RX3, "takeSpace", "()V"⟩
abbrev cX3_takeOpening : ByteArray := prog_5_method_7_code
def yX3_takeOpening : MethodName := ⟨RX3, "takeOpening", "(II)Z"⟩
abbrev cX3_takeClosing : ByteArray := prog_5_method_8_code
def yX3_takeClosing : MethodName := ⟨RX3, "takeClosing", "()Z"⟩
abbrev cX3_takeLetter : ByteArray := prog_5_method_9_code
def yX3_takeLetter : MethodName := ⟨RX3, "takeLetter", "(I)Z"⟩
abbrev cX3_takeColon : ByteArray := prog_5_method_10_code
def yX3_takeColon : MethodName := ⟨RX3, "takeColon", "(I)Z"⟩
abbrev cX3_takeFirstDigit : ByteArray := prog_5_method_11_code
def yX3_takeFirstDigit : MethodName := ⟨RX3, "takeFirstDigit", "(I)Z"⟩
abbrev cX3_takeNextDigit : ByteArray := prog_5_method_12_code
def yX3_takeNextDigit : MethodName := ⟨RX3, "takeNextDigit", "(I)Z"⟩
abbrev cX3_takeFieldEnd : ByteArray := prog_5_method_13_code
def yX3_takeFieldEnd : MethodName := ⟨RX3, "takeFieldEnd", "(I)Z"⟩
def RX4 : String := "LikeRecords$Row"
def TX4 : u_T := fun k => match k with
  | 0 => ("LikeRecords$Row", "cells", "[I", true)
  | _ => ("LikeRecords$Row", "size", "I", false)
def tyX4 : Nat → FieldType := fun k => match k with
  | 0 => .array .int
  | _ => .int
abbrev wsX40 : List Cond := u_ws RX4 TX4 2
theorem nmX4 : ∀ a, a < 2 → ∀ b, b < 2 → a ≠ b → (TX4 a).2.1 ≠ (TX4 b).2.1 := by decide +kernel
theorem tyX4_ok : ∀ k, k < 2 → parseFieldDescriptor (TX4 k).2.2.1 = some (tyX4 k) := by decide +kernel
abbrev cX4_init : ByteArray := prog_6_method_1_code
def yX4_init : MethodName := ⟨RX4, "<init>", "(I)V"⟩
abbrev cX4_size : ByteArray := prog_6_method_2_code
def yX4_size : MethodName := ⟨RX4, "size", "()I"⟩
abbrev cX4_isInside : ByteArray := prog_6_method_3_code
def yX4_isInside : MethodName := ⟨RX4, "isInside", "(I)Z"⟩
abbrev cX4_at : ByteArray := prog_6_method_4_code
def yX4_at : MethodName := ⟨RX4, "at", "(I)I"⟩
abbrev cX4_put : ByteArray := prog_6_method_5_code
def yX4_put : MethodName := ⟨RX4, "put", "(II)V"⟩
abbrev cX4_add : ByteArray := prog_6_method_6_code
def yX4_add : MethodName := ⟨RX4, "add", "(I)V"⟩
abbrev cX4_cutTo : ByteArray := prog_6_method_7_code
def yX4_cutTo : MethodName := ⟨RX4, "cutTo", "(I)V"⟩
abbrev cX4_copyFrom : ByteArray := prog_6_method_8_code
def yX4_copyFrom : MethodName := ⟨RX4, "copyFrom", "(LLikeRecords$Row;)V"⟩
def RX5 : String := "LikeRecords$Shapes"
def TX5 : u_T := fun k => match k with
  | 0 => ("LikeRecords$Shapes", "forms", "[LLikeRecords$Form;", true)
  | _ => ("LikeRecords$Shapes", "empty", "LLikeRecords$Form;", true)
def tyX5 : Nat → FieldType := fun k => match k with
  | 0 => .array (.object "LikeRecords$Form")
  | _ => .object "LikeRecords$Form"
abbrev wsX50 : List Cond := u_ws RX5 TX5 2
theorem nmX5 : ∀ a, a < 2 → ∀ b, b < 2 → a ≠ b → (TX5 a).2.1 ≠ (TX5 b).2.1 := by decide +kernel
theorem tyX5_ok : ∀ k, k < 2 → parseFieldDescriptor (TX5 k).2.2.1 = some (tyX5 k) := by decide +kernel
abbrev cX5_init : ByteArray := prog_7_method_1_code
def yX5_init : MethodName := ⟨RX5, "<init>", "()V"⟩
abbrev cX5_formAt : ByteArray := prog_7_method_2_code
def yX5_formAt : MethodName := ⟨RX5, "formAt", "(I)LLikeRecords$Form;"⟩
abbrev cX5_numberFor : ByteArray := prog_7_method_3_code
def yX5_numberFor : MethodName := ⟨RX5, "numberFor", "(LLikeRecords$Form;I)I"⟩
abbrev cX5_keep : ByteArray := prog_7_method_4_code
def yX5_keep : MethodName := ⟨RX5, "keep", "(ILLikeRecords$Form;)V"⟩
def RX6 : String := "LikeRecords$State"
def TX6 : u_T := fun k => match k with
  | 0 => ("LikeRecords$State", "shapesOfRecords", "LLikeRecords$Row;", true)
  | 1 => ("LikeRecords$State", "values", "LLikeRecords$Row;", true)
  | 2 => ("LikeRecords$State", "pathsKnown", "I", false)
  | 3 => ("LikeRecords$State", "shapesKnown", "I", false)
  | _ => ("LikeRecords$State", "bound", "I", false)
def tyX6 : Nat → FieldType := fun k => match k with
  | 0 => .object "LikeRecords$Row"
  | 1 => .object "LikeRecords$Row"
  | 2 => .int
  | 3 => .int
  | _ => .int
abbrev wsX60 : List Cond := u_ws RX6 TX6 5
theorem nmX6 : ∀ a, a < 5 → ∀ b, b < 5 → a ≠ b → (TX6 a).2.1 ≠ (TX6 b).2.1 := by decide +kernel
theorem tyX6_ok : ∀ k, k < 5 → parseFieldDescriptor (TX6 k).2.2.1 = some (tyX6 k) := by decide +kernel
abbrev cX6_init : ByteArray := prog_8_method_1_code
def yX6_init : MethodName := ⟨RX6, "<init>", "()V"⟩
abbrev cX6_copyFrom : ByteArray := prog_8_method_2_code
def yX6_copyFrom : MethodName := ⟨RX6, "copyFrom", "(LLikeRecords$State;)V"⟩
abbrev cX6_addRecord : ByteArray := prog_8_method_3_code
def yX6_addRecord : MethodName := ⟨RX6, "addRecord", "(ILLikeRecords$Row;)I"⟩
abbrev cX6_shapeOf : ByteArray := prog_8_method_4_code
def yX6_shapeOf : MethodName := ⟨RX6, "shapeOf", "(I)I"⟩
abbrev cX6_setShapeOf : ByteArray := prog_8_method_5_code
def yX6_setShapeOf : MethodName := ⟨RX6, "setShapeOf", "(II)V"⟩
abbrev cX6_has : ByteArray := prog_8_method_6_code
def yX6_has : MethodName := ⟨RX6, "has", "(I)Z"⟩
abbrev cX6_recordsRead : ByteArray := prog_8_method_7_code
def yX6_recordsRead : MethodName := ⟨RX6, "recordsRead", "()I"⟩
abbrev cX6_recordsLeft : ByteArray := prog_8_method_8_code
def yX6_recordsLeft : MethodName := ⟨RX6, "recordsLeft", "()I"⟩
abbrev cX6_recordsWith : ByteArray := prog_8_method_9_code
def yX6_recordsWith : MethodName := ⟨RX6, "recordsWith", "(I)I"⟩
abbrev cX6_recordWith : ByteArray := prog_8_method_10_code
def yX6_recordWith : MethodName := ⟨RX6, "recordWith", "(II)I"⟩
abbrev cX6_valueAt : ByteArray := prog_8_method_11_code
def yX6_valueAt : MethodName := ⟨RX6, "valueAt", "(II)I"⟩
abbrev cX6_setValue : ByteArray := prog_8_method_12_code
def yX6_setValue : MethodName := ⟨RX6, "setValue", "(III)V"⟩
def RX7 : String := "LikeRecords"
def TX7 : u_T := fun k => match k with
  | 0 => ("LikeRecords", "text", "LLikeRecords$Row;", true)
  | 1 => ("LikeRecords", "line", "LLikeRecords$Row;", true)
  | 2 => ("LikeRecords", "reading", "LLikeRecords$Reading;", true)
  | 3 => ("LikeRecords", "paths", "LLikeRecords$Paths;", true)
  | 4 => ("LikeRecords", "shapes", "LLikeRecords$Shapes;", true)
  | 5 => ("LikeRecords", "remainder", "LLikeRecords$Form;", true)
  | 6 => ("LikeRecords", "state", "LLikeRecords$State;", true)
  | _ => ("LikeRecords", "history", "LLikeRecords$History;", true)
def tyX7 : Nat → FieldType := fun k => match k with
  | 0 => .object "LikeRecords$Row"
  | 1 => .object "LikeRecords$Row"
  | 2 => .object "LikeRecords$Reading"
  | 3 => .object "LikeRecords$Paths"
  | 4 => .object "LikeRecords$Shapes"
  | 5 => .object "LikeRecords$Form"
  | 6 => .object "LikeRecords$State"
  | _ => .object "LikeRecords$History"
abbrev wsX70 : List Cond := u_ws RX7 TX7 8
theorem nmX7 : ∀ a, a < 8 → ∀ b, b < 8 → a ≠ b → (TX7 a).2.1 ≠ (TX7 b).2.1 := by decide +kernel
theorem tyX7_ok : ∀ k, k < 8 → parseFieldDescriptor (TX7 k).2.2.1 = some (tyX7 k) := by decide +kernel
abbrev cX7_init : ByteArray := prog_1_method_1_code
def yX7_init : MethodName := ⟨RX7, "<init>", "()V"⟩
abbrev cX7_append : ByteArray := prog_1_method_2_code
def yX7_append : MethodName := ⟨RX7, "append", "(I)I"⟩
abbrev cX7_clearText : ByteArray := prog_1_method_3_code
def yX7_clearText : MethodName := ⟨RX7, "clearText", "()I"⟩
abbrev cX7_read : ByteArray := prog_1_method_4_code
def yX7_read : MethodName := ⟨RX7, "read", "()I"⟩
abbrev cX7_discard : ByteArray := prog_1_method_5_code
def yX7_discard : MethodName := ⟨RX7, "discard", "(I)I"⟩
abbrev cX7_change : ByteArray := prog_1_method_6_code
def yX7_change : MethodName := ⟨RX7, "change", "(III)I"⟩
abbrev cX7_drop : ByteArray := prog_1_method_7_code
def yX7_drop : MethodName := ⟨RX7, "drop", "(II)I"⟩
abbrev cX7_setBound : ByteArray := prog_1_method_8_code
def yX7_setBound : MethodName := ⟨RX7, "setBound", "(I)I"⟩
abbrev cX7_undo : ByteArray := prog_1_method_9_code
def yX7_undo : MethodName := ⟨RX7, "undo", "()I"⟩
abbrev cX7_count : ByteArray := prog_1_method_10_code
def yX7_count : MethodName := ⟨RX7, "count", "(I)I"⟩
abbrev cX7_record : ByteArray := prog_1_method_11_code
def yX7_record : MethodName := ⟨RX7, "record", "(II)I"⟩
abbrev cX7_character : ByteArray := prog_1_method_12_code
def yX7_character : MethodName := ⟨RX7, "character", "(II)I"⟩
abbrev cX7_value : ByteArray := prog_1_method_13_code
def yX7_value : MethodName := ⟨RX7, "value", "(II)I"⟩
abbrev cX7_path : ByteArray := prog_1_method_14_code
def yX7_path : MethodName := ⟨RX7, "path", "(II)I"⟩
abbrev cX7_shape : ByteArray := prog_1_method_15_code
def yX7_shape : MethodName := ⟨RX7, "shape", "(II)I"⟩
abbrev cX7_column : ByteArray := prog_1_method_16_code
def yX7_column : MethodName := ⟨RX7, "column", "(III)I"⟩
abbrev cX7_field : ByteArray := prog_1_method_17_code
def yX7_field : MethodName := ⟨RX7, "field", "(II)I"⟩
abbrev cX7_sizeWith : ByteArray := prog_1_method_18_code
def yX7_sizeWith : MethodName := ⟨RX7, "sizeWith", "(I)I"⟩
abbrev cX7_bestBound : ByteArray := prog_1_method_19_code
def yX7_bestBound : MethodName := ⟨RX7, "bestBound", "()I"⟩
abbrev cX7_like : ByteArray := prog_1_method_20_code
def yX7_like : MethodName := ⟨RX7, "like", "(I)I"⟩
abbrev cX7_isPath : ByteArray := prog_1_method_21_code
def yX7_isPath : MethodName := ⟨RX7, "isPath", "(I)Z"⟩
abbrev cX7_isShape : ByteArray := prog_1_method_22_code
def yX7_isShape : MethodName := ⟨RX7, "isShape", "(I)Z"⟩
abbrev cX7_isBound : ByteArray := prog_1_method_23_code
def yX7_isBound : MethodName := ⟨RX7, "isBound", "(I)Z"⟩
abbrev cX7_isCommon : ByteArray := prog_1_method_24_code
def yX7_isCommon : MethodName := ⟨RX7, "isCommon", "(I)Z"⟩
abbrev cX7_formOf : ByteArray := prog_1_method_25_code
def yX7_formOf : MethodName := ⟨RX7, "formOf", "(I)LLikeRecords$Form;"⟩
abbrev cX7_takeText : ByteArray := prog_1_method_26_code
def yX7_takeText : MethodName := ⟨RX7, "takeText", "()I"⟩
abbrev cX7_learnShape : ByteArray := prog_1_method_27_code
def yX7_learnShape : MethodName := ⟨RX7, "learnShape", "(ILLikeRecords$Form;)V"⟩
abbrev cX7_fillRemainder : ByteArray := prog_1_method_28_code
def yX7_fillRemainder : MethodName := ⟨RX7, "fillRemainder", "(LLikeRecords$Form;I)V"⟩
abbrev cX7_dropValues : ByteArray := prog_1_method_29_code
def yX7_dropValues : MethodName := ⟨RX7, "dropValues", "(ILLikeRecords$Form;I)V"⟩
abbrev cX7_commonShapes : ByteArray := prog_1_method_30_code
def yX7_commonShapes : MethodName := ⟨RX7, "commonShapes", "()I"⟩
abbrev cX7_rareRecords : ByteArray := prog_1_method_31_code
def yX7_rareRecords : MethodName := ⟨RX7, "rareRecords", "()I"⟩
abbrev cX7_sizeFor : ByteArray := prog_1_method_32_code
def yX7_sizeFor : MethodName := ⟨RX7, "sizeFor", "(I)I"⟩
abbrev cX7_costOf : ByteArray := prog_1_method_33_code
def yX7_costOf : MethodName := ⟨RX7, "costOf", "(I)I"⟩
abbrev cX7_recordsHolding : ByteArray := prog_1_method_34_code
def yX7_recordsHolding : MethodName := ⟨RX7, "recordsHolding", "(I)I"⟩
abbrev cX7_sumOfPath : ByteArray := prog_1_method_35_code
def yX7_sumOfPath : MethodName := ⟨RX7, "sumOfPath", "(I)I"⟩
abbrev cX7_sumOfRecord : ByteArray := prog_1_method_36_code
def yX7_sumOfRecord : MethodName := ⟨RX7, "sumOfRecord", "(II)I"⟩
abbrev cX7_writeText : ByteArray := prog_1_method_37_code
def yX7_writeText : MethodName := ⟨RX7, "writeText", "(LLikeRecords$Form;I)I"⟩
abbrev cX7_writeClosings : ByteArray := prog_1_method_38_code
def yX7_writeClosings : MethodName := ⟨RX7, "writeClosings", "(II)I"⟩
abbrev cX7_writeName : ByteArray := prog_1_method_39_code
def yX7_writeName : MethodName := ⟨RX7, "writeName", "(I)V"⟩
abbrev cX7_writeNumber : ByteArray := prog_1_method_40_code
def yX7_writeNumber : MethodName := ⟨RX7, "writeNumber", "(I)V"⟩
def RX8 : String := "LikeRecordsModel"
def TX8 : u_T := fun k => match k with
  | 0 => ("LikeRecordsModel", "now", "[I", true)
  | 1 => ("LikeRecordsModel", "past", "[I", true)
  | 2 => ("LikeRecordsModel", "pasts", "I", false)
  | 3 => ("LikeRecordsModel", "before", "[I", true)
  | 4 => ("LikeRecordsModel", "text", "[I", true)
  | 5 => ("LikeRecordsModel", "typed", "I", false)
  | 6 => ("LikeRecordsModel", "written", "[I", true)
  | 7 => ("LikeRecordsModel", "writtenMany", "I", false)
  | 8 => ("LikeRecordsModel", "open", "[I", true)
  | 9 => ("LikeRecordsModel", "letters", "[I", true)
  | 10 => ("LikeRecordsModel", "insides", "[I", true)
  | 11 => ("LikeRecordsModel", "values", "[I", true)
  | 12 => ("LikeRecordsModel", "fields", "I", false)
  | 13 => ("LikeRecordsModel", "inner", "[I", true)
  | 14 => ("LikeRecordsModel", "depth", "I", false)
  | 15 => ("LikeRecordsModel", "at", "I", false)
  | 16 => ("LikeRecordsModel", "state", "I", false)
  | 17 => ("LikeRecordsModel", "row", "[I", true)
  | _ => ("LikeRecordsModel", "rowMany", "I", false)
def tyX8 : Nat → FieldType := fun k => match k with
  | 0 => .array .int
  | 1 => .array .int
  | 2 => .int
  | 3 => .array .int
  | 4 => .array .int
  | 5 => .int
  | 6 => .array .int
  | 7 => .int
  | 8 => .array .int
  | 9 => .array .int
  | 10 => .array .int
  | 11 => .array .int
  | 12 => .int
  | 13 => .array .int
  | 14 => .int
  | 15 => .int
  | 16 => .int
  | 17 => .array .int
  | _ => .int
abbrev wsX80 : List Cond := u_ws RX8 TX8 19
theorem nmX8 : ∀ a, a < 19 → ∀ b, b < 19 → a ≠ b → (TX8 a).2.1 ≠ (TX8 b).2.1 := by decide +kernel
theorem tyX8_ok : ∀ k, k < 19 → parseFieldDescriptor (TX8 k).2.2.1 = some (tyX8 k) := by decide +kernel
abbrev cX8_init : ByteArray := prog_10_method_1_code
def yX8_init : MethodName := ⟨RX8, "<init>", "()V"⟩
abbrev cX8_in : ByteArray := prog_10_method_2_code
def yX8_in : MethodName := ⟨RX8, "in", "(III)Z"⟩
abbrev cX8_copies : ByteArray := prog_10_method_3_code
def yX8_copies : MethodName := ⟨RX8, "copies", "([II[II)V"⟩
abbrev cX8_records : ByteArray := prog_10_method_4_code
def yX8_records : MethodName := ⟨RX8, "records", "([I)V"⟩
abbrev cX8_isPath : ByteArray := prog_10_method_5_code
def yX8_isPath : MethodName := ⟨RX8, "isPath", "(I)Z"⟩
abbrev cX8_isShape : ByteArray := prog_10_method_6_code
def yX8_isShape : MethodName := ⟨RX8, "isShape", "(I)Z"⟩
abbrev cX8_shapeOf : ByteArray := prog_10_method_7_code
def yX8_shapeOf : MethodName := ⟨RX8, "shapeOf", "(I)I"⟩
abbrev cX8_isRecord : ByteArray := prog_10_method_8_code
def yX8_isRecord : MethodName := ⟨RX8, "isRecord", "(I)Z"⟩
abbrev cX8_valueOf : ByteArray := prog_10_method_9_code
def yX8_valueOf : MethodName := ⟨RX8, "valueOf", "(II)I"⟩
abbrev cX8_letterOf : ByteArray := prog_10_method_10_code
def yX8_letterOf : MethodName := ⟨RX8, "letterOf", "(I)I"⟩
abbrev cX8_innerOf : ByteArray := prog_10_method_11_code
def yX8_innerOf : MethodName := ⟨RX8, "innerOf", "(I)I"⟩
abbrev cX8_fieldsOf : ByteArray := prog_10_method_12_code
def yX8_fieldsOf : MethodName := ⟨RX8, "fieldsOf", "(I)I"⟩
abbrev cX8_fieldOf : ByteArray := prog_10_method_13_code
def yX8_fieldOf : MethodName := ⟨RX8, "fieldOf", "(II)I"⟩
abbrev cX8_leavesOf : ByteArray := prog_10_method_14_code
def yX8_leavesOf : MethodName := ⟨RX8, "leavesOf", "(I)I"⟩
abbrev cX8_branchesOf : ByteArray := prog_10_method_15_code
def yX8_branchesOf : MethodName := ⟨RX8, "branchesOf", "(I)I"⟩
abbrev cX8_leafAt : ByteArray := prog_10_method_16_code
def yX8_leafAt : MethodName := ⟨RX8, "leafAt", "(II)I"⟩
abbrev cX8_isBranch : ByteArray := prog_10_method_17_code
def yX8_isBranch : MethodName := ⟨RX8, "isBranch", "(II)Z"⟩
abbrev cX8_haveOf : ByteArray := prog_10_method_18_code
def yX8_haveOf : MethodName := ⟨RX8, "haveOf", "(I)I"⟩
abbrev cX8_isCommon : ByteArray := prog_10_method_19_code
def yX8_isCommon : MethodName := ⟨RX8, "isCommon", "(II)Z"⟩
abbrev cX8_commonMany : ByteArray := prog_10_method_20_code
def yX8_commonMany : MethodName := ⟨RX8, "commonMany", "(I)I"⟩
abbrev cX8_recordMany : ByteArray := prog_10_method_21_code
def yX8_recordMany : MethodName := ⟨RX8, "recordMany", "()I"⟩
abbrev cX8_writes : ByteArray := prog_10_method_22_code
def yX8_writes : MethodName := ⟨RX8, "writes", "(I)V"⟩
abbrev cX8_writesValue : ByteArray := prog_10_method_23_code
def yX8_writesValue : MethodName := ⟨RX8, "writesValue", "(I)V"⟩
abbrev cX8_writesAll : ByteArray := prog_10_method_24_code
def yX8_writesAll : MethodName := ⟨RX8, "writesAll", "(II)V"⟩
abbrev cX8_stands : ByteArray := prog_10_method_25_code
def yX8_stands : MethodName := ⟨RX8, "stands", "(I)Z"⟩
abbrev cX8_readsNumber : ByteArray := prog_10_method_26_code
def yX8_readsNumber : MethodName := ⟨RX8, "readsNumber", "()Z"⟩
abbrev cX8_numberMany : ByteArray := prog_10_method_27_code
def yX8_numberMany : MethodName := ⟨RX8, "numberMany", "()I"⟩
abbrev cX8_takesSign : ByteArray := prog_10_method_28_code
def yX8_takesSign : MethodName := ⟨RX8, "takesSign", "(I)Z"⟩
abbrev cX8_takesLetter : ByteArray := prog_10_method_29_code
def yX8_takesLetter : MethodName := ⟨RX8, "takesLetter", "(I)V"⟩
abbrev cX8_faultOf : ByteArray := prog_10_method_30_code
def yX8_faultOf : MethodName := ⟨RX8, "faultOf", "()I"⟩
abbrev cX8_pathWith : ByteArray := prog_10_method_31_code
def yX8_pathWith : MethodName := ⟨RX8, "pathWith", "(II)I"⟩
abbrev cX8_laysPaths : ByteArray := prog_10_method_32_code
def yX8_laysPaths : MethodName := ⟨RX8, "laysPaths", "()Z"⟩
abbrev cX8_isRow : ByteArray := prog_10_method_33_code
def yX8_isRow : MethodName := ⟨RX8, "isRow", "(I)Z"⟩
abbrev cX8_findsShape : ByteArray := prog_10_method_34_code
def yX8_findsShape : MethodName := ⟨RX8, "findsShape", "()I"⟩
abbrev cX8_append : ByteArray := prog_10_method_35_code
def yX8_append : MethodName := ⟨RX8, "append", "(I)I"⟩
abbrev cX8_clearText : ByteArray := prog_10_method_36_code
def yX8_clearText : MethodName := ⟨RX8, "clearText", "()I"⟩
abbrev cX8_read : ByteArray := prog_10_method_37_code
def yX8_read : MethodName := ⟨RX8, "read", "()I"⟩
abbrev cX8_discard : ByteArray := prog_10_method_38_code
def yX8_discard : MethodName := ⟨RX8, "discard", "(I)I"⟩
abbrev cX8_change : ByteArray := prog_10_method_39_code
def yX8_change : MethodName := ⟨RX8, "change", "(III)I"⟩
abbrev cX8_isWithin : ByteArray := prog_10_method_40_code
def yX8_isWithin : MethodName := ⟨RX8, "isWithin", "(II)Z"⟩
abbrev cX8_drop : ByteArray := prog_10_method_41_code
def yX8_drop : MethodName := ⟨RX8, "drop", "(II)I"⟩
abbrev cX8_setBound : ByteArray := prog_10_method_42_code
def yX8_setBound : MethodName := ⟨RX8, "setBound", "(I)I"⟩
abbrev cX8_undo : ByteArray := prog_10_method_43_code
def yX8_undo : MethodName := ⟨RX8, "undo", "()I"⟩
abbrev cX8_rareMany : ByteArray := prog_10_method_44_code
def yX8_rareMany : MethodName := ⟨RX8, "rareMany", "()I"⟩
abbrev cX8_sizeBy : ByteArray := prog_10_method_45_code
def yX8_sizeBy : MethodName := ⟨RX8, "sizeBy", "(I)I"⟩
abbrev cX8_count : ByteArray := prog_10_method_46_code
def yX8_count : MethodName := ⟨RX8, "count", "(I)I"⟩
abbrev cX8_sumOf : ByteArray := prog_10_method_47_code
def yX8_sumOf : MethodName := ⟨RX8, "sumOf", "(I)I"⟩
abbrev cX8_record : ByteArray := prog_10_method_48_code
def yX8_record : MethodName := ⟨RX8, "record", "(II)I"⟩
abbrev cX8_character : ByteArray := prog_10_method_49_code
def yX8_character : MethodName := ⟨RX8, "character", "(II)I"⟩
abbrev cX8_value : ByteArray := prog_10_method_50_code
def yX8_value : MethodName := ⟨RX8, "value", "(II)I"⟩
abbrev cX8_overRecords : ByteArray := prog_10_method_51_code
def yX8_overRecords : MethodName := ⟨RX8, "overRecords", "(II)I"⟩
abbrev cX8_path : ByteArray := prog_10_method_52_code
def yX8_path : MethodName := ⟨RX8, "path", "(II)I"⟩
abbrev cX8_shape : ByteArray := prog_10_method_53_code
def yX8_shape : MethodName := ⟨RX8, "shape", "(II)I"⟩
abbrev cX8_column : ByteArray := prog_10_method_54_code
def yX8_column : MethodName := ⟨RX8, "column", "(III)I"⟩
abbrev cX8_field : ByteArray := prog_10_method_55_code
def yX8_field : MethodName := ⟨RX8, "field", "(II)I"⟩
abbrev cX8_sizeWith : ByteArray := prog_10_method_56_code
def yX8_sizeWith : MethodName := ⟨RX8, "sizeWith", "(I)I"⟩
abbrev cX8_bestBound : ByteArray := prog_10_method_57_code
def yX8_bestBound : MethodName := ⟨RX8, "bestBound", "()I"⟩
abbrev cX8_inCommon : ByteArray := prog_10_method_58_code
def yX8_inCommon : MethodName := ⟨RX8, "inCommon", "(II)I"⟩
abbrev cX8_like : ByteArray := prog_10_method_59_code
def yX8_like : MethodName := ⟨RX8, "like", "(I)I"⟩
abbrev vwCl : List vw_C := [(RX0, TX0, 2), (RX1, TX1, 2), (RX2, TX2, 2), (RX3, TX3, 7), (RX4, TX4, 2), (RX5, TX5, 2), (RX6, TX6, 5), (RX7, TX7, 8), (RX8, TX8, 19)]
end
section
-- the code of the methods, for the abstract machine (by wip/whole/gen.py out of javap's listing)
abbrev qX : Type := Nat × Int × Nat × List Nat × Nat
abbrev m_Form_init : Nat := 0
abbrev m_Form_clear : Nat := 1
abbrev m_Form_add : Nat := 2
abbrev m_Form_copyFrom : Nat := 3
abbrev m_Form_size : Nat := 4
abbrev m_Form_leaves : Nat := 5
abbrev m_Form_branches : Nat := 6
abbrev m_Form_at : Nat := 7
abbrev m_Form_isBranchAt : Nat := 8
abbrev m_Form_pathAt : Nat := 9
abbrev m_Form_holds : Nat := 10
abbrev m_Form_leafPlace : Nat := 11
abbrev m_Form_isSameAs : Nat := 12
abbrev m_Form_leavesInCommon : Nat := 13
abbrev m_Hist_init : Nat := 14
abbrev m_Hist_size : Nat := 15
abbrev m_Hist_keep : Nat := 16
abbrev m_Hist_forgetOldest : Nat := 17
abbrev m_Hist_restore : Nat := 18
abbrev m_Paths_init : Nat := 19
abbrev m_Paths_size : Nat := 20
abbrev m_Paths_cutTo : Nat := 21
abbrev m_Paths_letterOf : Nat := 22
abbrev m_Paths_outerOf : Nat := 23
abbrev m_Paths_findOrAdd : Nat := 24
abbrev m_Paths_isWithin : Nat := 25
abbrev m_Rdg_init : Nat := 26
abbrev m_Rdg_begin : Nat := 27
abbrev m_Rdg_isComplete : Nat := 28
abbrev m_Rdg_take : Nat := 29
abbrev m_Rdg_isDigit : Nat := 30
abbrev m_Rdg_takeSpace : Nat := 31
abbrev m_Rdg_takeOpening : Nat := 32
abbrev m_Rdg_takeClosing : Nat := 33
abbrev m_Rdg_takeLetter : Nat := 34
abbrev m_Rdg_takeColon : Nat := 35
abbrev m_Rdg_takeFirstDigit : Nat := 36
abbrev m_Rdg_takeNextDigit : Nat := 37
abbrev m_Rdg_takeFieldEnd : Nat := 38
abbrev m_Row_init : Nat := 39
abbrev m_Row_size : Nat := 40
abbrev m_Row_isInside : Nat := 41
abbrev m_Row_at : Nat := 42
abbrev m_Row_put : Nat := 43
abbrev m_Row_add : Nat := 44
abbrev m_Row_cutTo : Nat := 45
abbrev m_Row_copyFrom : Nat := 46
abbrev m_Shs_init : Nat := 47
abbrev m_Shs_formAt : Nat := 48
abbrev m_Shs_numberFor : Nat := 49
abbrev m_Shs_keep : Nat := 50
abbrev m_State_init : Nat := 51
abbrev m_State_copyFrom : Nat := 52
abbrev m_State_addRecord : Nat := 53
abbrev m_State_shapeOf : Nat := 54
abbrev m_State_setShapeOf : Nat := 55
abbrev m_State_has : Nat := 56
abbrev m_State_recordsRead : Nat := 57
abbrev m_State_recordsLeft : Nat := 58
abbrev m_State_recordsWith : Nat := 59
abbrev m_State_recordWith : Nat := 60
abbrev m_State_valueAt : Nat := 61
abbrev m_State_setValue : Nat := 62
abbrev m_LR_init : Nat := 63
abbrev m_LR_append : Nat := 64
abbrev m_LR_clearText : Nat := 65
abbrev m_LR_read : Nat := 66
abbrev m_LR_discard : Nat := 67
abbrev m_LR_change : Nat := 68
abbrev m_LR_drop : Nat := 69
abbrev m_LR_setBound : Nat := 70
abbrev m_LR_undo : Nat := 71
abbrev m_LR_count : Nat := 72
abbrev m_LR_record : Nat := 73
abbrev m_LR_character : Nat := 74
abbrev m_LR_value : Nat := 75
abbrev m_LR_path : Nat := 76
abbrev m_LR_shape : Nat := 77
abbrev m_LR_column : Nat := 78
abbrev m_LR_field : Nat := 79
abbrev m_LR_sizeWith : Nat := 80
abbrev m_LR_bestBound : Nat := 81
abbrev m_LR_like : Nat := 82
abbrev m_LR_isPath : Nat := 83
abbrev m_LR_isShape : Nat := 84
abbrev m_LR_isBound : Nat := 85
abbrev m_LR_isCommon : Nat := 86
abbrev m_LR_formOf : Nat := 87
abbrev m_LR_takeText : Nat := 88
abbrev m_LR_learnShape : Nat := 89
abbrev m_LR_fillRemainder : Nat := 90
abbrev m_LR_dropValues : Nat := 91
abbrev m_LR_commonShapes : Nat := 92
abbrev m_LR_rareRecords : Nat := 93
abbrev m_LR_sizeFor : Nat := 94
abbrev m_LR_costOf : Nat := 95
abbrev m_LR_recordsHolding : Nat := 96
abbrev m_LR_sumOfPath : Nat := 97
abbrev m_LR_sumOfRecord : Nat := 98
abbrev m_LR_writeText : Nat := 99
abbrev m_LR_writeClosings : Nat := 100
abbrev m_LR_writeName : Nat := 101
abbrev m_LR_writeNumber : Nat := 102
abbrev m_Mo_init : Nat := 103
abbrev m_Mo_in : Nat := 104
abbrev m_Mo_copies : Nat := 105
abbrev m_Mo_records : Nat := 106
abbrev m_Mo_isPath : Nat := 107
abbrev m_Mo_isShape : Nat := 108
abbrev m_Mo_shapeOf : Nat := 109
abbrev m_Mo_isRecord : Nat := 110
abbrev m_Mo_valueOf : Nat := 111
abbrev m_Mo_letterOf : Nat := 112
abbrev m_Mo_innerOf : Nat := 113
abbrev m_Mo_fieldsOf : Nat := 114
abbrev m_Mo_fieldOf : Nat := 115
abbrev m_Mo_leavesOf : Nat := 116
abbrev m_Mo_branchesOf : Nat := 117
abbrev m_Mo_leafAt : Nat := 118
abbrev m_Mo_isBranch : Nat := 119
abbrev m_Mo_haveOf : Nat := 120
abbrev m_Mo_isCommon : Nat := 121
abbrev m_Mo_commonMany : Nat := 122
abbrev m_Mo_recordMany : Nat := 123
abbrev m_Mo_writes : Nat := 124
abbrev m_Mo_writesValue : Nat := 125
abbrev m_Mo_writesAll : Nat := 126
abbrev m_Mo_stands : Nat := 127
abbrev m_Mo_readsNumber : Nat := 128
abbrev m_Mo_numberMany : Nat := 129
abbrev m_Mo_takesSign : Nat := 130
abbrev m_Mo_takesLetter : Nat := 131
abbrev m_Mo_faultOf : Nat := 132
abbrev m_Mo_pathWith : Nat := 133
abbrev m_Mo_laysPaths : Nat := 134
abbrev m_Mo_isRow : Nat := 135
abbrev m_Mo_findsShape : Nat := 136
abbrev m_Mo_append : Nat := 137
abbrev m_Mo_clearText : Nat := 138
abbrev m_Mo_read : Nat := 139
abbrev m_Mo_discard : Nat := 140
abbrev m_Mo_change : Nat := 141
abbrev m_Mo_isWithin : Nat := 142
abbrev m_Mo_drop : Nat := 143
abbrev m_Mo_setBound : Nat := 144
abbrev m_Mo_undo : Nat := 145
abbrev m_Mo_rareMany : Nat := 146
abbrev m_Mo_sizeBy : Nat := 147
abbrev m_Mo_count : Nat := 148
abbrev m_Mo_sumOf : Nat := 149
abbrev m_Mo_record : Nat := 150
abbrev m_Mo_character : Nat := 151
abbrev m_Mo_value : Nat := 152
abbrev m_Mo_overRecords : Nat := 153
abbrev m_Mo_path : Nat := 154
abbrev m_Mo_shape : Nat := 155
abbrev m_Mo_column : Nat := 156
abbrev m_Mo_field : Nat := 157
abbrev m_Mo_sizeWith : Nat := 158
abbrev m_Mo_bestBound : Nat := 159
abbrev m_Mo_inCommon : Nat := 160
abbrev m_Mo_like : Nat := 161
def qc0 (pc : Nat) : Option qX := cond (Nat.ble pc 22) (cond (Nat.ble pc 9) (cond (Nat.ble pc 4) (cond (Nat.ble pc 0) (cond (Nat.beq pc 0) (some (2, 0, 0, [], 1)) none) (cond (Nat.ble pc 1) (cond (Nat.beq pc 1) (some (34, 0, 3, [], 4)) none) (cond (Nat.beq pc 4) (some (2, 0, 0, [], 5)) none))) (cond (Nat.ble pc 5) (cond (Nat.beq pc 5) (some (32, 0, 9, [4], 8)) none) (cond (Nat.ble pc 8) (cond (Nat.beq pc 8) (some (12, 0, 0, [], 9)) none) (cond (Nat.beq pc 9) (some (0, 26, 0, [], 11)) none)))) (cond (Nat.ble pc 17) (cond (Nat.ble pc 11) (cond (Nat.beq pc 11) (some (40, 11, 39, [], 14)) none) (cond (Nat.ble pc 14) (cond (Nat.beq pc 14) (some (24, 0, 14, [0], 17)) none) (cond (Nat.beq pc 17) (some (2, 0, 0, [], 18)) none))) (cond (Nat.ble pc 18) (cond (Nat.beq pc 18) (some (0, 0, 0, [], 19)) none) (cond (Nat.ble pc 19) (cond (Nat.beq pc 19) (some (23, 1, 20, [0], 22)) none) (cond (Nat.beq pc 22) (some (44, 0, 0, [], 23)) none))))) none
def qc1 (pc : Nat) : Option qX := cond (Nat.ble pc 13) (cond (Nat.ble pc 5) (cond (Nat.ble pc 1) (cond (Nat.ble pc 0) (cond (Nat.beq pc 0) (some (2, 0, 0, [], 1)) none) (cond (Nat.beq pc 1) (some (22, 0, 14, [0], 4)) none)) (cond (Nat.ble pc 4) (cond (Nat.beq pc 4) (some (0, 0, 0, [], 5)) none) (cond (Nat.beq pc 5) (some (40, 24, 45, [], 8)) none))) (cond (Nat.ble pc 9) (cond (Nat.ble pc 8) (cond (Nat.beq pc 8) (some (2, 0, 0, [], 9)) none) (cond (Nat.beq pc 9) (some (0, 0, 0, [], 10)) none)) (cond (Nat.ble pc 10) (cond (Nat.beq pc 10) (some (23, 1, 20, [0], 13)) none) (cond (Nat.beq pc 13) (some (44, 0, 0, [], 14)) none)))) none
def qc2 (pc : Nat) : Option qX := cond (Nat.ble pc 24) (cond (Nat.ble pc 11) (cond (Nat.ble pc 4) (cond (Nat.ble pc 0) (cond (Nat.beq pc 0) (some (2, 0, 0, [], 1)) none) (cond (Nat.ble pc 1) (cond (Nat.beq pc 1) (some (22, 0, 14, [0], 4)) none) (cond (Nat.beq pc 4) (some (1, 0, 1, [], 5)) none))) (cond (Nat.ble pc 8) (cond (Nat.ble pc 5) (cond (Nat.beq pc 5) (some (40, 27, 44, [], 8)) none) (cond (Nat.beq pc 8) (some (1, 0, 1, [], 9)) none)) (cond (Nat.ble pc 9) (cond (Nat.beq pc 9) (some (0, 100, 0, [], 11)) none) (cond (Nat.beq pc 11) (some (16, 3, 24, [], 14)) none)))) (cond (Nat.ble pc 16) (cond (Nat.ble pc 14) (cond (Nat.beq pc 14) (some (2, 0, 0, [], 15)) none) (cond (Nat.ble pc 15) (cond (Nat.beq pc 15) (some (12, 0, 0, [], 16)) none) (cond (Nat.beq pc 16) (some (21, 1, 20, [0], 19)) none))) (cond (Nat.ble pc 20) (cond (Nat.ble pc 19) (cond (Nat.beq pc 19) (some (0, 1, 0, [], 20)) none) (cond (Nat.beq pc 20) (some (6, 0, 0, [], 21)) none)) (cond (Nat.ble pc 21) (cond (Nat.beq pc 21) (some (23, 1, 20, [0], 24)) none) (cond (Nat.beq pc 24) (some (44, 0, 0, [], 25)) none))))) none
def qc3 (pc : Nat) : Option qX := cond (Nat.ble pc 19) (cond (Nat.ble pc 8) (cond (Nat.ble pc 1) (cond (Nat.ble pc 0) (cond (Nat.beq pc 0) (some (2, 0, 0, [], 1)) none) (cond (Nat.beq pc 1) (some (22, 0, 14, [0], 4)) none)) (cond (Nat.ble pc 4) (cond (Nat.beq pc 4) (some (2, 0, 1, [], 5)) none) (cond (Nat.ble pc 5) (cond (Nat.beq pc 5) (some (22, 0, 14, [0], 8)) none) (cond (Nat.beq pc 8) (some (40, 30, 46, [], 11)) none)))) (cond (Nat.ble pc 12) (cond (Nat.ble pc 11) (cond (Nat.beq pc 11) (some (2, 0, 0, [], 12)) none) (cond (Nat.beq pc 12) (some (2, 0, 1, [], 13)) none)) (cond (Nat.ble pc 13) (cond (Nat.beq pc 13) (some (21, 1, 20, [0], 16)) none) (cond (Nat.ble pc 16) (cond (Nat.beq pc 16) (some (23, 1, 20, [0], 19)) none) (cond (Nat.beq pc 19) (some (44, 0, 0, [], 20)) none))))) none
def qc4 (pc : Nat) : Option qX := cond (Nat.ble pc 7) (cond (Nat.ble pc 1) (cond (Nat.ble pc 0) (cond (Nat.beq pc 0) (some (2, 0, 0, [], 1)) none) (cond (Nat.beq pc 1) (some (22, 0, 14, [0], 4)) none)) (cond (Nat.ble pc 4) (cond (Nat.beq pc 4) (some (40, 34, 40, [], 7)) none) (cond (Nat.beq pc 7) (some (41, 0, 0, [], 8)) none))) none
def qc5 (pc : Nat) : Option qX := cond (Nat.ble pc 4) (cond (Nat.ble pc 0) (cond (Nat.beq pc 0) (some (2, 0, 0, [], 1)) none) (cond (Nat.ble pc 1) (cond (Nat.beq pc 1) (some (21, 1, 20, [0], 4)) none) (cond (Nat.beq pc 4) (some (41, 0, 0, [], 5)) none))) none
def qc6 (pc : Nat) : Option qX := cond (Nat.ble pc 12) (cond (Nat.ble pc 4) (cond (Nat.ble pc 0) (cond (Nat.beq pc 0) (some (2, 0, 0, [], 1)) none) (cond (Nat.ble pc 1) (cond (Nat.beq pc 1) (some (22, 0, 14, [0], 4)) none) (cond (Nat.beq pc 4) (some (40, 34, 40, [], 7)) none))) (cond (Nat.ble pc 8) (cond (Nat.ble pc 7) (cond (Nat.beq pc 7) (some (2, 0, 0, [], 8)) none) (cond (Nat.beq pc 8) (some (21, 1, 20, [0], 11)) none)) (cond (Nat.ble pc 11) (cond (Nat.beq pc 11) (some (7, 0, 0, [], 12)) none) (cond (Nat.beq pc 12) (some (41, 0, 0, [], 13)) none)))) none
def qc7 (pc : Nat) : Option qX := cond (Nat.ble pc 8) (cond (Nat.ble pc 1) (cond (Nat.ble pc 0) (cond (Nat.beq pc 0) (some (2, 0, 0, [], 1)) none) (cond (Nat.beq pc 1) (some (22, 0, 14, [0], 4)) none)) (cond (Nat.ble pc 4) (cond (Nat.beq pc 4) (some (1, 0, 1, [], 5)) none) (cond (Nat.ble pc 5) (cond (Nat.beq pc 5) (some (40, 38, 42, [], 8)) none) (cond (Nat.beq pc 8) (some (41, 0, 0, [], 9)) none)))) none
def qc8 (pc : Nat) : Option qX := cond (Nat.ble pc 18) (cond (Nat.ble pc 8) (cond (Nat.ble pc 1) (cond (Nat.ble pc 0) (cond (Nat.beq pc 0) (some (2, 0, 0, [], 1)) none) (cond (Nat.beq pc 1) (some (22, 0, 14, [0], 4)) none)) (cond (Nat.ble pc 4) (cond (Nat.beq pc 4) (some (1, 0, 1, [], 5)) none) (cond (Nat.ble pc 5) (cond (Nat.beq pc 5) (some (40, 38, 42, [], 8)) none) (cond (Nat.beq pc 8) (some (0, 100, 0, [], 10)) none)))) (cond (Nat.ble pc 13) (cond (Nat.ble pc 10) (cond (Nat.beq pc 10) (some (16, 2, 17, [], 13)) none) (cond (Nat.beq pc 13) (some (0, 1, 0, [], 14)) none)) (cond (Nat.ble pc 14) (cond (Nat.beq pc 14) (some (15, 0, 18, [], 17)) none) (cond (Nat.ble pc 17) (cond (Nat.beq pc 17) (some (0, 0, 0, [], 18)) none) (cond (Nat.beq pc 18) (some (42, 0, 0, [], 19)) none))))) none
def qc9 (pc : Nat) : Option qX := cond (Nat.ble pc 23) (cond (Nat.ble pc 10) (cond (Nat.ble pc 4) (cond (Nat.ble pc 0) (cond (Nat.beq pc 0) (some (2, 0, 0, [], 1)) none) (cond (Nat.ble pc 1) (cond (Nat.beq pc 1) (some (22, 0, 14, [0], 4)) none) (cond (Nat.beq pc 4) (some (1, 0, 1, [], 5)) none))) (cond (Nat.ble pc 8) (cond (Nat.ble pc 5) (cond (Nat.beq pc 5) (some (40, 38, 42, [], 8)) none) (cond (Nat.beq pc 8) (some (3, 0, 2, [], 9)) none)) (cond (Nat.ble pc 9) (cond (Nat.beq pc 9) (some (1, 0, 2, [], 10)) none) (cond (Nat.beq pc 10) (some (0, 100, 0, [], 12)) none)))) (cond (Nat.ble pc 16) (cond (Nat.ble pc 12) (cond (Nat.beq pc 12) (some (16, 2, 22, [], 15)) none) (cond (Nat.ble pc 15) (cond (Nat.beq pc 15) (some (1, 0, 2, [], 16)) none) (cond (Nat.beq pc 16) (some (0, 100, 0, [], 18)) none))) (cond (Nat.ble pc 19) (cond (Nat.ble pc 18) (cond (Nat.beq pc 18) (some (7, 0, 0, [], 19)) none) (cond (Nat.beq pc 19) (some (15, 0, 23, [], 22)) none)) (cond (Nat.ble pc 22) (cond (Nat.beq pc 22) (some (1, 0, 2, [], 23)) none) (cond (Nat.beq pc 23) (some (41, 0, 0, [], 24)) none))))) none
def qc10 (pc : Nat) : Option qX := cond (Nat.ble pc 34) (cond (Nat.ble pc 14) (cond (Nat.ble pc 3) (cond (Nat.ble pc 1) (cond (Nat.ble pc 0) (cond (Nat.beq pc 0) (some (0, 0, 0, [], 1)) none) (cond (Nat.beq pc 1) (some (3, 0, 2, [], 2)) none)) (cond (Nat.ble pc 2) (cond (Nat.beq pc 2) (some (1, 0, 2, [], 3)) none) (cond (Nat.beq pc 3) (some (2, 0, 0, [], 4)) none))) (cond (Nat.ble pc 7) (cond (Nat.ble pc 4) (cond (Nat.beq pc 4) (some (22, 0, 14, [0], 7)) none) (cond (Nat.beq pc 7) (some (40, 34, 40, [], 10)) none)) (cond (Nat.ble pc 10) (cond (Nat.beq pc 10) (some (16, 3, 33, [], 13)) none) (cond (Nat.ble pc 13) (cond (Nat.beq pc 13) (some (2, 0, 0, [], 14)) none) (cond (Nat.beq pc 14) (some (22, 0, 14, [0], 17)) none))))) (cond (Nat.ble pc 25) (cond (Nat.ble pc 18) (cond (Nat.ble pc 17) (cond (Nat.beq pc 17) (some (1, 0, 2, [], 18)) none) (cond (Nat.beq pc 18) (some (40, 38, 42, [], 21)) none)) (cond (Nat.ble pc 21) (cond (Nat.beq pc 21) (some (1, 0, 1, [], 22)) none) (cond (Nat.ble pc 22) (cond (Nat.beq pc 22) (some (16, 1, 27, [], 25)) none) (cond (Nat.beq pc 25) (some (0, 1, 0, [], 26)) none)))) (cond (Nat.ble pc 27) (cond (Nat.ble pc 26) (cond (Nat.beq pc 26) (some (42, 0, 0, [], 27)) none) (cond (Nat.beq pc 27) (some (5, 1, 2, [], 30)) none)) (cond (Nat.ble pc 30) (cond (Nat.beq pc 30) (some (15, 0, 2, [], 33)) none) (cond (Nat.ble pc 33) (cond (Nat.beq pc 33) (some (0, 0, 0, [], 34)) none) (cond (Nat.beq pc 34) (some (42, 0, 0, [], 35)) none)))))) none
def qc11 (pc : Nat) : Option qX := cond (Nat.ble pc 48) (cond (Nat.ble pc 20) (cond (Nat.ble pc 5) (cond (Nat.ble pc 2) (cond (Nat.ble pc 0) (cond (Nat.beq pc 0) (some (0, 0, 0, [], 1)) none) (cond (Nat.ble pc 1) (cond (Nat.beq pc 1) (some (3, 0, 2, [], 2)) none) (cond (Nat.beq pc 2) (some (0, 0, 0, [], 3)) none))) (cond (Nat.ble pc 3) (cond (Nat.beq pc 3) (some (3, 0, 3, [], 4)) none) (cond (Nat.ble pc 4) (cond (Nat.beq pc 4) (some (1, 0, 3, [], 5)) none) (cond (Nat.beq pc 5) (some (2, 0, 0, [], 6)) none)))) (cond (Nat.ble pc 12) (cond (Nat.ble pc 6) (cond (Nat.beq pc 6) (some (22, 0, 14, [0], 9)) none) (cond (Nat.ble pc 9) (cond (Nat.beq pc 9) (some (40, 34, 40, [], 12)) none) (cond (Nat.beq pc 12) (some (16, 3, 46, [], 15)) none))) (cond (Nat.ble pc 16) (cond (Nat.ble pc 15) (cond (Nat.beq pc 15) (some (2, 0, 0, [], 16)) none) (cond (Nat.beq pc 16) (some (22, 0, 14, [0], 19)) none)) (cond (Nat.ble pc 19) (cond (Nat.beq pc 19) (some (1, 0, 3, [], 20)) none) (cond (Nat.beq pc 20) (some (40, 38, 42, [], 23)) none))))) (cond (Nat.ble pc 30) (cond (Nat.ble pc 27) (cond (Nat.ble pc 23) (cond (Nat.beq pc 23) (some (1, 0, 1, [], 24)) none) (cond (Nat.ble pc 24) (cond (Nat.beq pc 24) (some (16, 1, 29, [], 27)) none) (cond (Nat.beq pc 27) (some (1, 0, 2, [], 28)) none))) (cond (Nat.ble pc 28) (cond (Nat.beq pc 28) (some (41, 0, 0, [], 29)) none) (cond (Nat.ble pc 29) (cond (Nat.beq pc 29) (some (2, 0, 0, [], 30)) none) (cond (Nat.beq pc 30) (some (1, 0, 3, [], 31)) none)))) (cond (Nat.ble pc 37) (cond (Nat.ble pc 31) (cond (Nat.beq pc 31) (some (40, 42, 8, [], 34)) none) (cond (Nat.ble pc 34) (cond (Nat.beq pc 34) (some (17, 1, 40, [], 37)) none) (cond (Nat.beq pc 37) (some (5, 1, 2, [], 40)) none))) (cond (Nat.ble pc 43) (cond (Nat.ble pc 40) (cond (Nat.beq pc 40) (some (5, 1, 3, [], 43)) none) (cond (Nat.beq pc 43) (some (15, 0, 4, [], 46)) none)) (cond (Nat.ble pc 46) (cond (Nat.beq pc 46) (some (0, (-9), 0, [], 48)) none) (cond (Nat.beq pc 48) (some (41, 0, 0, [], 49)) none)))))) none
def qc12 (pc : Nat) : Option qX := cond (Nat.ble pc 54) (cond (Nat.ble pc 23) (cond (Nat.ble pc 14) (cond (Nat.ble pc 4) (cond (Nat.ble pc 0) (cond (Nat.beq pc 0) (some (2, 0, 0, [], 1)) none) (cond (Nat.ble pc 1) (cond (Nat.beq pc 1) (some (22, 0, 14, [0], 4)) none) (cond (Nat.beq pc 4) (some (40, 34, 40, [], 7)) none))) (cond (Nat.ble pc 8) (cond (Nat.ble pc 7) (cond (Nat.beq pc 7) (some (2, 0, 1, [], 8)) none) (cond (Nat.beq pc 8) (some (40, 46, 4, [], 11)) none)) (cond (Nat.ble pc 11) (cond (Nat.beq pc 11) (some (16, 0, 16, [], 14)) none) (cond (Nat.beq pc 14) (some (0, 0, 0, [], 15)) none)))) (cond (Nat.ble pc 17) (cond (Nat.ble pc 15) (cond (Nat.beq pc 15) (some (42, 0, 0, [], 16)) none) (cond (Nat.ble pc 16) (cond (Nat.beq pc 16) (some (0, 0, 0, [], 17)) none) (cond (Nat.beq pc 17) (some (3, 0, 2, [], 18)) none))) (cond (Nat.ble pc 19) (cond (Nat.ble pc 18) (cond (Nat.beq pc 18) (some (1, 0, 2, [], 19)) none) (cond (Nat.beq pc 19) (some (2, 0, 0, [], 20)) none)) (cond (Nat.ble pc 20) (cond (Nat.beq pc 20) (some (22, 0, 14, [0], 23)) none) (cond (Nat.beq pc 23) (some (40, 34, 40, [], 26)) none))))) (cond (Nat.ble pc 38) (cond (Nat.ble pc 30) (cond (Nat.ble pc 26) (cond (Nat.beq pc 26) (some (16, 3, 53, [], 29)) none) (cond (Nat.ble pc 29) (cond (Nat.beq pc 29) (some (2, 0, 0, [], 30)) none) (cond (Nat.beq pc 30) (some (22, 0, 14, [0], 33)) none))) (cond (Nat.ble pc 34) (cond (Nat.ble pc 33) (cond (Nat.beq pc 33) (some (1, 0, 2, [], 34)) none) (cond (Nat.beq pc 34) (some (40, 38, 42, [], 37)) none)) (cond (Nat.ble pc 37) (cond (Nat.beq pc 37) (some (2, 0, 1, [], 38)) none) (cond (Nat.beq pc 38) (some (1, 0, 2, [], 39)) none)))) (cond (Nat.ble pc 46) (cond (Nat.ble pc 42) (cond (Nat.ble pc 39) (cond (Nat.beq pc 39) (some (40, 47, 7, [], 42)) none) (cond (Nat.beq pc 42) (some (16, 0, 47, [], 45)) none)) (cond (Nat.ble pc 45) (cond (Nat.beq pc 45) (some (0, 0, 0, [], 46)) none) (cond (Nat.beq pc 46) (some (42, 0, 0, [], 47)) none))) (cond (Nat.ble pc 50) (cond (Nat.ble pc 47) (cond (Nat.beq pc 47) (some (5, 1, 2, [], 50)) none) (cond (Nat.beq pc 50) (some (15, 0, 18, [], 53)) none)) (cond (Nat.ble pc 53) (cond (Nat.beq pc 53) (some (0, 1, 0, [], 54)) none) (cond (Nat.beq pc 54) (some (42, 0, 0, [], 55)) none)))))) none
def qc13 (pc : Nat) : Option qX := cond (Nat.ble pc 48) (cond (Nat.ble pc 17) (cond (Nat.ble pc 5) (cond (Nat.ble pc 2) (cond (Nat.ble pc 0) (cond (Nat.beq pc 0) (some (0, 0, 0, [], 1)) none) (cond (Nat.ble pc 1) (cond (Nat.beq pc 1) (some (3, 0, 2, [], 2)) none) (cond (Nat.beq pc 2) (some (0, 0, 0, [], 3)) none))) (cond (Nat.ble pc 3) (cond (Nat.beq pc 3) (some (3, 0, 3, [], 4)) none) (cond (Nat.ble pc 4) (cond (Nat.beq pc 4) (some (1, 0, 3, [], 5)) none) (cond (Nat.beq pc 5) (some (2, 0, 0, [], 6)) none)))) (cond (Nat.ble pc 12) (cond (Nat.ble pc 6) (cond (Nat.beq pc 6) (some (22, 0, 14, [0], 9)) none) (cond (Nat.ble pc 9) (cond (Nat.beq pc 9) (some (40, 34, 40, [], 12)) none) (cond (Nat.beq pc 12) (some (16, 3, 47, [], 15)) none))) (cond (Nat.ble pc 15) (cond (Nat.beq pc 15) (some (2, 0, 0, [], 16)) none) (cond (Nat.ble pc 16) (cond (Nat.beq pc 16) (some (1, 0, 3, [], 17)) none) (cond (Nat.beq pc 17) (some (40, 42, 8, [], 20)) none))))) (cond (Nat.ble pc 29) (cond (Nat.ble pc 24) (cond (Nat.ble pc 20) (cond (Nat.beq pc 20) (some (17, 1, 41, [], 23)) none) (cond (Nat.ble pc 23) (cond (Nat.beq pc 23) (some (2, 0, 1, [], 24)) none) (cond (Nat.beq pc 24) (some (2, 0, 0, [], 25)) none))) (cond (Nat.ble pc 25) (cond (Nat.beq pc 25) (some (22, 0, 14, [0], 28)) none) (cond (Nat.ble pc 28) (cond (Nat.beq pc 28) (some (1, 0, 3, [], 29)) none) (cond (Nat.beq pc 29) (some (40, 38, 42, [], 32)) none)))) (cond (Nat.ble pc 38) (cond (Nat.ble pc 32) (cond (Nat.beq pc 32) (some (40, 48, 10, [], 35)) none) (cond (Nat.ble pc 35) (cond (Nat.beq pc 35) (some (17, 0, 41, [], 38)) none) (cond (Nat.beq pc 38) (some (5, 1, 2, [], 41)) none))) (cond (Nat.ble pc 44) (cond (Nat.ble pc 41) (cond (Nat.beq pc 41) (some (5, 1, 3, [], 44)) none) (cond (Nat.beq pc 44) (some (15, 0, 4, [], 47)) none)) (cond (Nat.ble pc 47) (cond (Nat.beq pc 47) (some (1, 0, 2, [], 48)) none) (cond (Nat.beq pc 48) (some (41, 0, 0, [], 49)) none)))))) none
def qc14 (pc : Nat) : Option qX := cond (Nat.ble pc 47) (cond (Nat.ble pc 20) (cond (Nat.ble pc 9) (cond (Nat.ble pc 4) (cond (Nat.ble pc 0) (cond (Nat.beq pc 0) (some (2, 0, 0, [], 1)) none) (cond (Nat.ble pc 1) (cond (Nat.beq pc 1) (some (34, 0, 3, [], 4)) none) (cond (Nat.beq pc 4) (some (2, 0, 0, [], 5)) none))) (cond (Nat.ble pc 5) (cond (Nat.beq pc 5) (some (0, 5, 0, [], 6)) none) (cond (Nat.ble pc 6) (cond (Nat.beq pc 6) (some (31, 0, 9, [6], 9)) none) (cond (Nat.beq pc 9) (some (24, 0, 11, [1], 12)) none)))) (cond (Nat.ble pc 14) (cond (Nat.ble pc 12) (cond (Nat.beq pc 12) (some (0, 0, 0, [], 13)) none) (cond (Nat.ble pc 13) (cond (Nat.beq pc 13) (some (3, 0, 1, [], 14)) none) (cond (Nat.beq pc 14) (some (1, 0, 1, [], 15)) none))) (cond (Nat.ble pc 16) (cond (Nat.ble pc 15) (cond (Nat.beq pc 15) (some (2, 0, 0, [], 16)) none) (cond (Nat.beq pc 16) (some (22, 0, 11, [1], 19)) none)) (cond (Nat.ble pc 19) (cond (Nat.beq pc 19) (some (29, 0, 0, [], 20)) none) (cond (Nat.beq pc 20) (some (16, 3, 42, [], 23)) none))))) (cond (Nat.ble pc 32) (cond (Nat.ble pc 27) (cond (Nat.ble pc 23) (cond (Nat.beq pc 23) (some (2, 0, 0, [], 24)) none) (cond (Nat.ble pc 24) (cond (Nat.beq pc 24) (some (22, 0, 11, [1], 27)) none) (cond (Nat.beq pc 27) (some (1, 0, 1, [], 28)) none))) (cond (Nat.ble pc 28) (cond (Nat.beq pc 28) (some (32, 0, 9, [6], 31)) none) (cond (Nat.ble pc 31) (cond (Nat.beq pc 31) (some (12, 0, 0, [], 32)) none) (cond (Nat.beq pc 32) (some (40, 17, 51, [], 35)) none)))) (cond (Nat.ble pc 39) (cond (Nat.ble pc 35) (cond (Nat.beq pc 35) (some (28, 0, 0, [], 36)) none) (cond (Nat.ble pc 36) (cond (Nat.beq pc 36) (some (5, 1, 1, [], 39)) none) (cond (Nat.beq pc 39) (some (15, 0, 14, [], 42)) none))) (cond (Nat.ble pc 43) (cond (Nat.ble pc 42) (cond (Nat.beq pc 42) (some (2, 0, 0, [], 43)) none) (cond (Nat.beq pc 43) (some (0, 0, 0, [], 44)) none)) (cond (Nat.ble pc 44) (cond (Nat.beq pc 44) (some (23, 1, 18, [1], 47)) none) (cond (Nat.beq pc 47) (some (44, 0, 0, [], 48)) none)))))) none
def qc15 (pc : Nat) : Option qX := cond (Nat.ble pc 4) (cond (Nat.ble pc 0) (cond (Nat.beq pc 0) (some (2, 0, 0, [], 1)) none) (cond (Nat.ble pc 1) (cond (Nat.beq pc 1) (some (21, 1, 18, [1], 4)) none) (cond (Nat.beq pc 4) (some (41, 0, 0, [], 5)) none))) none
def qc16 (pc : Nat) : Option qX := cond (Nat.ble pc 64) (cond (Nat.ble pc 32) (cond (Nat.ble pc 13) (cond (Nat.ble pc 5) (cond (Nat.ble pc 1) (cond (Nat.ble pc 0) (cond (Nat.beq pc 0) (some (2, 0, 0, [], 1)) none) (cond (Nat.beq pc 1) (some (21, 1, 18, [1], 4)) none)) (cond (Nat.ble pc 4) (cond (Nat.beq pc 4) (some (2, 0, 0, [], 5)) none) (cond (Nat.beq pc 5) (some (22, 0, 11, [1], 8)) none))) (cond (Nat.ble pc 9) (cond (Nat.ble pc 8) (cond (Nat.beq pc 8) (some (29, 0, 0, [], 9)) none) (cond (Nat.beq pc 9) (some (16, 2, 16, [], 12)) none)) (cond (Nat.ble pc 12) (cond (Nat.beq pc 12) (some (2, 0, 0, [], 13)) none) (cond (Nat.beq pc 13) (some (40, 22, 17, [], 16)) none)))) (cond (Nat.ble pc 23) (cond (Nat.ble pc 17) (cond (Nat.ble pc 16) (cond (Nat.beq pc 16) (some (2, 0, 0, [], 17)) none) (cond (Nat.beq pc 17) (some (21, 1, 18, [1], 20)) none)) (cond (Nat.ble pc 20) (cond (Nat.beq pc 20) (some (17, 2, 64, [], 23)) none) (cond (Nat.beq pc 23) (some (2, 0, 0, [], 24)) none))) (cond (Nat.ble pc 27) (cond (Nat.ble pc 24) (cond (Nat.beq pc 24) (some (21, 1, 18, [1], 27)) none) (cond (Nat.beq pc 27) (some (2, 0, 0, [], 28)) none)) (cond (Nat.ble pc 28) (cond (Nat.beq pc 28) (some (22, 0, 11, [1], 31)) none) (cond (Nat.ble pc 31) (cond (Nat.beq pc 31) (some (29, 0, 0, [], 32)) none) (cond (Nat.beq pc 32) (some (16, 3, 64, [], 35)) none)))))) (cond (Nat.ble pc 49) (cond (Nat.ble pc 40) (cond (Nat.ble pc 36) (cond (Nat.ble pc 35) (cond (Nat.beq pc 35) (some (2, 0, 0, [], 36)) none) (cond (Nat.beq pc 36) (some (22, 0, 11, [1], 39)) none)) (cond (Nat.ble pc 39) (cond (Nat.beq pc 39) (some (2, 0, 0, [], 40)) none) (cond (Nat.beq pc 40) (some (21, 1, 18, [1], 43)) none))) (cond (Nat.ble pc 44) (cond (Nat.ble pc 43) (cond (Nat.beq pc 43) (some (27, 0, 0, [], 44)) none) (cond (Nat.beq pc 44) (some (4, 0, 2, [], 45)) none)) (cond (Nat.ble pc 45) (cond (Nat.beq pc 45) (some (2, 0, 2, [], 46)) none) (cond (Nat.ble pc 46) (cond (Nat.beq pc 46) (some (18, 0, 64, [], 49)) none) (cond (Nat.beq pc 49) (some (2, 0, 2, [], 50)) none))))) (cond (Nat.ble pc 55) (cond (Nat.ble pc 51) (cond (Nat.ble pc 50) (cond (Nat.beq pc 50) (some (2, 0, 1, [], 51)) none) (cond (Nat.beq pc 51) (some (40, 25, 52, [], 54)) none)) (cond (Nat.ble pc 54) (cond (Nat.beq pc 54) (some (2, 0, 0, [], 55)) none) (cond (Nat.beq pc 55) (some (12, 0, 0, [], 56)) none))) (cond (Nat.ble pc 59) (cond (Nat.ble pc 56) (cond (Nat.beq pc 56) (some (21, 1, 18, [1], 59)) none) (cond (Nat.beq pc 59) (some (0, 1, 0, [], 60)) none)) (cond (Nat.ble pc 60) (cond (Nat.beq pc 60) (some (6, 0, 0, [], 61)) none) (cond (Nat.ble pc 61) (cond (Nat.beq pc 61) (some (23, 1, 18, [1], 64)) none) (cond (Nat.beq pc 64) (some (44, 0, 0, [], 65)) none))))))) none
def qc17 (pc : Nat) : Option qX := cond (Nat.ble pc 64) (cond (Nat.ble pc 27) (cond (Nat.ble pc 15) (cond (Nat.ble pc 4) (cond (Nat.ble pc 1) (cond (Nat.ble pc 0) (cond (Nat.beq pc 0) (some (0, 1, 0, [], 1)) none) (cond (Nat.beq pc 1) (some (3, 0, 1, [], 2)) none)) (cond (Nat.ble pc 2) (cond (Nat.beq pc 2) (some (1, 0, 1, [], 3)) none) (cond (Nat.ble pc 3) (cond (Nat.beq pc 3) (some (2, 0, 0, [], 4)) none) (cond (Nat.beq pc 4) (some (22, 0, 11, [1], 7)) none)))) (cond (Nat.ble pc 8) (cond (Nat.ble pc 7) (cond (Nat.beq pc 7) (some (29, 0, 0, [], 8)) none) (cond (Nat.beq pc 8) (some (16, 3, 47, [], 11)) none)) (cond (Nat.ble pc 11) (cond (Nat.beq pc 11) (some (2, 0, 0, [], 12)) none) (cond (Nat.ble pc 12) (cond (Nat.beq pc 12) (some (22, 0, 11, [1], 15)) none) (cond (Nat.beq pc 15) (some (1, 0, 1, [], 16)) none))))) (cond (Nat.ble pc 20) (cond (Nat.ble pc 17) (cond (Nat.ble pc 16) (cond (Nat.beq pc 16) (some (0, 1, 0, [], 17)) none) (cond (Nat.beq pc 17) (some (7, 0, 0, [], 18)) none)) (cond (Nat.ble pc 18) (cond (Nat.beq pc 18) (some (27, 0, 0, [], 19)) none) (cond (Nat.ble pc 19) (cond (Nat.beq pc 19) (some (4, 0, 2, [], 20)) none) (cond (Nat.beq pc 20) (some (2, 0, 0, [], 21)) none)))) (cond (Nat.ble pc 24) (cond (Nat.ble pc 21) (cond (Nat.beq pc 21) (some (22, 0, 11, [1], 24)) none) (cond (Nat.beq pc 24) (some (1, 0, 1, [], 25)) none)) (cond (Nat.ble pc 25) (cond (Nat.beq pc 25) (some (0, 1, 0, [], 26)) none) (cond (Nat.ble pc 26) (cond (Nat.beq pc 26) (some (7, 0, 0, [], 27)) none) (cond (Nat.beq pc 27) (some (2, 0, 0, [], 28)) none)))))) (cond (Nat.ble pc 41) (cond (Nat.ble pc 34) (cond (Nat.ble pc 31) (cond (Nat.ble pc 28) (cond (Nat.beq pc 28) (some (22, 0, 11, [1], 31)) none) (cond (Nat.beq pc 31) (some (1, 0, 1, [], 32)) none)) (cond (Nat.ble pc 32) (cond (Nat.beq pc 32) (some (27, 0, 0, [], 33)) none) (cond (Nat.ble pc 33) (cond (Nat.beq pc 33) (some (28, 0, 0, [], 34)) none) (cond (Nat.beq pc 34) (some (2, 0, 0, [], 35)) none)))) (cond (Nat.ble pc 38) (cond (Nat.ble pc 35) (cond (Nat.beq pc 35) (some (22, 0, 11, [1], 38)) none) (cond (Nat.beq pc 38) (some (1, 0, 1, [], 39)) none)) (cond (Nat.ble pc 39) (cond (Nat.beq pc 39) (some (2, 0, 2, [], 40)) none) (cond (Nat.ble pc 40) (cond (Nat.beq pc 40) (some (28, 0, 0, [], 41)) none) (cond (Nat.beq pc 41) (some (5, 1, 1, [], 44)) none))))) (cond (Nat.ble pc 54) (cond (Nat.ble pc 47) (cond (Nat.ble pc 44) (cond (Nat.beq pc 44) (some (15, 0, 2, [], 47)) none) (cond (Nat.beq pc 47) (some (2, 0, 0, [], 48)) none)) (cond (Nat.ble pc 48) (cond (Nat.beq pc 48) (some (21, 1, 18, [1], 51)) none) (cond (Nat.ble pc 51) (cond (Nat.beq pc 51) (some (17, 5, 64, [], 54)) none) (cond (Nat.beq pc 54) (some (2, 0, 0, [], 55)) none)))) (cond (Nat.ble pc 59) (cond (Nat.ble pc 55) (cond (Nat.beq pc 55) (some (12, 0, 0, [], 56)) none) (cond (Nat.ble pc 56) (cond (Nat.beq pc 56) (some (21, 1, 18, [1], 59)) none) (cond (Nat.beq pc 59) (some (0, 1, 0, [], 60)) none))) (cond (Nat.ble pc 60) (cond (Nat.beq pc 60) (some (7, 0, 0, [], 61)) none) (cond (Nat.ble pc 61) (cond (Nat.beq pc 61) (some (23, 1, 18, [1], 64)) none) (cond (Nat.beq pc 64) (some (44, 0, 0, [], 65)) none))))))) none
def qc18 (pc : Nat) : Option qX := cond (Nat.ble pc 50) (cond (Nat.ble pc 27) (cond (Nat.ble pc 12) (cond (Nat.ble pc 4) (cond (Nat.ble pc 0) (cond (Nat.beq pc 0) (some (2, 0, 0, [], 1)) none) (cond (Nat.ble pc 1) (cond (Nat.beq pc 1) (some (21, 1, 18, [1], 4)) none) (cond (Nat.beq pc 4) (some (17, 5, 50, [], 7)) none))) (cond (Nat.ble pc 8) (cond (Nat.ble pc 7) (cond (Nat.beq pc 7) (some (2, 0, 0, [], 8)) none) (cond (Nat.beq pc 8) (some (21, 1, 18, [1], 11)) none)) (cond (Nat.ble pc 11) (cond (Nat.beq pc 11) (some (2, 0, 0, [], 12)) none) (cond (Nat.beq pc 12) (some (22, 0, 11, [1], 15)) none)))) (cond (Nat.ble pc 19) (cond (Nat.ble pc 15) (cond (Nat.beq pc 15) (some (29, 0, 0, [], 16)) none) (cond (Nat.ble pc 16) (cond (Nat.beq pc 16) (some (16, 4, 50, [], 19)) none) (cond (Nat.beq pc 19) (some (2, 0, 0, [], 20)) none))) (cond (Nat.ble pc 23) (cond (Nat.ble pc 20) (cond (Nat.beq pc 20) (some (22, 0, 11, [1], 23)) none) (cond (Nat.beq pc 23) (some (2, 0, 0, [], 24)) none)) (cond (Nat.ble pc 24) (cond (Nat.beq pc 24) (some (21, 1, 18, [1], 27)) none) (cond (Nat.beq pc 27) (some (0, 1, 0, [], 28)) none))))) (cond (Nat.ble pc 36) (cond (Nat.ble pc 30) (cond (Nat.ble pc 28) (cond (Nat.beq pc 28) (some (7, 0, 0, [], 29)) none) (cond (Nat.ble pc 29) (cond (Nat.beq pc 29) (some (27, 0, 0, [], 30)) none) (cond (Nat.beq pc 30) (some (4, 0, 2, [], 31)) none))) (cond (Nat.ble pc 32) (cond (Nat.ble pc 31) (cond (Nat.beq pc 31) (some (2, 0, 2, [], 32)) none) (cond (Nat.beq pc 32) (some (18, 0, 50, [], 35)) none)) (cond (Nat.ble pc 35) (cond (Nat.beq pc 35) (some (2, 0, 1, [], 36)) none) (cond (Nat.beq pc 36) (some (2, 0, 2, [], 37)) none)))) (cond (Nat.ble pc 42) (cond (Nat.ble pc 40) (cond (Nat.ble pc 37) (cond (Nat.beq pc 37) (some (40, 25, 52, [], 40)) none) (cond (Nat.beq pc 40) (some (2, 0, 0, [], 41)) none)) (cond (Nat.ble pc 41) (cond (Nat.beq pc 41) (some (12, 0, 0, [], 42)) none) (cond (Nat.beq pc 42) (some (21, 1, 18, [1], 45)) none))) (cond (Nat.ble pc 46) (cond (Nat.ble pc 45) (cond (Nat.beq pc 45) (some (0, 1, 0, [], 46)) none) (cond (Nat.beq pc 46) (some (7, 0, 0, [], 47)) none)) (cond (Nat.ble pc 47) (cond (Nat.beq pc 47) (some (23, 1, 18, [1], 50)) none) (cond (Nat.beq pc 50) (some (44, 0, 0, [], 51)) none)))))) none
def qc19 (pc : Nat) : Option qX := cond (Nat.ble pc 30) (cond (Nat.ble pc 11) (cond (Nat.ble pc 4) (cond (Nat.ble pc 0) (cond (Nat.beq pc 0) (some (2, 0, 0, [], 1)) none) (cond (Nat.ble pc 1) (cond (Nat.beq pc 1) (some (34, 0, 3, [], 4)) none) (cond (Nat.beq pc 4) (some (2, 0, 0, [], 5)) none))) (cond (Nat.ble pc 8) (cond (Nat.ble pc 5) (cond (Nat.beq pc 5) (some (32, 0, 9, [4], 8)) none) (cond (Nat.beq pc 8) (some (12, 0, 0, [], 9)) none)) (cond (Nat.ble pc 9) (cond (Nat.beq pc 9) (some (0, 86, 0, [], 11)) none) (cond (Nat.beq pc 11) (some (40, 11, 39, [], 14)) none)))) (cond (Nat.ble pc 21) (cond (Nat.ble pc 17) (cond (Nat.ble pc 14) (cond (Nat.beq pc 14) (some (24, 0, 14, [2], 17)) none) (cond (Nat.beq pc 17) (some (2, 0, 0, [], 18)) none)) (cond (Nat.ble pc 18) (cond (Nat.beq pc 18) (some (32, 0, 9, [4], 21)) none) (cond (Nat.beq pc 21) (some (12, 0, 0, [], 22)) none))) (cond (Nat.ble pc 24) (cond (Nat.ble pc 22) (cond (Nat.beq pc 22) (some (0, 86, 0, [], 24)) none) (cond (Nat.beq pc 24) (some (40, 11, 39, [], 27)) none)) (cond (Nat.ble pc 27) (cond (Nat.beq pc 27) (some (24, 1, 20, [2], 30)) none) (cond (Nat.beq pc 30) (some (44, 0, 0, [], 31)) none))))) none
def qc20 (pc : Nat) : Option qX := cond (Nat.ble pc 7) (cond (Nat.ble pc 1) (cond (Nat.ble pc 0) (cond (Nat.beq pc 0) (some (2, 0, 0, [], 1)) none) (cond (Nat.beq pc 1) (some (22, 0, 14, [2], 4)) none)) (cond (Nat.ble pc 4) (cond (Nat.beq pc 4) (some (40, 23, 40, [], 7)) none) (cond (Nat.beq pc 7) (some (41, 0, 0, [], 8)) none))) none
def qc21 (pc : Nat) : Option qX := cond (Nat.ble pc 16) (cond (Nat.ble pc 5) (cond (Nat.ble pc 1) (cond (Nat.ble pc 0) (cond (Nat.beq pc 0) (some (2, 0, 0, [], 1)) none) (cond (Nat.beq pc 1) (some (22, 0, 14, [2], 4)) none)) (cond (Nat.ble pc 4) (cond (Nat.beq pc 4) (some (1, 0, 1, [], 5)) none) (cond (Nat.beq pc 5) (some (40, 27, 45, [], 8)) none))) (cond (Nat.ble pc 9) (cond (Nat.ble pc 8) (cond (Nat.beq pc 8) (some (2, 0, 0, [], 9)) none) (cond (Nat.beq pc 9) (some (22, 1, 20, [2], 12)) none)) (cond (Nat.ble pc 12) (cond (Nat.beq pc 12) (some (1, 0, 1, [], 13)) none) (cond (Nat.ble pc 13) (cond (Nat.beq pc 13) (some (40, 27, 45, [], 16)) none) (cond (Nat.beq pc 16) (some (44, 0, 0, [], 17)) none))))) none
def qc22 (pc : Nat) : Option qX := cond (Nat.ble pc 8) (cond (Nat.ble pc 1) (cond (Nat.ble pc 0) (cond (Nat.beq pc 0) (some (2, 0, 0, [], 1)) none) (cond (Nat.beq pc 1) (some (22, 0, 14, [2], 4)) none)) (cond (Nat.ble pc 4) (cond (Nat.beq pc 4) (some (1, 0, 1, [], 5)) none) (cond (Nat.ble pc 5) (cond (Nat.beq pc 5) (some (40, 30, 42, [], 8)) none) (cond (Nat.beq pc 8) (some (41, 0, 0, [], 9)) none)))) none
def qc23 (pc : Nat) : Option qX := cond (Nat.ble pc 8) (cond (Nat.ble pc 1) (cond (Nat.ble pc 0) (cond (Nat.beq pc 0) (some (2, 0, 0, [], 1)) none) (cond (Nat.beq pc 1) (some (22, 1, 20, [2], 4)) none)) (cond (Nat.ble pc 4) (cond (Nat.beq pc 4) (some (1, 0, 1, [], 5)) none) (cond (Nat.ble pc 5) (cond (Nat.beq pc 5) (some (40, 30, 42, [], 8)) none) (cond (Nat.beq pc 8) (some (41, 0, 0, [], 9)) none)))) none
def qc24 (pc : Nat) : Option qX := cond (Nat.ble pc 70) (cond (Nat.ble pc 33) (cond (Nat.ble pc 14) (cond (Nat.ble pc 3) (cond (Nat.ble pc 1) (cond (Nat.ble pc 0) (cond (Nat.beq pc 0) (some (0, 0, 0, [], 1)) none) (cond (Nat.beq pc 1) (some (3, 0, 3, [], 2)) none)) (cond (Nat.ble pc 2) (cond (Nat.beq pc 2) (some (1, 0, 3, [], 3)) none) (cond (Nat.beq pc 3) (some (2, 0, 0, [], 4)) none))) (cond (Nat.ble pc 7) (cond (Nat.ble pc 4) (cond (Nat.beq pc 4) (some (22, 0, 14, [2], 7)) none) (cond (Nat.beq pc 7) (some (40, 23, 40, [], 10)) none)) (cond (Nat.ble pc 10) (cond (Nat.beq pc 10) (some (16, 3, 45, [], 13)) none) (cond (Nat.ble pc 13) (cond (Nat.beq pc 13) (some (2, 0, 0, [], 14)) none) (cond (Nat.beq pc 14) (some (22, 0, 14, [2], 17)) none))))) (cond (Nat.ble pc 22) (cond (Nat.ble pc 18) (cond (Nat.ble pc 17) (cond (Nat.beq pc 17) (some (1, 0, 3, [], 18)) none) (cond (Nat.beq pc 18) (some (40, 30, 42, [], 21)) none)) (cond (Nat.ble pc 21) (cond (Nat.beq pc 21) (some (1, 0, 1, [], 22)) none) (cond (Nat.beq pc 22) (some (16, 1, 39, [], 25)) none))) (cond (Nat.ble pc 26) (cond (Nat.ble pc 25) (cond (Nat.beq pc 25) (some (2, 0, 0, [], 26)) none) (cond (Nat.beq pc 26) (some (22, 1, 20, [2], 29)) none)) (cond (Nat.ble pc 29) (cond (Nat.beq pc 29) (some (1, 0, 3, [], 30)) none) (cond (Nat.ble pc 30) (cond (Nat.beq pc 30) (some (40, 30, 42, [], 33)) none) (cond (Nat.beq pc 33) (some (1, 0, 2, [], 34)) none)))))) (cond (Nat.ble pc 50) (cond (Nat.ble pc 39) (cond (Nat.ble pc 37) (cond (Nat.ble pc 34) (cond (Nat.beq pc 34) (some (16, 1, 39, [], 37)) none) (cond (Nat.beq pc 37) (some (1, 0, 3, [], 38)) none)) (cond (Nat.ble pc 38) (cond (Nat.beq pc 38) (some (41, 0, 0, [], 39)) none) (cond (Nat.beq pc 39) (some (5, 1, 3, [], 42)) none))) (cond (Nat.ble pc 45) (cond (Nat.ble pc 42) (cond (Nat.beq pc 42) (some (15, 0, 2, [], 45)) none) (cond (Nat.beq pc 45) (some (2, 0, 0, [], 46)) none)) (cond (Nat.ble pc 46) (cond (Nat.beq pc 46) (some (22, 0, 14, [2], 49)) none) (cond (Nat.ble pc 49) (cond (Nat.beq pc 49) (some (1, 0, 1, [], 50)) none) (cond (Nat.beq pc 50) (some (40, 34, 44, [], 53)) none))))) (cond (Nat.ble pc 61) (cond (Nat.ble pc 54) (cond (Nat.ble pc 53) (cond (Nat.beq pc 53) (some (2, 0, 0, [], 54)) none) (cond (Nat.beq pc 54) (some (22, 1, 20, [2], 57)) none)) (cond (Nat.ble pc 57) (cond (Nat.beq pc 57) (some (1, 0, 2, [], 58)) none) (cond (Nat.ble pc 58) (cond (Nat.beq pc 58) (some (40, 34, 44, [], 61)) none) (cond (Nat.beq pc 61) (some (2, 0, 0, [], 62)) none)))) (cond (Nat.ble pc 65) (cond (Nat.ble pc 62) (cond (Nat.beq pc 62) (some (22, 0, 14, [2], 65)) none) (cond (Nat.beq pc 65) (some (40, 23, 40, [], 68)) none)) (cond (Nat.ble pc 68) (cond (Nat.beq pc 68) (some (0, 1, 0, [], 69)) none) (cond (Nat.ble pc 69) (cond (Nat.beq pc 69) (some (7, 0, 0, [], 70)) none) (cond (Nat.beq pc 70) (some (41, 0, 0, [], 71)) none))))))) none
def qc25 (pc : Nat) : Option qX := cond (Nat.ble pc 40) (cond (Nat.ble pc 18) (cond (Nat.ble pc 7) (cond (Nat.ble pc 2) (cond (Nat.ble pc 0) (cond (Nat.beq pc 0) (some (1, 0, 1, [], 1)) none) (cond (Nat.ble pc 1) (cond (Nat.beq pc 1) (some (3, 0, 3, [], 2)) none) (cond (Nat.beq pc 2) (some (0, 0, 0, [], 3)) none))) (cond (Nat.ble pc 3) (cond (Nat.beq pc 3) (some (3, 0, 4, [], 5)) none) (cond (Nat.ble pc 5) (cond (Nat.beq pc 5) (some (1, 0, 4, [], 7)) none) (cond (Nat.beq pc 7) (some (0, 4, 0, [], 8)) none)))) (cond (Nat.ble pc 12) (cond (Nat.ble pc 8) (cond (Nat.beq pc 8) (some (16, 3, 39, [], 11)) none) (cond (Nat.ble pc 11) (cond (Nat.beq pc 11) (some (1, 0, 3, [], 12)) none) (cond (Nat.beq pc 12) (some (0, (-9), 0, [], 14)) none))) (cond (Nat.ble pc 14) (cond (Nat.beq pc 14) (some (16, 0, 39, [], 17)) none) (cond (Nat.ble pc 17) (cond (Nat.beq pc 17) (some (1, 0, 3, [], 18)) none) (cond (Nat.beq pc 18) (some (1, 0, 2, [], 19)) none))))) (cond (Nat.ble pc 28) (cond (Nat.ble pc 23) (cond (Nat.ble pc 19) (cond (Nat.beq pc 19) (some (16, 1, 24, [], 22)) none) (cond (Nat.ble pc 22) (cond (Nat.beq pc 22) (some (0, 1, 0, [], 23)) none) (cond (Nat.beq pc 23) (some (42, 0, 0, [], 24)) none))) (cond (Nat.ble pc 24) (cond (Nat.beq pc 24) (some (2, 0, 0, [], 25)) none) (cond (Nat.ble pc 25) (cond (Nat.beq pc 25) (some (22, 1, 20, [2], 28)) none) (cond (Nat.beq pc 28) (some (1, 0, 3, [], 29)) none)))) (cond (Nat.ble pc 33) (cond (Nat.ble pc 29) (cond (Nat.beq pc 29) (some (40, 30, 42, [], 32)) none) (cond (Nat.ble pc 32) (cond (Nat.beq pc 32) (some (3, 0, 3, [], 33)) none) (cond (Nat.beq pc 33) (some (5, 1, 4, [], 36)) none))) (cond (Nat.ble pc 36) (cond (Nat.beq pc 36) (some (15, 0, 5, [], 39)) none) (cond (Nat.ble pc 39) (cond (Nat.beq pc 39) (some (0, 0, 0, [], 40)) none) (cond (Nat.beq pc 40) (some (42, 0, 0, [], 41)) none)))))) none
def qc26 (pc : Nat) : Option qX := cond (Nat.ble pc 61) (cond (Nat.ble pc 30) (cond (Nat.ble pc 12) (cond (Nat.ble pc 4) (cond (Nat.ble pc 0) (cond (Nat.beq pc 0) (some (2, 0, 0, [], 1)) none) (cond (Nat.ble pc 1) (cond (Nat.beq pc 1) (some (34, 0, 3, [], 4)) none) (cond (Nat.beq pc 4) (some (2, 0, 0, [], 5)) none))) (cond (Nat.ble pc 8) (cond (Nat.ble pc 5) (cond (Nat.beq pc 5) (some (32, 0, 9, [2], 8)) none) (cond (Nat.beq pc 8) (some (12, 0, 0, [], 9)) none)) (cond (Nat.ble pc 9) (cond (Nat.beq pc 9) (some (40, 11, 19, [], 12)) none) (cond (Nat.beq pc 12) (some (24, 0, 12, [3], 15)) none)))) (cond (Nat.ble pc 20) (cond (Nat.ble pc 16) (cond (Nat.ble pc 15) (cond (Nat.beq pc 15) (some (2, 0, 0, [], 16)) none) (cond (Nat.beq pc 16) (some (32, 0, 18, [0], 19)) none)) (cond (Nat.ble pc 19) (cond (Nat.beq pc 19) (some (12, 0, 0, [], 20)) none) (cond (Nat.beq pc 20) (some (40, 20, 0, [], 23)) none))) (cond (Nat.ble pc 26) (cond (Nat.ble pc 23) (cond (Nat.beq pc 23) (some (24, 1, 21, [3], 26)) none) (cond (Nat.beq pc 26) (some (2, 0, 0, [], 27)) none)) (cond (Nat.ble pc 27) (cond (Nat.beq pc 27) (some (32, 0, 25, [4], 30)) none) (cond (Nat.beq pc 30) (some (12, 0, 0, [], 31)) none))))) (cond (Nat.ble pc 45) (cond (Nat.ble pc 39) (cond (Nat.ble pc 33) (cond (Nat.ble pc 31) (cond (Nat.beq pc 31) (some (0, 10, 0, [], 33)) none) (cond (Nat.beq pc 33) (some (40, 27, 39, [], 36)) none)) (cond (Nat.ble pc 36) (cond (Nat.beq pc 36) (some (24, 2, 30, [3], 39)) none) (cond (Nat.beq pc 39) (some (2, 0, 0, [], 40)) none))) (cond (Nat.ble pc 41) (cond (Nat.ble pc 40) (cond (Nat.beq pc 40) (some (0, 0, 0, [], 41)) none) (cond (Nat.beq pc 41) (some (23, 3, 34, [3], 44)) none)) (cond (Nat.ble pc 44) (cond (Nat.beq pc 44) (some (2, 0, 0, [], 45)) none) (cond (Nat.beq pc 45) (some (0, 0, 0, [], 46)) none)))) (cond (Nat.ble pc 52) (cond (Nat.ble pc 49) (cond (Nat.ble pc 46) (cond (Nat.beq pc 46) (some (23, 4, 38, [3], 49)) none) (cond (Nat.beq pc 49) (some (2, 0, 0, [], 50)) none)) (cond (Nat.ble pc 50) (cond (Nat.beq pc 50) (some (0, (-9), 0, [], 52)) none) (cond (Nat.beq pc 52) (some (23, 5, 41, [3], 55)) none))) (cond (Nat.ble pc 56) (cond (Nat.ble pc 55) (cond (Nat.beq pc 55) (some (2, 0, 0, [], 56)) none) (cond (Nat.beq pc 56) (some (0, (-9), 0, [], 58)) none)) (cond (Nat.ble pc 58) (cond (Nat.beq pc 58) (some (23, 6, 44, [3], 61)) none) (cond (Nat.beq pc 61) (some (44, 0, 0, [], 62)) none)))))) none
def qc27 (pc : Nat) : Option qX := cond (Nat.ble pc 45) (cond (Nat.ble pc 23) (cond (Nat.ble pc 9) (cond (Nat.ble pc 4) (cond (Nat.ble pc 0) (cond (Nat.beq pc 0) (some (2, 0, 0, [], 1)) none) (cond (Nat.ble pc 1) (cond (Nat.beq pc 1) (some (22, 0, 12, [3], 4)) none) (cond (Nat.beq pc 4) (some (1, 0, 1, [], 5)) none))) (cond (Nat.ble pc 5) (cond (Nat.beq pc 5) (some (40, 47, 21, [], 8)) none) (cond (Nat.ble pc 8) (cond (Nat.beq pc 8) (some (2, 0, 0, [], 9)) none) (cond (Nat.beq pc 9) (some (22, 1, 21, [3], 12)) none)))) (cond (Nat.ble pc 16) (cond (Nat.ble pc 12) (cond (Nat.beq pc 12) (some (40, 50, 1, [], 15)) none) (cond (Nat.ble pc 15) (cond (Nat.beq pc 15) (some (2, 0, 0, [], 16)) none) (cond (Nat.beq pc 16) (some (22, 2, 30, [3], 19)) none))) (cond (Nat.ble pc 19) (cond (Nat.beq pc 19) (some (0, 0, 0, [], 20)) none) (cond (Nat.ble pc 20) (cond (Nat.beq pc 20) (some (40, 53, 45, [], 23)) none) (cond (Nat.beq pc 23) (some (2, 0, 0, [], 24)) none))))) (cond (Nat.ble pc 33) (cond (Nat.ble pc 28) (cond (Nat.ble pc 24) (cond (Nat.beq pc 24) (some (0, 0, 0, [], 25)) none) (cond (Nat.ble pc 25) (cond (Nat.beq pc 25) (some (23, 3, 34, [3], 28)) none) (cond (Nat.beq pc 28) (some (2, 0, 0, [], 29)) none))) (cond (Nat.ble pc 29) (cond (Nat.beq pc 29) (some (0, 0, 0, [], 30)) none) (cond (Nat.ble pc 30) (cond (Nat.beq pc 30) (some (23, 4, 38, [3], 33)) none) (cond (Nat.beq pc 33) (some (2, 0, 0, [], 34)) none)))) (cond (Nat.ble pc 39) (cond (Nat.ble pc 34) (cond (Nat.beq pc 34) (some (0, (-9), 0, [], 36)) none) (cond (Nat.ble pc 36) (cond (Nat.beq pc 36) (some (23, 5, 41, [3], 39)) none) (cond (Nat.beq pc 39) (some (2, 0, 0, [], 40)) none))) (cond (Nat.ble pc 40) (cond (Nat.beq pc 40) (some (0, (-9), 0, [], 42)) none) (cond (Nat.ble pc 42) (cond (Nat.beq pc 42) (some (23, 6, 44, [3], 45)) none) (cond (Nat.beq pc 45) (some (44, 0, 0, [], 46)) none)))))) none
def qc28 (pc : Nat) : Option qX := cond (Nat.ble pc 14) (cond (Nat.ble pc 6) (cond (Nat.ble pc 1) (cond (Nat.ble pc 0) (cond (Nat.beq pc 0) (some (2, 0, 0, [], 1)) none) (cond (Nat.beq pc 1) (some (21, 3, 34, [3], 4)) none)) (cond (Nat.ble pc 4) (cond (Nat.beq pc 4) (some (0, 7, 0, [], 6)) none) (cond (Nat.beq pc 6) (some (16, 1, 13, [], 9)) none))) (cond (Nat.ble pc 10) (cond (Nat.ble pc 9) (cond (Nat.beq pc 9) (some (0, 1, 0, [], 10)) none) (cond (Nat.beq pc 10) (some (15, 0, 14, [], 13)) none)) (cond (Nat.ble pc 13) (cond (Nat.beq pc 13) (some (0, 0, 0, [], 14)) none) (cond (Nat.beq pc 14) (some (42, 0, 0, [], 15)) none)))) none
def qc29 (pc : Nat) : Option qX := cond (Nat.ble pc 152) (cond (Nat.ble pc 94) (cond (Nat.ble pc 67) (cond (Nat.ble pc 11) (cond (Nat.ble pc 3) (cond (Nat.ble pc 0) (cond (Nat.beq pc 0) (some (1, 0, 1, [], 1)) none) (cond (Nat.ble pc 1) (cond (Nat.beq pc 1) (some (0, 32, 0, [], 3)) none) (cond (Nat.beq pc 3) (some (16, 1, 12, [], 6)) none))) (cond (Nat.ble pc 7) (cond (Nat.ble pc 6) (cond (Nat.beq pc 6) (some (2, 0, 0, [], 7)) none) (cond (Nat.beq pc 7) (some (40, 54, 31, [], 10)) none)) (cond (Nat.ble pc 10) (cond (Nat.beq pc 10) (some (0, 1, 0, [], 11)) none) (cond (Nat.beq pc 11) (some (42, 0, 0, [], 12)) none)))) (cond (Nat.ble pc 60) (cond (Nat.ble pc 13) (cond (Nat.ble pc 12) (cond (Nat.beq pc 12) (some (2, 0, 0, [], 13)) none) (cond (Nat.beq pc 13) (some (21, 3, 34, [3], 16)) none)) (cond (Nat.ble pc 16) (cond (Nat.beq pc 16) (some (20, 0, 151, [60, 68, 87, 93, 99, 124, 145], 60)) none) (cond (Nat.beq pc 60) (some (2, 0, 0, [], 61)) none))) (cond (Nat.ble pc 62) (cond (Nat.ble pc 61) (cond (Nat.beq pc 61) (some (1, 0, 1, [], 62)) none) (cond (Nat.beq pc 62) (some (0, (-9), 0, [], 64)) none)) (cond (Nat.ble pc 64) (cond (Nat.beq pc 64) (some (40, 57, 32, [], 67)) none) (cond (Nat.beq pc 67) (some (42, 0, 0, [], 68)) none))))) (cond (Nat.ble pc 82) (cond (Nat.ble pc 74) (cond (Nat.ble pc 69) (cond (Nat.ble pc 68) (cond (Nat.beq pc 68) (some (1, 0, 1, [], 69)) none) (cond (Nat.beq pc 69) (some (0, 125, 0, [], 71)) none)) (cond (Nat.ble pc 71) (cond (Nat.beq pc 71) (some (16, 1, 81, [], 74)) none) (cond (Nat.beq pc 74) (some (2, 0, 0, [], 75)) none))) (cond (Nat.ble pc 78) (cond (Nat.ble pc 75) (cond (Nat.beq pc 75) (some (40, 61, 33, [], 78)) none) (cond (Nat.beq pc 78) (some (15, 0, 86, [], 81)) none)) (cond (Nat.ble pc 81) (cond (Nat.beq pc 81) (some (2, 0, 0, [], 82)) none) (cond (Nat.beq pc 82) (some (1, 0, 1, [], 83)) none)))) (cond (Nat.ble pc 88) (cond (Nat.ble pc 86) (cond (Nat.ble pc 83) (cond (Nat.beq pc 83) (some (40, 65, 34, [], 86)) none) (cond (Nat.beq pc 86) (some (42, 0, 0, [], 87)) none)) (cond (Nat.ble pc 87) (cond (Nat.beq pc 87) (some (2, 0, 0, [], 88)) none) (cond (Nat.beq pc 88) (some (1, 0, 1, [], 89)) none))) (cond (Nat.ble pc 92) (cond (Nat.ble pc 89) (cond (Nat.beq pc 89) (some (40, 65, 34, [], 92)) none) (cond (Nat.beq pc 92) (some (42, 0, 0, [], 93)) none)) (cond (Nat.ble pc 93) (cond (Nat.beq pc 93) (some (2, 0, 0, [], 94)) none) (cond (Nat.beq pc 94) (some (1, 0, 1, [], 95)) none)))))) (cond (Nat.ble pc 124) (cond (Nat.ble pc 108) (cond (Nat.ble pc 100) (cond (Nat.ble pc 98) (cond (Nat.ble pc 95) (cond (Nat.beq pc 95) (some (40, 69, 35, [], 98)) none) (cond (Nat.beq pc 98) (some (42, 0, 0, [], 99)) none)) (cond (Nat.ble pc 99) (cond (Nat.beq pc 99) (some (1, 0, 1, [], 100)) none) (cond (Nat.beq pc 100) (some (40, 72, 30, [], 103)) none))) (cond (Nat.ble pc 106) (cond (Nat.ble pc 103) (cond (Nat.beq pc 103) (some (17, 0, 114, [], 106)) none) (cond (Nat.beq pc 106) (some (2, 0, 0, [], 107)) none)) (cond (Nat.ble pc 107) (cond (Nat.beq pc 107) (some (1, 0, 1, [], 108)) none) (cond (Nat.beq pc 108) (some (40, 75, 36, [], 111)) none)))) (cond (Nat.ble pc 116) (cond (Nat.ble pc 114) (cond (Nat.ble pc 111) (cond (Nat.beq pc 111) (some (15, 0, 123, [], 114)) none) (cond (Nat.beq pc 114) (some (2, 0, 0, [], 115)) none)) (cond (Nat.ble pc 115) (cond (Nat.beq pc 115) (some (1, 0, 1, [], 116)) none) (cond (Nat.beq pc 116) (some (2, 0, 0, [], 117)) none))) (cond (Nat.ble pc 120) (cond (Nat.ble pc 117) (cond (Nat.beq pc 117) (some (21, 6, 44, [3], 120)) none) (cond (Nat.beq pc 120) (some (40, 57, 32, [], 123)) none)) (cond (Nat.ble pc 123) (cond (Nat.beq pc 123) (some (42, 0, 0, [], 124)) none) (cond (Nat.beq pc 124) (some (1, 0, 1, [], 125)) none))))) (cond (Nat.ble pc 140) (cond (Nat.ble pc 132) (cond (Nat.ble pc 128) (cond (Nat.ble pc 125) (cond (Nat.beq pc 125) (some (40, 72, 30, [], 128)) none) (cond (Nat.beq pc 128) (some (17, 0, 139, [], 131)) none)) (cond (Nat.ble pc 131) (cond (Nat.beq pc 131) (some (2, 0, 0, [], 132)) none) (cond (Nat.beq pc 132) (some (1, 0, 1, [], 133)) none))) (cond (Nat.ble pc 136) (cond (Nat.ble pc 133) (cond (Nat.beq pc 133) (some (40, 78, 37, [], 136)) none) (cond (Nat.beq pc 136) (some (15, 0, 144, [], 139)) none)) (cond (Nat.ble pc 139) (cond (Nat.beq pc 139) (some (2, 0, 0, [], 140)) none) (cond (Nat.beq pc 140) (some (1, 0, 1, [], 141)) none)))) (cond (Nat.ble pc 146) (cond (Nat.ble pc 144) (cond (Nat.ble pc 141) (cond (Nat.beq pc 141) (some (40, 81, 38, [], 144)) none) (cond (Nat.beq pc 144) (some (42, 0, 0, [], 145)) none)) (cond (Nat.ble pc 145) (cond (Nat.beq pc 145) (some (2, 0, 0, [], 146)) none) (cond (Nat.beq pc 146) (some (1, 0, 1, [], 147)) none))) (cond (Nat.ble pc 150) (cond (Nat.ble pc 147) (cond (Nat.beq pc 147) (some (40, 81, 38, [], 150)) none) (cond (Nat.beq pc 150) (some (42, 0, 0, [], 151)) none)) (cond (Nat.ble pc 151) (cond (Nat.beq pc 151) (some (0, 0, 0, [], 152)) none) (cond (Nat.beq pc 152) (some (42, 0, 0, [], 153)) none))))))) none
def qc30 (pc : Nat) : Option qX := cond (Nat.ble pc 17) (cond (Nat.ble pc 7) (cond (Nat.ble pc 1) (cond (Nat.ble pc 0) (cond (Nat.beq pc 0) (some (1, 0, 0, [], 1)) none) (cond (Nat.beq pc 1) (some (0, 48, 0, [], 3)) none)) (cond (Nat.ble pc 3) (cond (Nat.beq pc 3) (some (16, 2, 16, [], 6)) none) (cond (Nat.ble pc 6) (cond (Nat.beq pc 6) (some (1, 0, 0, [], 7)) none) (cond (Nat.beq pc 7) (some (0, 57, 0, [], 9)) none)))) (cond (Nat.ble pc 12) (cond (Nat.ble pc 9) (cond (Nat.beq pc 9) (some (16, 4, 16, [], 12)) none) (cond (Nat.beq pc 12) (some (0, 1, 0, [], 13)) none)) (cond (Nat.ble pc 13) (cond (Nat.beq pc 13) (some (15, 0, 17, [], 16)) none) (cond (Nat.ble pc 16) (cond (Nat.beq pc 16) (some (0, 0, 0, [], 17)) none) (cond (Nat.beq pc 17) (some (42, 0, 0, [], 18)) none))))) none
def qc31 (pc : Nat) : Option qX := cond (Nat.ble pc 14) (cond (Nat.ble pc 5) (cond (Nat.ble pc 1) (cond (Nat.ble pc 0) (cond (Nat.beq pc 0) (some (2, 0, 0, [], 1)) none) (cond (Nat.beq pc 1) (some (21, 3, 34, [3], 4)) none)) (cond (Nat.ble pc 4) (cond (Nat.beq pc 4) (some (0, 5, 0, [], 5)) none) (cond (Nat.beq pc 5) (some (16, 1, 14, [], 8)) none))) (cond (Nat.ble pc 9) (cond (Nat.ble pc 8) (cond (Nat.beq pc 8) (some (2, 0, 0, [], 9)) none) (cond (Nat.beq pc 9) (some (0, 6, 0, [], 11)) none)) (cond (Nat.ble pc 11) (cond (Nat.beq pc 11) (some (23, 3, 34, [3], 14)) none) (cond (Nat.beq pc 14) (some (44, 0, 0, [], 15)) none)))) none
def qc32 (pc : Nat) : Option qX := cond (Nat.ble pc 54) (cond (Nat.ble pc 28) (cond (Nat.ble pc 14) (cond (Nat.ble pc 6) (cond (Nat.ble pc 1) (cond (Nat.ble pc 0) (cond (Nat.beq pc 0) (some (1, 0, 1, [], 1)) none) (cond (Nat.beq pc 1) (some (0, 123, 0, [], 3)) none)) (cond (Nat.ble pc 3) (cond (Nat.beq pc 3) (some (16, 1, 14, [], 6)) none) (cond (Nat.beq pc 6) (some (2, 0, 0, [], 7)) none))) (cond (Nat.ble pc 10) (cond (Nat.ble pc 7) (cond (Nat.beq pc 7) (some (21, 4, 38, [3], 10)) none) (cond (Nat.beq pc 10) (some (0, 4, 0, [], 11)) none)) (cond (Nat.ble pc 11) (cond (Nat.beq pc 11) (some (16, 2, 16, [], 14)) none) (cond (Nat.beq pc 14) (some (0, 0, 0, [], 15)) none)))) (cond (Nat.ble pc 19) (cond (Nat.ble pc 16) (cond (Nat.ble pc 15) (cond (Nat.beq pc 15) (some (42, 0, 0, [], 16)) none) (cond (Nat.beq pc 16) (some (1, 0, 2, [], 17)) none)) (cond (Nat.ble pc 17) (cond (Nat.beq pc 17) (some (0, (-9), 0, [], 19)) none) (cond (Nat.beq pc 19) (some (16, 0, 33, [], 22)) none))) (cond (Nat.ble pc 23) (cond (Nat.ble pc 22) (cond (Nat.beq pc 22) (some (2, 0, 0, [], 23)) none) (cond (Nat.beq pc 23) (some (22, 1, 21, [3], 26)) none)) (cond (Nat.ble pc 26) (cond (Nat.beq pc 26) (some (0, 100, 0, [], 28)) none) (cond (Nat.beq pc 28) (some (1, 0, 2, [], 29)) none))))) (cond (Nat.ble pc 40) (cond (Nat.ble pc 34) (cond (Nat.ble pc 30) (cond (Nat.ble pc 29) (cond (Nat.beq pc 29) (some (6, 0, 0, [], 30)) none) (cond (Nat.beq pc 30) (some (40, 84, 2, [], 33)) none)) (cond (Nat.ble pc 33) (cond (Nat.beq pc 33) (some (2, 0, 0, [], 34)) none) (cond (Nat.beq pc 34) (some (1, 0, 2, [], 35)) none))) (cond (Nat.ble pc 38) (cond (Nat.ble pc 35) (cond (Nat.beq pc 35) (some (23, 5, 41, [3], 38)) none) (cond (Nat.beq pc 38) (some (2, 0, 0, [], 39)) none)) (cond (Nat.ble pc 39) (cond (Nat.beq pc 39) (some (12, 0, 0, [], 40)) none) (cond (Nat.beq pc 40) (some (21, 4, 38, [3], 43)) none)))) (cond (Nat.ble pc 48) (cond (Nat.ble pc 44) (cond (Nat.ble pc 43) (cond (Nat.beq pc 43) (some (0, 1, 0, [], 44)) none) (cond (Nat.beq pc 44) (some (6, 0, 0, [], 45)) none)) (cond (Nat.ble pc 45) (cond (Nat.beq pc 45) (some (23, 4, 38, [3], 48)) none) (cond (Nat.beq pc 48) (some (2, 0, 0, [], 49)) none))) (cond (Nat.ble pc 50) (cond (Nat.ble pc 49) (cond (Nat.beq pc 49) (some (0, 1, 0, [], 50)) none) (cond (Nat.beq pc 50) (some (23, 3, 34, [3], 53)) none)) (cond (Nat.ble pc 53) (cond (Nat.beq pc 53) (some (0, 1, 0, [], 54)) none) (cond (Nat.beq pc 54) (some (42, 0, 0, [], 55)) none)))))) none
def qc33 (pc : Nat) : Option qX := cond (Nat.ble pc 44) (cond (Nat.ble pc 20) (cond (Nat.ble pc 6) (cond (Nat.ble pc 1) (cond (Nat.ble pc 0) (cond (Nat.beq pc 0) (some (2, 0, 0, [], 1)) none) (cond (Nat.beq pc 1) (some (2, 0, 0, [], 2)) none)) (cond (Nat.ble pc 2) (cond (Nat.beq pc 2) (some (22, 0, 12, [3], 5)) none) (cond (Nat.ble pc 5) (cond (Nat.beq pc 5) (some (2, 0, 0, [], 6)) none) (cond (Nat.beq pc 6) (some (21, 5, 41, [3], 9)) none)))) (cond (Nat.ble pc 15) (cond (Nat.ble pc 9) (cond (Nat.beq pc 9) (some (40, 87, 23, [], 12)) none) (cond (Nat.ble pc 12) (cond (Nat.beq pc 12) (some (23, 5, 41, [3], 15)) none) (cond (Nat.beq pc 15) (some (2, 0, 0, [], 16)) none))) (cond (Nat.ble pc 16) (cond (Nat.beq pc 16) (some (12, 0, 0, [], 17)) none) (cond (Nat.ble pc 17) (cond (Nat.beq pc 17) (some (21, 4, 38, [3], 20)) none) (cond (Nat.beq pc 20) (some (0, 1, 0, [], 21)) none))))) (cond (Nat.ble pc 30) (cond (Nat.ble pc 25) (cond (Nat.ble pc 21) (cond (Nat.beq pc 21) (some (7, 0, 0, [], 22)) none) (cond (Nat.ble pc 22) (cond (Nat.beq pc 22) (some (23, 4, 38, [3], 25)) none) (cond (Nat.beq pc 25) (some (2, 0, 0, [], 26)) none))) (cond (Nat.ble pc 26) (cond (Nat.beq pc 26) (some (2, 0, 0, [], 27)) none) (cond (Nat.ble pc 27) (cond (Nat.beq pc 27) (some (21, 4, 38, [3], 30)) none) (cond (Nat.beq pc 30) (some (17, 1, 38, [], 33)) none)))) (cond (Nat.ble pc 38) (cond (Nat.ble pc 33) (cond (Nat.beq pc 33) (some (0, 7, 0, [], 35)) none) (cond (Nat.ble pc 35) (cond (Nat.beq pc 35) (some (15, 0, 40, [], 38)) none) (cond (Nat.beq pc 38) (some (0, 6, 0, [], 40)) none))) (cond (Nat.ble pc 40) (cond (Nat.beq pc 40) (some (23, 3, 34, [3], 43)) none) (cond (Nat.ble pc 43) (cond (Nat.beq pc 43) (some (0, 1, 0, [], 44)) none) (cond (Nat.beq pc 44) (some (42, 0, 0, [], 45)) none)))))) none
def qc34 (pc : Nat) : Option qX := cond (Nat.ble pc 71) (cond (Nat.ble pc 31) (cond (Nat.ble pc 14) (cond (Nat.ble pc 6) (cond (Nat.ble pc 1) (cond (Nat.ble pc 0) (cond (Nat.beq pc 0) (some (1, 0, 1, [], 1)) none) (cond (Nat.beq pc 1) (some (0, 97, 0, [], 3)) none)) (cond (Nat.ble pc 3) (cond (Nat.beq pc 3) (some (16, 2, 12, [], 6)) none) (cond (Nat.beq pc 6) (some (1, 0, 1, [], 7)) none))) (cond (Nat.ble pc 9) (cond (Nat.ble pc 7) (cond (Nat.beq pc 7) (some (0, 122, 0, [], 9)) none) (cond (Nat.beq pc 9) (some (16, 5, 14, [], 12)) none)) (cond (Nat.ble pc 12) (cond (Nat.beq pc 12) (some (0, 0, 0, [], 13)) none) (cond (Nat.ble pc 13) (cond (Nat.beq pc 13) (some (42, 0, 0, [], 14)) none) (cond (Nat.beq pc 14) (some (2, 0, 0, [], 15)) none))))) (cond (Nat.ble pc 20) (cond (Nat.ble pc 16) (cond (Nat.ble pc 15) (cond (Nat.beq pc 15) (some (2, 0, 0, [], 16)) none) (cond (Nat.beq pc 16) (some (22, 0, 12, [3], 19)) none)) (cond (Nat.ble pc 19) (cond (Nat.beq pc 19) (some (1, 0, 1, [], 20)) none) (cond (Nat.beq pc 20) (some (2, 0, 0, [], 21)) none))) (cond (Nat.ble pc 24) (cond (Nat.ble pc 21) (cond (Nat.beq pc 21) (some (21, 5, 41, [3], 24)) none) (cond (Nat.beq pc 24) (some (40, 91, 24, [], 27)) none)) (cond (Nat.ble pc 27) (cond (Nat.beq pc 27) (some (23, 6, 44, [3], 30)) none) (cond (Nat.ble pc 30) (cond (Nat.beq pc 30) (some (2, 0, 0, [], 31)) none) (cond (Nat.beq pc 31) (some (0, 3, 0, [], 32)) none)))))) (cond (Nat.ble pc 50) (cond (Nat.ble pc 39) (cond (Nat.ble pc 35) (cond (Nat.ble pc 32) (cond (Nat.beq pc 32) (some (23, 3, 34, [3], 35)) none) (cond (Nat.beq pc 35) (some (2, 0, 0, [], 36)) none)) (cond (Nat.ble pc 36) (cond (Nat.beq pc 36) (some (22, 1, 21, [3], 39)) none) (cond (Nat.beq pc 39) (some (2, 0, 0, [], 40)) none))) (cond (Nat.ble pc 43) (cond (Nat.ble pc 40) (cond (Nat.beq pc 40) (some (21, 6, 44, [3], 43)) none) (cond (Nat.beq pc 43) (some (40, 95, 10, [], 46)) none)) (cond (Nat.ble pc 46) (cond (Nat.beq pc 46) (some (17, 1, 70, [], 49)) none) (cond (Nat.ble pc 49) (cond (Nat.beq pc 49) (some (2, 0, 0, [], 50)) none) (cond (Nat.beq pc 50) (some (22, 1, 21, [3], 53)) none))))) (cond (Nat.ble pc 60) (cond (Nat.ble pc 55) (cond (Nat.ble pc 53) (cond (Nat.beq pc 53) (some (0, 100, 0, [], 55)) none) (cond (Nat.beq pc 55) (some (2, 0, 0, [], 56)) none)) (cond (Nat.ble pc 56) (cond (Nat.beq pc 56) (some (21, 6, 44, [3], 59)) none) (cond (Nat.ble pc 59) (cond (Nat.beq pc 59) (some (6, 0, 0, [], 60)) none) (cond (Nat.beq pc 60) (some (40, 95, 10, [], 63)) none)))) (cond (Nat.ble pc 66) (cond (Nat.ble pc 63) (cond (Nat.beq pc 63) (some (17, 1, 70, [], 66)) none) (cond (Nat.beq pc 66) (some (0, 1, 0, [], 67)) none)) (cond (Nat.ble pc 67) (cond (Nat.beq pc 67) (some (15, 0, 71, [], 70)) none) (cond (Nat.ble pc 70) (cond (Nat.beq pc 70) (some (0, 0, 0, [], 71)) none) (cond (Nat.beq pc 71) (some (42, 0, 0, [], 72)) none))))))) none
def qc35 (pc : Nat) : Option qX := cond (Nat.ble pc 16) (cond (Nat.ble pc 6) (cond (Nat.ble pc 1) (cond (Nat.ble pc 0) (cond (Nat.beq pc 0) (some (2, 0, 0, [], 1)) none) (cond (Nat.beq pc 1) (some (0, 4, 0, [], 2)) none)) (cond (Nat.ble pc 2) (cond (Nat.beq pc 2) (some (23, 3, 34, [3], 5)) none) (cond (Nat.ble pc 5) (cond (Nat.beq pc 5) (some (1, 0, 1, [], 6)) none) (cond (Nat.beq pc 6) (some (0, 58, 0, [], 8)) none)))) (cond (Nat.ble pc 11) (cond (Nat.ble pc 8) (cond (Nat.beq pc 8) (some (16, 1, 15, [], 11)) none) (cond (Nat.beq pc 11) (some (0, 1, 0, [], 12)) none)) (cond (Nat.ble pc 12) (cond (Nat.beq pc 12) (some (15, 0, 16, [], 15)) none) (cond (Nat.ble pc 15) (cond (Nat.beq pc 15) (some (0, 0, 0, [], 16)) none) (cond (Nat.beq pc 16) (some (42, 0, 0, [], 17)) none))))) none
def qc36 (pc : Nat) : Option qX := cond (Nat.ble pc 42) (cond (Nat.ble pc 19) (cond (Nat.ble pc 9) (cond (Nat.ble pc 1) (cond (Nat.ble pc 0) (cond (Nat.beq pc 0) (some (2, 0, 0, [], 1)) none) (cond (Nat.beq pc 1) (some (22, 2, 30, [3], 4)) none)) (cond (Nat.ble pc 4) (cond (Nat.beq pc 4) (some (40, 98, 40, [], 7)) none) (cond (Nat.ble pc 7) (cond (Nat.beq pc 7) (some (0, 10, 0, [], 9)) none) (cond (Nat.beq pc 9) (some (16, 2, 14, [], 12)) none)))) (cond (Nat.ble pc 14) (cond (Nat.ble pc 12) (cond (Nat.beq pc 12) (some (0, 0, 0, [], 13)) none) (cond (Nat.ble pc 13) (cond (Nat.beq pc 13) (some (42, 0, 0, [], 14)) none) (cond (Nat.beq pc 14) (some (2, 0, 0, [], 15)) none))) (cond (Nat.ble pc 15) (cond (Nat.beq pc 15) (some (22, 1, 21, [3], 18)) none) (cond (Nat.ble pc 18) (cond (Nat.beq pc 18) (some (2, 0, 0, [], 19)) none) (cond (Nat.beq pc 19) (some (21, 6, 44, [3], 22)) none))))) (cond (Nat.ble pc 32) (cond (Nat.ble pc 26) (cond (Nat.ble pc 22) (cond (Nat.beq pc 22) (some (40, 84, 2, [], 25)) none) (cond (Nat.ble pc 25) (cond (Nat.beq pc 25) (some (2, 0, 0, [], 26)) none) (cond (Nat.beq pc 26) (some (22, 2, 30, [3], 29)) none))) (cond (Nat.ble pc 29) (cond (Nat.beq pc 29) (some (1, 0, 1, [], 30)) none) (cond (Nat.ble pc 30) (cond (Nat.beq pc 30) (some (0, 48, 0, [], 32)) none) (cond (Nat.beq pc 32) (some (7, 0, 0, [], 33)) none)))) (cond (Nat.ble pc 37) (cond (Nat.ble pc 33) (cond (Nat.beq pc 33) (some (40, 102, 44, [], 36)) none) (cond (Nat.ble pc 36) (cond (Nat.beq pc 36) (some (2, 0, 0, [], 37)) none) (cond (Nat.beq pc 37) (some (0, 5, 0, [], 38)) none))) (cond (Nat.ble pc 38) (cond (Nat.beq pc 38) (some (23, 3, 34, [3], 41)) none) (cond (Nat.ble pc 41) (cond (Nat.beq pc 41) (some (0, 1, 0, [], 42)) none) (cond (Nat.beq pc 42) (some (42, 0, 0, [], 43)) none)))))) none
def qc37 (pc : Nat) : Option qX := cond (Nat.ble pc 49) (cond (Nat.ble pc 24) (cond (Nat.ble pc 10) (cond (Nat.ble pc 4) (cond (Nat.ble pc 0) (cond (Nat.beq pc 0) (some (2, 0, 0, [], 1)) none) (cond (Nat.ble pc 1) (cond (Nat.beq pc 1) (some (22, 2, 30, [3], 4)) none) (cond (Nat.beq pc 4) (some (40, 98, 40, [], 7)) none))) (cond (Nat.ble pc 8) (cond (Nat.ble pc 7) (cond (Nat.beq pc 7) (some (0, 1, 0, [], 8)) none) (cond (Nat.beq pc 8) (some (7, 0, 0, [], 9)) none)) (cond (Nat.ble pc 9) (cond (Nat.beq pc 9) (some (3, 0, 2, [], 10)) none) (cond (Nat.beq pc 10) (some (2, 0, 0, [], 11)) none)))) (cond (Nat.ble pc 18) (cond (Nat.ble pc 14) (cond (Nat.ble pc 11) (cond (Nat.beq pc 11) (some (22, 2, 30, [3], 14)) none) (cond (Nat.beq pc 14) (some (1, 0, 2, [], 15)) none)) (cond (Nat.ble pc 15) (cond (Nat.beq pc 15) (some (40, 103, 42, [], 18)) none) (cond (Nat.beq pc 18) (some (3, 0, 3, [], 19)) none))) (cond (Nat.ble pc 20) (cond (Nat.ble pc 19) (cond (Nat.beq pc 19) (some (1, 0, 3, [], 20)) none) (cond (Nat.beq pc 20) (some (17, 5, 29, [], 23)) none)) (cond (Nat.ble pc 23) (cond (Nat.beq pc 23) (some (1, 0, 3, [], 24)) none) (cond (Nat.beq pc 24) (some (0, 99, 0, [], 26)) none))))) (cond (Nat.ble pc 37) (cond (Nat.ble pc 31) (cond (Nat.ble pc 29) (cond (Nat.ble pc 26) (cond (Nat.beq pc 26) (some (16, 5, 31, [], 29)) none) (cond (Nat.beq pc 29) (some (0, 0, 0, [], 30)) none)) (cond (Nat.ble pc 30) (cond (Nat.beq pc 30) (some (42, 0, 0, [], 31)) none) (cond (Nat.beq pc 31) (some (2, 0, 0, [], 32)) none))) (cond (Nat.ble pc 35) (cond (Nat.ble pc 32) (cond (Nat.beq pc 32) (some (22, 2, 30, [3], 35)) none) (cond (Nat.beq pc 35) (some (1, 0, 2, [], 36)) none)) (cond (Nat.ble pc 36) (cond (Nat.beq pc 36) (some (1, 0, 3, [], 37)) none) (cond (Nat.beq pc 37) (some (0, 10, 0, [], 39)) none)))) (cond (Nat.ble pc 42) (cond (Nat.ble pc 40) (cond (Nat.ble pc 39) (cond (Nat.beq pc 39) (some (8, 0, 0, [], 40)) none) (cond (Nat.beq pc 40) (some (1, 0, 1, [], 41)) none)) (cond (Nat.ble pc 41) (cond (Nat.beq pc 41) (some (6, 0, 0, [], 42)) none) (cond (Nat.beq pc 42) (some (0, 48, 0, [], 44)) none))) (cond (Nat.ble pc 45) (cond (Nat.ble pc 44) (cond (Nat.beq pc 44) (some (7, 0, 0, [], 45)) none) (cond (Nat.beq pc 45) (some (40, 106, 43, [], 48)) none)) (cond (Nat.ble pc 48) (cond (Nat.beq pc 48) (some (0, 1, 0, [], 49)) none) (cond (Nat.beq pc 49) (some (42, 0, 0, [], 50)) none)))))) none
def qc38 (pc : Nat) : Option qX := cond (Nat.ble pc 27) (cond (Nat.ble pc 12) (cond (Nat.ble pc 6) (cond (Nat.ble pc 1) (cond (Nat.ble pc 0) (cond (Nat.beq pc 0) (some (1, 0, 1, [], 1)) none) (cond (Nat.beq pc 1) (some (0, 125, 0, [], 3)) none)) (cond (Nat.ble pc 3) (cond (Nat.beq pc 3) (some (16, 1, 11, [], 6)) none) (cond (Nat.beq pc 6) (some (2, 0, 0, [], 7)) none))) (cond (Nat.ble pc 10) (cond (Nat.ble pc 7) (cond (Nat.beq pc 7) (some (40, 61, 33, [], 10)) none) (cond (Nat.beq pc 10) (some (42, 0, 0, [], 11)) none)) (cond (Nat.ble pc 11) (cond (Nat.beq pc 11) (some (2, 0, 0, [], 12)) none) (cond (Nat.beq pc 12) (some (0, 2, 0, [], 13)) none)))) (cond (Nat.ble pc 19) (cond (Nat.ble pc 16) (cond (Nat.ble pc 13) (cond (Nat.beq pc 13) (some (23, 3, 34, [3], 16)) none) (cond (Nat.beq pc 16) (some (1, 0, 1, [], 17)) none)) (cond (Nat.ble pc 17) (cond (Nat.beq pc 17) (some (0, 44, 0, [], 19)) none) (cond (Nat.beq pc 19) (some (16, 1, 26, [], 22)) none))) (cond (Nat.ble pc 23) (cond (Nat.ble pc 22) (cond (Nat.beq pc 22) (some (0, 1, 0, [], 23)) none) (cond (Nat.beq pc 23) (some (15, 0, 27, [], 26)) none)) (cond (Nat.ble pc 26) (cond (Nat.beq pc 26) (some (0, 0, 0, [], 27)) none) (cond (Nat.beq pc 27) (some (42, 0, 0, [], 28)) none))))) none
def qc39 (pc : Nat) : Option qX := cond (Nat.ble pc 20) (cond (Nat.ble pc 7) (cond (Nat.ble pc 4) (cond (Nat.ble pc 0) (cond (Nat.beq pc 0) (some (2, 0, 0, [], 1)) none) (cond (Nat.ble pc 1) (cond (Nat.beq pc 1) (some (34, 0, 3, [], 4)) none) (cond (Nat.beq pc 4) (some (2, 0, 0, [], 5)) none))) (cond (Nat.ble pc 5) (cond (Nat.beq pc 5) (some (0, 0, 0, [], 6)) none) (cond (Nat.ble pc 6) (cond (Nat.beq pc 6) (some (1, 0, 1, [], 7)) none) (cond (Nat.beq pc 7) (some (33, 0, 9, [], 10)) none)))) (cond (Nat.ble pc 15) (cond (Nat.ble pc 10) (cond (Nat.beq pc 10) (some (30, 0, 0, [], 12)) none) (cond (Nat.ble pc 12) (cond (Nat.beq pc 12) (some (24, 0, 15, [4], 15)) none) (cond (Nat.beq pc 15) (some (2, 0, 0, [], 16)) none))) (cond (Nat.ble pc 16) (cond (Nat.beq pc 16) (some (0, 0, 0, [], 17)) none) (cond (Nat.ble pc 17) (cond (Nat.beq pc 17) (some (23, 1, 21, [4], 20)) none) (cond (Nat.beq pc 20) (some (44, 0, 0, [], 21)) none))))) none
def qc40 (pc : Nat) : Option qX := cond (Nat.ble pc 4) (cond (Nat.ble pc 0) (cond (Nat.beq pc 0) (some (2, 0, 0, [], 1)) none) (cond (Nat.ble pc 1) (cond (Nat.beq pc 1) (some (21, 1, 21, [4], 4)) none) (cond (Nat.beq pc 4) (some (41, 0, 0, [], 5)) none))) none
def qc41 (pc : Nat) : Option qX := cond (Nat.ble pc 26) (cond (Nat.ble pc 12) (cond (Nat.ble pc 4) (cond (Nat.ble pc 0) (cond (Nat.beq pc 0) (some (1, 0, 1, [], 1)) none) (cond (Nat.ble pc 1) (cond (Nat.beq pc 1) (some (17, 2, 25, [], 4)) none) (cond (Nat.beq pc 4) (some (1, 0, 1, [], 5)) none))) (cond (Nat.ble pc 6) (cond (Nat.ble pc 5) (cond (Nat.beq pc 5) (some (2, 0, 0, [], 6)) none) (cond (Nat.beq pc 6) (some (21, 1, 21, [4], 9)) none)) (cond (Nat.ble pc 9) (cond (Nat.beq pc 9) (some (16, 3, 25, [], 12)) none) (cond (Nat.beq pc 12) (some (1, 0, 1, [], 13)) none)))) (cond (Nat.ble pc 18) (cond (Nat.ble pc 14) (cond (Nat.ble pc 13) (cond (Nat.beq pc 13) (some (2, 0, 0, [], 14)) none) (cond (Nat.beq pc 14) (some (22, 0, 15, [4], 17)) none)) (cond (Nat.ble pc 17) (cond (Nat.beq pc 17) (some (29, 0, 0, [], 18)) none) (cond (Nat.beq pc 18) (some (16, 3, 25, [], 21)) none))) (cond (Nat.ble pc 22) (cond (Nat.ble pc 21) (cond (Nat.beq pc 21) (some (0, 1, 0, [], 22)) none) (cond (Nat.beq pc 22) (some (15, 0, 26, [], 25)) none)) (cond (Nat.ble pc 25) (cond (Nat.beq pc 25) (some (0, 0, 0, [], 26)) none) (cond (Nat.beq pc 26) (some (42, 0, 0, [], 27)) none))))) none
def qc42 (pc : Nat) : Option qX := cond (Nat.ble pc 19) (cond (Nat.ble pc 8) (cond (Nat.ble pc 1) (cond (Nat.ble pc 0) (cond (Nat.beq pc 0) (some (2, 0, 0, [], 1)) none) (cond (Nat.beq pc 1) (some (1, 0, 1, [], 2)) none)) (cond (Nat.ble pc 2) (cond (Nat.beq pc 2) (some (40, 25, 41, [], 5)) none) (cond (Nat.ble pc 5) (cond (Nat.beq pc 5) (some (17, 0, 17, [], 8)) none) (cond (Nat.beq pc 8) (some (2, 0, 0, [], 9)) none)))) (cond (Nat.ble pc 13) (cond (Nat.ble pc 9) (cond (Nat.beq pc 9) (some (22, 0, 15, [4], 12)) none) (cond (Nat.ble pc 12) (cond (Nat.beq pc 12) (some (1, 0, 1, [], 13)) none) (cond (Nat.beq pc 13) (some (25, 0, 0, [], 14)) none))) (cond (Nat.ble pc 14) (cond (Nat.beq pc 14) (some (15, 0, 19, [], 17)) none) (cond (Nat.ble pc 17) (cond (Nat.beq pc 17) (some (0, (-9), 0, [], 19)) none) (cond (Nat.beq pc 19) (some (41, 0, 0, [], 20)) none))))) none
def qc43 (pc : Nat) : Option qX := cond (Nat.ble pc 15) (cond (Nat.ble pc 8) (cond (Nat.ble pc 1) (cond (Nat.ble pc 0) (cond (Nat.beq pc 0) (some (2, 0, 0, [], 1)) none) (cond (Nat.beq pc 1) (some (1, 0, 1, [], 2)) none)) (cond (Nat.ble pc 2) (cond (Nat.beq pc 2) (some (40, 25, 41, [], 5)) none) (cond (Nat.ble pc 5) (cond (Nat.beq pc 5) (some (17, 0, 15, [], 8)) none) (cond (Nat.beq pc 8) (some (2, 0, 0, [], 9)) none)))) (cond (Nat.ble pc 12) (cond (Nat.ble pc 9) (cond (Nat.beq pc 9) (some (22, 0, 15, [4], 12)) none) (cond (Nat.beq pc 12) (some (1, 0, 1, [], 13)) none)) (cond (Nat.ble pc 13) (cond (Nat.beq pc 13) (some (1, 0, 2, [], 14)) none) (cond (Nat.ble pc 14) (cond (Nat.beq pc 14) (some (26, 0, 0, [], 15)) none) (cond (Nat.beq pc 15) (some (44, 0, 0, [], 16)) none))))) none
def qc44 (pc : Nat) : Option qX := cond (Nat.ble pc 39) (cond (Nat.ble pc 20) (cond (Nat.ble pc 8) (cond (Nat.ble pc 1) (cond (Nat.ble pc 0) (cond (Nat.beq pc 0) (some (2, 0, 0, [], 1)) none) (cond (Nat.beq pc 1) (some (21, 1, 21, [4], 4)) none)) (cond (Nat.ble pc 4) (cond (Nat.beq pc 4) (some (17, 2, 39, [], 7)) none) (cond (Nat.ble pc 7) (cond (Nat.beq pc 7) (some (2, 0, 0, [], 8)) none) (cond (Nat.beq pc 8) (some (21, 1, 21, [4], 11)) none)))) (cond (Nat.ble pc 15) (cond (Nat.ble pc 11) (cond (Nat.beq pc 11) (some (2, 0, 0, [], 12)) none) (cond (Nat.ble pc 12) (cond (Nat.beq pc 12) (some (22, 0, 15, [4], 15)) none) (cond (Nat.beq pc 15) (some (29, 0, 0, [], 16)) none))) (cond (Nat.ble pc 16) (cond (Nat.beq pc 16) (some (16, 3, 39, [], 19)) none) (cond (Nat.ble pc 19) (cond (Nat.beq pc 19) (some (2, 0, 0, [], 20)) none) (cond (Nat.beq pc 20) (some (22, 0, 15, [4], 23)) none))))) (cond (Nat.ble pc 29) (cond (Nat.ble pc 24) (cond (Nat.ble pc 23) (cond (Nat.beq pc 23) (some (2, 0, 0, [], 24)) none) (cond (Nat.beq pc 24) (some (21, 1, 21, [4], 27)) none)) (cond (Nat.ble pc 27) (cond (Nat.beq pc 27) (some (1, 0, 1, [], 28)) none) (cond (Nat.ble pc 28) (cond (Nat.beq pc 28) (some (26, 0, 0, [], 29)) none) (cond (Nat.beq pc 29) (some (2, 0, 0, [], 30)) none)))) (cond (Nat.ble pc 34) (cond (Nat.ble pc 30) (cond (Nat.beq pc 30) (some (12, 0, 0, [], 31)) none) (cond (Nat.ble pc 31) (cond (Nat.beq pc 31) (some (21, 1, 21, [4], 34)) none) (cond (Nat.beq pc 34) (some (0, 1, 0, [], 35)) none))) (cond (Nat.ble pc 35) (cond (Nat.beq pc 35) (some (6, 0, 0, [], 36)) none) (cond (Nat.ble pc 36) (cond (Nat.beq pc 36) (some (23, 1, 21, [4], 39)) none) (cond (Nat.beq pc 39) (some (44, 0, 0, [], 40)) none)))))) none
def qc45 (pc : Nat) : Option qX := cond (Nat.ble pc 17) (cond (Nat.ble pc 6) (cond (Nat.ble pc 1) (cond (Nat.ble pc 0) (cond (Nat.beq pc 0) (some (1, 0, 1, [], 1)) none) (cond (Nat.beq pc 1) (some (17, 2, 17, [], 4)) none)) (cond (Nat.ble pc 4) (cond (Nat.beq pc 4) (some (1, 0, 1, [], 5)) none) (cond (Nat.ble pc 5) (cond (Nat.beq pc 5) (some (2, 0, 0, [], 6)) none) (cond (Nat.beq pc 6) (some (21, 1, 21, [4], 9)) none)))) (cond (Nat.ble pc 12) (cond (Nat.ble pc 9) (cond (Nat.beq pc 9) (some (16, 3, 17, [], 12)) none) (cond (Nat.beq pc 12) (some (2, 0, 0, [], 13)) none)) (cond (Nat.ble pc 13) (cond (Nat.beq pc 13) (some (1, 0, 1, [], 14)) none) (cond (Nat.ble pc 14) (cond (Nat.beq pc 14) (some (23, 1, 21, [4], 17)) none) (cond (Nat.beq pc 17) (some (44, 0, 0, [], 18)) none))))) none
def qc46 (pc : Nat) : Option qX := cond (Nat.ble pc 30) (cond (Nat.ble pc 9) (cond (Nat.ble pc 5) (cond (Nat.ble pc 1) (cond (Nat.ble pc 0) (cond (Nat.beq pc 0) (some (2, 0, 0, [], 1)) none) (cond (Nat.beq pc 1) (some (0, 0, 0, [], 2)) none)) (cond (Nat.ble pc 2) (cond (Nat.beq pc 2) (some (23, 1, 21, [4], 5)) none) (cond (Nat.beq pc 5) (some (0, 0, 0, [], 6)) none))) (cond (Nat.ble pc 7) (cond (Nat.ble pc 6) (cond (Nat.beq pc 6) (some (3, 0, 2, [], 7)) none) (cond (Nat.beq pc 7) (some (1, 0, 2, [], 8)) none)) (cond (Nat.ble pc 8) (cond (Nat.beq pc 8) (some (2, 0, 1, [], 9)) none) (cond (Nat.beq pc 9) (some (40, 29, 40, [], 12)) none)))) (cond (Nat.ble pc 17) (cond (Nat.ble pc 15) (cond (Nat.ble pc 12) (cond (Nat.beq pc 12) (some (16, 3, 30, [], 15)) none) (cond (Nat.beq pc 15) (some (2, 0, 0, [], 16)) none)) (cond (Nat.ble pc 16) (cond (Nat.beq pc 16) (some (2, 0, 1, [], 17)) none) (cond (Nat.beq pc 17) (some (1, 0, 2, [], 18)) none))) (cond (Nat.ble pc 21) (cond (Nat.ble pc 18) (cond (Nat.beq pc 18) (some (40, 32, 42, [], 21)) none) (cond (Nat.beq pc 21) (some (40, 36, 44, [], 24)) none)) (cond (Nat.ble pc 24) (cond (Nat.beq pc 24) (some (5, 1, 2, [], 27)) none) (cond (Nat.ble pc 27) (cond (Nat.beq pc 27) (some (15, 0, 7, [], 30)) none) (cond (Nat.beq pc 30) (some (44, 0, 0, [], 31)) none)))))) none
def qc47 (pc : Nat) : Option qX := cond (Nat.ble pc 54) (cond (Nat.ble pc 24) (cond (Nat.ble pc 13) (cond (Nat.ble pc 4) (cond (Nat.ble pc 0) (cond (Nat.beq pc 0) (some (2, 0, 0, [], 1)) none) (cond (Nat.ble pc 1) (cond (Nat.beq pc 1) (some (34, 0, 3, [], 4)) none) (cond (Nat.beq pc 4) (some (2, 0, 0, [], 5)) none))) (cond (Nat.ble pc 7) (cond (Nat.ble pc 5) (cond (Nat.beq pc 5) (some (0, 40, 0, [], 7)) none) (cond (Nat.beq pc 7) (some (31, 0, 9, [0], 10)) none)) (cond (Nat.ble pc 10) (cond (Nat.beq pc 10) (some (24, 0, 11, [5], 13)) none) (cond (Nat.beq pc 13) (some (0, 0, 0, [], 14)) none)))) (cond (Nat.ble pc 16) (cond (Nat.ble pc 14) (cond (Nat.beq pc 14) (some (3, 0, 1, [], 15)) none) (cond (Nat.ble pc 15) (cond (Nat.beq pc 15) (some (1, 0, 1, [], 16)) none) (cond (Nat.beq pc 16) (some (2, 0, 0, [], 17)) none))) (cond (Nat.ble pc 20) (cond (Nat.ble pc 17) (cond (Nat.beq pc 17) (some (22, 0, 11, [5], 20)) none) (cond (Nat.beq pc 20) (some (29, 0, 0, [], 21)) none)) (cond (Nat.ble pc 21) (cond (Nat.beq pc 21) (some (16, 3, 43, [], 24)) none) (cond (Nat.beq pc 24) (some (2, 0, 0, [], 25)) none))))) (cond (Nat.ble pc 37) (cond (Nat.ble pc 29) (cond (Nat.ble pc 25) (cond (Nat.beq pc 25) (some (22, 0, 11, [5], 28)) none) (cond (Nat.ble pc 28) (cond (Nat.beq pc 28) (some (1, 0, 1, [], 29)) none) (cond (Nat.beq pc 29) (some (32, 0, 9, [0], 32)) none))) (cond (Nat.ble pc 33) (cond (Nat.ble pc 32) (cond (Nat.beq pc 32) (some (12, 0, 0, [], 33)) none) (cond (Nat.beq pc 33) (some (40, 17, 0, [], 36)) none)) (cond (Nat.ble pc 36) (cond (Nat.beq pc 36) (some (28, 0, 0, [], 37)) none) (cond (Nat.beq pc 37) (some (5, 1, 1, [], 40)) none)))) (cond (Nat.ble pc 44) (cond (Nat.ble pc 40) (cond (Nat.beq pc 40) (some (15, 0, 15, [], 43)) none) (cond (Nat.ble pc 43) (cond (Nat.beq pc 43) (some (2, 0, 0, [], 44)) none) (cond (Nat.beq pc 44) (some (32, 0, 9, [0], 47)) none))) (cond (Nat.ble pc 48) (cond (Nat.ble pc 47) (cond (Nat.beq pc 47) (some (12, 0, 0, [], 48)) none) (cond (Nat.beq pc 48) (some (40, 17, 0, [], 51)) none)) (cond (Nat.ble pc 51) (cond (Nat.beq pc 51) (some (24, 1, 18, [5], 54)) none) (cond (Nat.beq pc 54) (some (44, 0, 0, [], 55)) none)))))) none
def qc48 (pc : Nat) : Option qX := cond (Nat.ble pc 37) (cond (Nat.ble pc 18) (cond (Nat.ble pc 6) (cond (Nat.ble pc 1) (cond (Nat.ble pc 0) (cond (Nat.beq pc 0) (some (1, 0, 1, [], 1)) none) (cond (Nat.beq pc 1) (some (17, 2, 13, [], 4)) none)) (cond (Nat.ble pc 4) (cond (Nat.beq pc 4) (some (1, 0, 1, [], 5)) none) (cond (Nat.ble pc 5) (cond (Nat.beq pc 5) (some (2, 0, 0, [], 6)) none) (cond (Nat.beq pc 6) (some (22, 0, 11, [5], 9)) none)))) (cond (Nat.ble pc 13) (cond (Nat.ble pc 9) (cond (Nat.beq pc 9) (some (29, 0, 0, [], 10)) none) (cond (Nat.ble pc 10) (cond (Nat.beq pc 10) (some (16, 2, 18, [], 13)) none) (cond (Nat.beq pc 13) (some (2, 0, 0, [], 14)) none))) (cond (Nat.ble pc 14) (cond (Nat.beq pc 14) (some (22, 1, 18, [5], 17)) none) (cond (Nat.ble pc 17) (cond (Nat.beq pc 17) (some (43, 0, 0, [], 18)) none) (cond (Nat.beq pc 18) (some (2, 0, 0, [], 19)) none))))) (cond (Nat.ble pc 25) (cond (Nat.ble pc 22) (cond (Nat.ble pc 19) (cond (Nat.beq pc 19) (some (22, 0, 11, [5], 22)) none) (cond (Nat.beq pc 22) (some (1, 0, 1, [], 23)) none)) (cond (Nat.ble pc 23) (cond (Nat.beq pc 23) (some (27, 0, 0, [], 24)) none) (cond (Nat.ble pc 24) (cond (Nat.beq pc 24) (some (4, 0, 2, [], 25)) none) (cond (Nat.beq pc 25) (some (2, 0, 2, [], 26)) none)))) (cond (Nat.ble pc 30) (cond (Nat.ble pc 26) (cond (Nat.beq pc 26) (some (19, 0, 36, [], 29)) none) (cond (Nat.ble pc 29) (cond (Nat.beq pc 29) (some (2, 0, 0, [], 30)) none) (cond (Nat.beq pc 30) (some (22, 1, 18, [5], 33)) none))) (cond (Nat.ble pc 33) (cond (Nat.beq pc 33) (some (15, 0, 37, [], 36)) none) (cond (Nat.ble pc 36) (cond (Nat.beq pc 36) (some (2, 0, 2, [], 37)) none) (cond (Nat.beq pc 37) (some (43, 0, 0, [], 38)) none)))))) none
def qc49 (pc : Nat) : Option qX := cond (Nat.ble pc 28) (cond (Nat.ble pc 9) (cond (Nat.ble pc 3) (cond (Nat.ble pc 1) (cond (Nat.ble pc 0) (cond (Nat.beq pc 0) (some (0, 0, 0, [], 1)) none) (cond (Nat.beq pc 1) (some (3, 0, 3, [], 2)) none)) (cond (Nat.ble pc 2) (cond (Nat.beq pc 2) (some (1, 0, 3, [], 3)) none) (cond (Nat.beq pc 3) (some (1, 0, 2, [], 4)) none))) (cond (Nat.ble pc 7) (cond (Nat.ble pc 4) (cond (Nat.beq pc 4) (some (16, 3, 27, [], 7)) none) (cond (Nat.beq pc 7) (some (2, 0, 0, [], 8)) none)) (cond (Nat.ble pc 8) (cond (Nat.beq pc 8) (some (1, 0, 3, [], 9)) none) (cond (Nat.beq pc 9) (some (40, 22, 48, [], 12)) none)))) (cond (Nat.ble pc 19) (cond (Nat.ble pc 13) (cond (Nat.ble pc 12) (cond (Nat.beq pc 12) (some (2, 0, 1, [], 13)) none) (cond (Nat.beq pc 13) (some (40, 26, 12, [], 16)) none)) (cond (Nat.ble pc 16) (cond (Nat.beq pc 16) (some (17, 0, 21, [], 19)) none) (cond (Nat.beq pc 19) (some (1, 0, 3, [], 20)) none))) (cond (Nat.ble pc 21) (cond (Nat.ble pc 20) (cond (Nat.beq pc 20) (some (41, 0, 0, [], 21)) none) (cond (Nat.beq pc 21) (some (5, 1, 3, [], 24)) none)) (cond (Nat.ble pc 24) (cond (Nat.beq pc 24) (some (15, 0, 2, [], 27)) none) (cond (Nat.ble pc 27) (cond (Nat.beq pc 27) (some (1, 0, 2, [], 28)) none) (cond (Nat.beq pc 28) (some (41, 0, 0, [], 29)) none)))))) none
def qc50 (pc : Nat) : Option qX := cond (Nat.ble pc 22) (cond (Nat.ble pc 9) (cond (Nat.ble pc 4) (cond (Nat.ble pc 0) (cond (Nat.beq pc 0) (some (1, 0, 1, [], 1)) none) (cond (Nat.ble pc 1) (cond (Nat.beq pc 1) (some (17, 2, 22, [], 4)) none) (cond (Nat.beq pc 4) (some (1, 0, 1, [], 5)) none))) (cond (Nat.ble pc 5) (cond (Nat.beq pc 5) (some (2, 0, 0, [], 6)) none) (cond (Nat.ble pc 6) (cond (Nat.beq pc 6) (some (22, 0, 11, [5], 9)) none) (cond (Nat.beq pc 9) (some (29, 0, 0, [], 10)) none)))) (cond (Nat.ble pc 14) (cond (Nat.ble pc 10) (cond (Nat.beq pc 10) (some (16, 3, 22, [], 13)) none) (cond (Nat.ble pc 13) (cond (Nat.beq pc 13) (some (2, 0, 0, [], 14)) none) (cond (Nat.beq pc 14) (some (1, 0, 1, [], 15)) none))) (cond (Nat.ble pc 18) (cond (Nat.ble pc 15) (cond (Nat.beq pc 15) (some (40, 22, 48, [], 18)) none) (cond (Nat.beq pc 18) (some (2, 0, 2, [], 19)) none)) (cond (Nat.ble pc 19) (cond (Nat.beq pc 19) (some (40, 30, 3, [], 22)) none) (cond (Nat.beq pc 22) (some (44, 0, 0, [], 23)) none))))) none
def qc51 (pc : Nat) : Option qX := cond (Nat.ble pc 46) (cond (Nat.ble pc 22) (cond (Nat.ble pc 9) (cond (Nat.ble pc 4) (cond (Nat.ble pc 0) (cond (Nat.beq pc 0) (some (2, 0, 0, [], 1)) none) (cond (Nat.ble pc 1) (cond (Nat.beq pc 1) (some (34, 0, 3, [], 4)) none) (cond (Nat.beq pc 4) (some (2, 0, 0, [], 5)) none))) (cond (Nat.ble pc 5) (cond (Nat.beq pc 5) (some (32, 0, 9, [4], 8)) none) (cond (Nat.ble pc 8) (cond (Nat.beq pc 8) (some (12, 0, 0, [], 9)) none) (cond (Nat.beq pc 9) (some (0, 30, 0, [], 11)) none)))) (cond (Nat.ble pc 17) (cond (Nat.ble pc 11) (cond (Nat.beq pc 11) (some (40, 11, 39, [], 14)) none) (cond (Nat.ble pc 14) (cond (Nat.beq pc 14) (some (24, 0, 14, [6], 17)) none) (cond (Nat.beq pc 17) (some (2, 0, 0, [], 18)) none))) (cond (Nat.ble pc 18) (cond (Nat.beq pc 18) (some (32, 0, 9, [4], 21)) none) (cond (Nat.ble pc 21) (cond (Nat.beq pc 21) (some (12, 0, 0, [], 22)) none) (cond (Nat.beq pc 22) (some (0, 300, 0, [], 25)) none))))) (cond (Nat.ble pc 36) (cond (Nat.ble pc 31) (cond (Nat.ble pc 25) (cond (Nat.beq pc 25) (some (40, 11, 39, [], 28)) none) (cond (Nat.ble pc 28) (cond (Nat.beq pc 28) (some (24, 1, 20, [6], 31)) none) (cond (Nat.beq pc 31) (some (2, 0, 0, [], 32)) none))) (cond (Nat.ble pc 32) (cond (Nat.beq pc 32) (some (0, 0, 0, [], 33)) none) (cond (Nat.ble pc 33) (cond (Nat.beq pc 33) (some (23, 2, 23, [6], 36)) none) (cond (Nat.beq pc 36) (some (2, 0, 0, [], 37)) none)))) (cond (Nat.ble pc 41) (cond (Nat.ble pc 37) (cond (Nat.beq pc 37) (some (0, 0, 0, [], 38)) none) (cond (Nat.ble pc 38) (cond (Nat.beq pc 38) (some (23, 3, 27, [6], 41)) none) (cond (Nat.beq pc 41) (some (2, 0, 0, [], 42)) none))) (cond (Nat.ble pc 42) (cond (Nat.beq pc 42) (some (0, 2, 0, [], 43)) none) (cond (Nat.ble pc 43) (cond (Nat.beq pc 43) (some (23, 4, 30, [6], 46)) none) (cond (Nat.beq pc 46) (some (44, 0, 0, [], 47)) none)))))) none
def qc52 (pc : Nat) : Option qX := cond (Nat.ble pc 46) (cond (Nat.ble pc 22) (cond (Nat.ble pc 8) (cond (Nat.ble pc 1) (cond (Nat.ble pc 0) (cond (Nat.beq pc 0) (some (2, 0, 0, [], 1)) none) (cond (Nat.beq pc 1) (some (22, 0, 14, [6], 4)) none)) (cond (Nat.ble pc 4) (cond (Nat.beq pc 4) (some (2, 0, 1, [], 5)) none) (cond (Nat.ble pc 5) (cond (Nat.beq pc 5) (some (22, 0, 14, [6], 8)) none) (cond (Nat.beq pc 8) (some (40, 33, 46, [], 11)) none)))) (cond (Nat.ble pc 15) (cond (Nat.ble pc 11) (cond (Nat.beq pc 11) (some (2, 0, 0, [], 12)) none) (cond (Nat.ble pc 12) (cond (Nat.beq pc 12) (some (22, 1, 20, [6], 15)) none) (cond (Nat.beq pc 15) (some (2, 0, 1, [], 16)) none))) (cond (Nat.ble pc 16) (cond (Nat.beq pc 16) (some (22, 1, 20, [6], 19)) none) (cond (Nat.ble pc 19) (cond (Nat.beq pc 19) (some (40, 33, 46, [], 22)) none) (cond (Nat.beq pc 22) (some (2, 0, 0, [], 23)) none))))) (cond (Nat.ble pc 32) (cond (Nat.ble pc 27) (cond (Nat.ble pc 23) (cond (Nat.beq pc 23) (some (2, 0, 1, [], 24)) none) (cond (Nat.ble pc 24) (cond (Nat.beq pc 24) (some (21, 2, 23, [6], 27)) none) (cond (Nat.beq pc 27) (some (23, 2, 23, [6], 30)) none))) (cond (Nat.ble pc 30) (cond (Nat.beq pc 30) (some (2, 0, 0, [], 31)) none) (cond (Nat.ble pc 31) (cond (Nat.beq pc 31) (some (2, 0, 1, [], 32)) none) (cond (Nat.beq pc 32) (some (21, 3, 27, [6], 35)) none)))) (cond (Nat.ble pc 39) (cond (Nat.ble pc 35) (cond (Nat.beq pc 35) (some (23, 3, 27, [6], 38)) none) (cond (Nat.ble pc 38) (cond (Nat.beq pc 38) (some (2, 0, 0, [], 39)) none) (cond (Nat.beq pc 39) (some (2, 0, 1, [], 40)) none))) (cond (Nat.ble pc 40) (cond (Nat.beq pc 40) (some (21, 4, 30, [6], 43)) none) (cond (Nat.ble pc 43) (cond (Nat.beq pc 43) (some (23, 4, 30, [6], 46)) none) (cond (Nat.beq pc 46) (some (44, 0, 0, [], 47)) none)))))) none
def qc53 (pc : Nat) : Option qX := cond (Nat.ble pc 43) (cond (Nat.ble pc 17) (cond (Nat.ble pc 8) (cond (Nat.ble pc 1) (cond (Nat.ble pc 0) (cond (Nat.beq pc 0) (some (2, 0, 0, [], 1)) none) (cond (Nat.beq pc 1) (some (22, 0, 14, [6], 4)) none)) (cond (Nat.ble pc 4) (cond (Nat.beq pc 4) (some (1, 0, 1, [], 5)) none) (cond (Nat.ble pc 5) (cond (Nat.beq pc 5) (some (40, 37, 44, [], 8)) none) (cond (Nat.beq pc 8) (some (0, 0, 0, [], 9)) none)))) (cond (Nat.ble pc 11) (cond (Nat.ble pc 9) (cond (Nat.beq pc 9) (some (3, 0, 3, [], 10)) none) (cond (Nat.ble pc 10) (cond (Nat.beq pc 10) (some (1, 0, 3, [], 11)) none) (cond (Nat.beq pc 11) (some (0, 10, 0, [], 13)) none))) (cond (Nat.ble pc 13) (cond (Nat.beq pc 13) (some (16, 3, 34, [], 16)) none) (cond (Nat.ble pc 16) (cond (Nat.beq pc 16) (some (2, 0, 0, [], 17)) none) (cond (Nat.beq pc 17) (some (22, 1, 20, [6], 20)) none))))) (cond (Nat.ble pc 31) (cond (Nat.ble pc 22) (cond (Nat.ble pc 20) (cond (Nat.beq pc 20) (some (2, 0, 2, [], 21)) none) (cond (Nat.ble pc 21) (cond (Nat.beq pc 21) (some (1, 0, 3, [], 22)) none) (cond (Nat.beq pc 22) (some (40, 40, 42, [], 25)) none))) (cond (Nat.ble pc 25) (cond (Nat.beq pc 25) (some (40, 37, 44, [], 28)) none) (cond (Nat.ble pc 28) (cond (Nat.beq pc 28) (some (5, 1, 3, [], 31)) none) (cond (Nat.beq pc 31) (some (15, 0, 10, [], 34)) none)))) (cond (Nat.ble pc 38) (cond (Nat.ble pc 34) (cond (Nat.beq pc 34) (some (2, 0, 0, [], 35)) none) (cond (Nat.ble pc 35) (cond (Nat.beq pc 35) (some (22, 0, 14, [6], 38)) none) (cond (Nat.beq pc 38) (some (40, 44, 40, [], 41)) none))) (cond (Nat.ble pc 41) (cond (Nat.beq pc 41) (some (0, 1, 0, [], 42)) none) (cond (Nat.ble pc 42) (cond (Nat.beq pc 42) (some (7, 0, 0, [], 43)) none) (cond (Nat.beq pc 43) (some (41, 0, 0, [], 44)) none)))))) none
def qc54 (pc : Nat) : Option qX := cond (Nat.ble pc 8) (cond (Nat.ble pc 1) (cond (Nat.ble pc 0) (cond (Nat.beq pc 0) (some (2, 0, 0, [], 1)) none) (cond (Nat.beq pc 1) (some (22, 0, 14, [6], 4)) none)) (cond (Nat.ble pc 4) (cond (Nat.beq pc 4) (some (1, 0, 1, [], 5)) none) (cond (Nat.ble pc 5) (cond (Nat.beq pc 5) (some (40, 40, 42, [], 8)) none) (cond (Nat.beq pc 8) (some (41, 0, 0, [], 9)) none)))) none
def qc55 (pc : Nat) : Option qX := cond (Nat.ble pc 9) (cond (Nat.ble pc 4) (cond (Nat.ble pc 0) (cond (Nat.beq pc 0) (some (2, 0, 0, [], 1)) none) (cond (Nat.ble pc 1) (cond (Nat.beq pc 1) (some (22, 0, 14, [6], 4)) none) (cond (Nat.beq pc 4) (some (1, 0, 1, [], 5)) none))) (cond (Nat.ble pc 5) (cond (Nat.beq pc 5) (some (1, 0, 2, [], 6)) none) (cond (Nat.ble pc 6) (cond (Nat.beq pc 6) (some (40, 48, 43, [], 9)) none) (cond (Nat.beq pc 9) (some (44, 0, 0, [], 10)) none)))) none
def qc56 (pc : Nat) : Option qX := cond (Nat.ble pc 18) (cond (Nat.ble pc 8) (cond (Nat.ble pc 1) (cond (Nat.ble pc 0) (cond (Nat.beq pc 0) (some (2, 0, 0, [], 1)) none) (cond (Nat.beq pc 1) (some (22, 0, 14, [6], 4)) none)) (cond (Nat.ble pc 4) (cond (Nat.beq pc 4) (some (1, 0, 1, [], 5)) none) (cond (Nat.ble pc 5) (cond (Nat.beq pc 5) (some (40, 40, 42, [], 8)) none) (cond (Nat.beq pc 8) (some (0, (-9), 0, [], 10)) none)))) (cond (Nat.ble pc 13) (cond (Nat.ble pc 10) (cond (Nat.beq pc 10) (some (16, 0, 17, [], 13)) none) (cond (Nat.beq pc 13) (some (0, 1, 0, [], 14)) none)) (cond (Nat.ble pc 14) (cond (Nat.beq pc 14) (some (15, 0, 18, [], 17)) none) (cond (Nat.ble pc 17) (cond (Nat.beq pc 17) (some (0, 0, 0, [], 18)) none) (cond (Nat.beq pc 18) (some (42, 0, 0, [], 19)) none))))) none
def qc57 (pc : Nat) : Option qX := cond (Nat.ble pc 7) (cond (Nat.ble pc 1) (cond (Nat.ble pc 0) (cond (Nat.beq pc 0) (some (2, 0, 0, [], 1)) none) (cond (Nat.beq pc 1) (some (22, 0, 14, [6], 4)) none)) (cond (Nat.ble pc 4) (cond (Nat.beq pc 4) (some (40, 44, 40, [], 7)) none) (cond (Nat.beq pc 7) (some (41, 0, 0, [], 8)) none))) none
def qc58 (pc : Nat) : Option qX := cond (Nat.ble pc 33) (cond (Nat.ble pc 12) (cond (Nat.ble pc 3) (cond (Nat.ble pc 1) (cond (Nat.ble pc 0) (cond (Nat.beq pc 0) (some (0, 0, 0, [], 1)) none) (cond (Nat.beq pc 1) (some (3, 0, 1, [], 2)) none)) (cond (Nat.ble pc 2) (cond (Nat.beq pc 2) (some (0, 0, 0, [], 3)) none) (cond (Nat.beq pc 3) (some (3, 0, 2, [], 4)) none))) (cond (Nat.ble pc 5) (cond (Nat.ble pc 4) (cond (Nat.beq pc 4) (some (1, 0, 2, [], 5)) none) (cond (Nat.beq pc 5) (some (2, 0, 0, [], 6)) none)) (cond (Nat.ble pc 6) (cond (Nat.beq pc 6) (some (22, 0, 14, [6], 9)) none) (cond (Nat.ble pc 9) (cond (Nat.beq pc 9) (some (40, 44, 40, [], 12)) none) (cond (Nat.beq pc 12) (some (16, 3, 32, [], 15)) none))))) (cond (Nat.ble pc 20) (cond (Nat.ble pc 16) (cond (Nat.ble pc 15) (cond (Nat.beq pc 15) (some (2, 0, 0, [], 16)) none) (cond (Nat.beq pc 16) (some (1, 0, 2, [], 17)) none)) (cond (Nat.ble pc 17) (cond (Nat.beq pc 17) (some (40, 52, 56, [], 20)) none) (cond (Nat.beq pc 20) (some (17, 0, 26, [], 23)) none))) (cond (Nat.ble pc 26) (cond (Nat.ble pc 23) (cond (Nat.beq pc 23) (some (5, 1, 1, [], 26)) none) (cond (Nat.beq pc 26) (some (5, 1, 2, [], 29)) none)) (cond (Nat.ble pc 29) (cond (Nat.beq pc 29) (some (15, 0, 4, [], 32)) none) (cond (Nat.ble pc 32) (cond (Nat.beq pc 32) (some (1, 0, 1, [], 33)) none) (cond (Nat.beq pc 33) (some (41, 0, 0, [], 34)) none)))))) none
def qc59 (pc : Nat) : Option qX := cond (Nat.ble pc 37) (cond (Nat.ble pc 15) (cond (Nat.ble pc 4) (cond (Nat.ble pc 1) (cond (Nat.ble pc 0) (cond (Nat.beq pc 0) (some (0, 0, 0, [], 1)) none) (cond (Nat.beq pc 1) (some (3, 0, 2, [], 2)) none)) (cond (Nat.ble pc 2) (cond (Nat.beq pc 2) (some (0, 0, 0, [], 3)) none) (cond (Nat.ble pc 3) (cond (Nat.beq pc 3) (some (3, 0, 3, [], 4)) none) (cond (Nat.beq pc 4) (some (1, 0, 3, [], 5)) none)))) (cond (Nat.ble pc 6) (cond (Nat.ble pc 5) (cond (Nat.beq pc 5) (some (2, 0, 0, [], 6)) none) (cond (Nat.beq pc 6) (some (22, 0, 14, [6], 9)) none)) (cond (Nat.ble pc 9) (cond (Nat.beq pc 9) (some (40, 44, 40, [], 12)) none) (cond (Nat.ble pc 12) (cond (Nat.beq pc 12) (some (16, 3, 36, [], 15)) none) (cond (Nat.beq pc 15) (some (2, 0, 0, [], 16)) none))))) (cond (Nat.ble pc 24) (cond (Nat.ble pc 19) (cond (Nat.ble pc 16) (cond (Nat.beq pc 16) (some (22, 0, 14, [6], 19)) none) (cond (Nat.beq pc 19) (some (1, 0, 3, [], 20)) none)) (cond (Nat.ble pc 20) (cond (Nat.beq pc 20) (some (40, 40, 42, [], 23)) none) (cond (Nat.ble pc 23) (cond (Nat.beq pc 23) (some (1, 0, 1, [], 24)) none) (cond (Nat.beq pc 24) (some (16, 1, 30, [], 27)) none)))) (cond (Nat.ble pc 30) (cond (Nat.ble pc 27) (cond (Nat.beq pc 27) (some (5, 1, 2, [], 30)) none) (cond (Nat.beq pc 30) (some (5, 1, 3, [], 33)) none)) (cond (Nat.ble pc 33) (cond (Nat.beq pc 33) (some (15, 0, 4, [], 36)) none) (cond (Nat.ble pc 36) (cond (Nat.beq pc 36) (some (1, 0, 2, [], 37)) none) (cond (Nat.beq pc 37) (some (41, 0, 0, [], 38)) none)))))) none
def qc60 (pc : Nat) : Option qX := cond (Nat.ble pc 49) (cond (Nat.ble pc 21) (cond (Nat.ble pc 7) (cond (Nat.ble pc 2) (cond (Nat.ble pc 0) (cond (Nat.beq pc 0) (some (0, 0, 0, [], 1)) none) (cond (Nat.ble pc 1) (cond (Nat.beq pc 1) (some (3, 0, 3, [], 2)) none) (cond (Nat.beq pc 2) (some (0, 0, 0, [], 3)) none))) (cond (Nat.ble pc 3) (cond (Nat.beq pc 3) (some (3, 0, 4, [], 5)) none) (cond (Nat.ble pc 5) (cond (Nat.beq pc 5) (some (1, 0, 4, [], 7)) none) (cond (Nat.beq pc 7) (some (2, 0, 0, [], 8)) none)))) (cond (Nat.ble pc 14) (cond (Nat.ble pc 8) (cond (Nat.beq pc 8) (some (22, 0, 14, [6], 11)) none) (cond (Nat.ble pc 11) (cond (Nat.beq pc 11) (some (40, 44, 40, [], 14)) none) (cond (Nat.beq pc 14) (some (16, 3, 47, [], 17)) none))) (cond (Nat.ble pc 17) (cond (Nat.beq pc 17) (some (2, 0, 0, [], 18)) none) (cond (Nat.ble pc 18) (cond (Nat.beq pc 18) (some (22, 0, 14, [6], 21)) none) (cond (Nat.beq pc 21) (some (1, 0, 4, [], 23)) none))))) (cond (Nat.ble pc 32) (cond (Nat.ble pc 27) (cond (Nat.ble pc 23) (cond (Nat.beq pc 23) (some (40, 40, 42, [], 26)) none) (cond (Nat.ble pc 26) (cond (Nat.beq pc 26) (some (1, 0, 1, [], 27)) none) (cond (Nat.beq pc 27) (some (16, 1, 41, [], 30)) none))) (cond (Nat.ble pc 30) (cond (Nat.beq pc 30) (some (1, 0, 3, [], 31)) none) (cond (Nat.ble pc 31) (cond (Nat.beq pc 31) (some (1, 0, 2, [], 32)) none) (cond (Nat.beq pc 32) (some (16, 1, 38, [], 35)) none)))) (cond (Nat.ble pc 38) (cond (Nat.ble pc 35) (cond (Nat.beq pc 35) (some (1, 0, 4, [], 37)) none) (cond (Nat.ble pc 37) (cond (Nat.beq pc 37) (some (41, 0, 0, [], 38)) none) (cond (Nat.beq pc 38) (some (5, 1, 3, [], 41)) none))) (cond (Nat.ble pc 44) (cond (Nat.ble pc 41) (cond (Nat.beq pc 41) (some (5, 1, 4, [], 44)) none) (cond (Nat.beq pc 44) (some (15, 0, 5, [], 47)) none)) (cond (Nat.ble pc 47) (cond (Nat.beq pc 47) (some (0, (-9), 0, [], 49)) none) (cond (Nat.beq pc 49) (some (41, 0, 0, [], 50)) none)))))) none
def qc61 (pc : Nat) : Option qX := cond (Nat.ble pc 13) (cond (Nat.ble pc 5) (cond (Nat.ble pc 1) (cond (Nat.ble pc 0) (cond (Nat.beq pc 0) (some (2, 0, 0, [], 1)) none) (cond (Nat.beq pc 1) (some (22, 1, 20, [6], 4)) none)) (cond (Nat.ble pc 4) (cond (Nat.beq pc 4) (some (1, 0, 1, [], 5)) none) (cond (Nat.beq pc 5) (some (0, 10, 0, [], 7)) none))) (cond (Nat.ble pc 8) (cond (Nat.ble pc 7) (cond (Nat.beq pc 7) (some (8, 0, 0, [], 8)) none) (cond (Nat.beq pc 8) (some (1, 0, 2, [], 9)) none)) (cond (Nat.ble pc 9) (cond (Nat.beq pc 9) (some (6, 0, 0, [], 10)) none) (cond (Nat.ble pc 10) (cond (Nat.beq pc 10) (some (40, 40, 42, [], 13)) none) (cond (Nat.beq pc 13) (some (41, 0, 0, [], 14)) none))))) none
def qc62 (pc : Nat) : Option qX := cond (Nat.ble pc 14) (cond (Nat.ble pc 7) (cond (Nat.ble pc 1) (cond (Nat.ble pc 0) (cond (Nat.beq pc 0) (some (2, 0, 0, [], 1)) none) (cond (Nat.beq pc 1) (some (22, 1, 20, [6], 4)) none)) (cond (Nat.ble pc 4) (cond (Nat.beq pc 4) (some (1, 0, 1, [], 5)) none) (cond (Nat.ble pc 5) (cond (Nat.beq pc 5) (some (0, 10, 0, [], 7)) none) (cond (Nat.beq pc 7) (some (8, 0, 0, [], 8)) none)))) (cond (Nat.ble pc 9) (cond (Nat.ble pc 8) (cond (Nat.beq pc 8) (some (1, 0, 2, [], 9)) none) (cond (Nat.beq pc 9) (some (6, 0, 0, [], 10)) none)) (cond (Nat.ble pc 10) (cond (Nat.beq pc 10) (some (1, 0, 3, [], 11)) none) (cond (Nat.ble pc 11) (cond (Nat.beq pc 11) (some (40, 48, 43, [], 14)) none) (cond (Nat.beq pc 14) (some (44, 0, 0, [], 15)) none))))) none
def qc63 (pc : Nat) : Option qX := cond (Nat.ble pc 96) (cond (Nat.ble pc 43) (cond (Nat.ble pc 21) (cond (Nat.ble pc 8) (cond (Nat.ble pc 1) (cond (Nat.ble pc 0) (cond (Nat.beq pc 0) (some (2, 0, 0, [], 1)) none) (cond (Nat.beq pc 1) (some (34, 0, 3, [], 4)) none)) (cond (Nat.ble pc 4) (cond (Nat.beq pc 4) (some (2, 0, 0, [], 5)) none) (cond (Nat.ble pc 5) (cond (Nat.beq pc 5) (some (32, 0, 9, [4], 8)) none) (cond (Nat.beq pc 8) (some (12, 0, 0, [], 9)) none)))) (cond (Nat.ble pc 14) (cond (Nat.ble pc 9) (cond (Nat.beq pc 9) (some (0, 80, 0, [], 11)) none) (cond (Nat.ble pc 11) (cond (Nat.beq pc 11) (some (40, 11, 39, [], 14)) none) (cond (Nat.beq pc 14) (some (24, 0, 14, [7], 17)) none))) (cond (Nat.ble pc 17) (cond (Nat.beq pc 17) (some (2, 0, 0, [], 18)) none) (cond (Nat.ble pc 18) (cond (Nat.beq pc 18) (some (32, 0, 9, [4], 21)) none) (cond (Nat.beq pc 21) (some (12, 0, 0, [], 22)) none))))) (cond (Nat.ble pc 31) (cond (Nat.ble pc 24) (cond (Nat.ble pc 22) (cond (Nat.beq pc 22) (some (0, 100, 0, [], 24)) none) (cond (Nat.beq pc 24) (some (40, 11, 39, [], 27)) none)) (cond (Nat.ble pc 27) (cond (Nat.beq pc 27) (some (24, 1, 18, [7], 30)) none) (cond (Nat.ble pc 30) (cond (Nat.beq pc 30) (some (2, 0, 0, [], 31)) none) (cond (Nat.beq pc 31) (some (32, 0, 21, [3], 34)) none)))) (cond (Nat.ble pc 38) (cond (Nat.ble pc 34) (cond (Nat.beq pc 34) (some (12, 0, 0, [], 35)) none) (cond (Nat.ble pc 35) (cond (Nat.beq pc 35) (some (40, 23, 26, [], 38)) none) (cond (Nat.beq pc 38) (some (24, 2, 24, [7], 41)) none))) (cond (Nat.ble pc 41) (cond (Nat.beq pc 41) (some (2, 0, 0, [], 42)) none) (cond (Nat.ble pc 42) (cond (Nat.beq pc 42) (some (2, 0, 0, [], 43)) none) (cond (Nat.beq pc 43) (some (22, 2, 24, [7], 46)) none)))))) (cond (Nat.ble pc 68) (cond (Nat.ble pc 56) (cond (Nat.ble pc 49) (cond (Nat.ble pc 46) (cond (Nat.beq pc 46) (some (22, 0, 28, [3], 49)) none) (cond (Nat.beq pc 49) (some (24, 3, 32, [7], 52)) none)) (cond (Nat.ble pc 52) (cond (Nat.beq pc 52) (some (2, 0, 0, [], 53)) none) (cond (Nat.ble pc 53) (cond (Nat.beq pc 53) (some (32, 0, 33, [5], 56)) none) (cond (Nat.beq pc 56) (some (12, 0, 0, [], 57)) none)))) (cond (Nat.ble pc 63) (cond (Nat.ble pc 57) (cond (Nat.beq pc 57) (some (40, 35, 47, [], 60)) none) (cond (Nat.ble pc 60) (cond (Nat.beq pc 60) (some (24, 4, 36, [7], 63)) none) (cond (Nat.beq pc 63) (some (2, 0, 0, [], 64)) none))) (cond (Nat.ble pc 64) (cond (Nat.beq pc 64) (some (32, 0, 40, [0], 67)) none) (cond (Nat.ble pc 67) (cond (Nat.beq pc 67) (some (12, 0, 0, [], 68)) none) (cond (Nat.beq pc 68) (some (40, 42, 0, [], 71)) none))))) (cond (Nat.ble pc 82) (cond (Nat.ble pc 75) (cond (Nat.ble pc 71) (cond (Nat.beq pc 71) (some (24, 5, 43, [7], 74)) none) (cond (Nat.ble pc 74) (cond (Nat.beq pc 74) (some (2, 0, 0, [], 75)) none) (cond (Nat.beq pc 75) (some (32, 0, 47, [6], 78)) none))) (cond (Nat.ble pc 78) (cond (Nat.beq pc 78) (some (12, 0, 0, [], 79)) none) (cond (Nat.ble pc 79) (cond (Nat.beq pc 79) (some (40, 49, 51, [], 82)) none) (cond (Nat.beq pc 82) (some (24, 6, 50, [7], 85)) none)))) (cond (Nat.ble pc 89) (cond (Nat.ble pc 85) (cond (Nat.beq pc 85) (some (2, 0, 0, [], 86)) none) (cond (Nat.ble pc 86) (cond (Nat.beq pc 86) (some (32, 0, 54, [1], 89)) none) (cond (Nat.beq pc 89) (some (12, 0, 0, [], 90)) none))) (cond (Nat.ble pc 90) (cond (Nat.beq pc 90) (some (40, 56, 14, [], 93)) none) (cond (Nat.ble pc 93) (cond (Nat.beq pc 93) (some (24, 7, 57, [7], 96)) none) (cond (Nat.beq pc 96) (some (44, 0, 0, [], 97)) none))))))) none
def qc64 (pc : Nat) : Option qX := cond (Nat.ble pc 44) (cond (Nat.ble pc 18) (cond (Nat.ble pc 6) (cond (Nat.ble pc 1) (cond (Nat.ble pc 0) (cond (Nat.beq pc 0) (some (1, 0, 1, [], 1)) none) (cond (Nat.beq pc 1) (some (0, 1, 0, [], 2)) none)) (cond (Nat.ble pc 2) (cond (Nat.beq pc 2) (some (16, 2, 12, [], 5)) none) (cond (Nat.ble pc 5) (cond (Nat.beq pc 5) (some (1, 0, 1, [], 6)) none) (cond (Nat.beq pc 6) (some (0, 255, 0, [], 9)) none)))) (cond (Nat.ble pc 13) (cond (Nat.ble pc 9) (cond (Nat.beq pc 9) (some (16, 5, 14, [], 12)) none) (cond (Nat.ble pc 12) (cond (Nat.beq pc 12) (some (0, (-1), 0, [], 13)) none) (cond (Nat.beq pc 13) (some (41, 0, 0, [], 14)) none))) (cond (Nat.ble pc 14) (cond (Nat.beq pc 14) (some (2, 0, 0, [], 15)) none) (cond (Nat.ble pc 15) (cond (Nat.beq pc 15) (some (22, 0, 14, [7], 18)) none) (cond (Nat.beq pc 18) (some (40, 61, 40, [], 21)) none))))) (cond (Nat.ble pc 30) (cond (Nat.ble pc 26) (cond (Nat.ble pc 21) (cond (Nat.beq pc 21) (some (0, 80, 0, [], 23)) none) (cond (Nat.ble pc 23) (cond (Nat.beq pc 23) (some (16, 2, 29, [], 26)) none) (cond (Nat.beq pc 26) (some (0, (-3), 0, [], 28)) none))) (cond (Nat.ble pc 28) (cond (Nat.beq pc 28) (some (41, 0, 0, [], 29)) none) (cond (Nat.ble pc 29) (cond (Nat.beq pc 29) (some (2, 0, 0, [], 30)) none) (cond (Nat.beq pc 30) (some (22, 0, 14, [7], 33)) none)))) (cond (Nat.ble pc 37) (cond (Nat.ble pc 33) (cond (Nat.beq pc 33) (some (1, 0, 1, [], 34)) none) (cond (Nat.ble pc 34) (cond (Nat.beq pc 34) (some (40, 65, 44, [], 37)) none) (cond (Nat.beq pc 37) (some (2, 0, 0, [], 38)) none))) (cond (Nat.ble pc 38) (cond (Nat.beq pc 38) (some (22, 0, 14, [7], 41)) none) (cond (Nat.ble pc 41) (cond (Nat.beq pc 41) (some (40, 61, 40, [], 44)) none) (cond (Nat.beq pc 44) (some (41, 0, 0, [], 45)) none)))))) none
def qc65 (pc : Nat) : Option qX := cond (Nat.ble pc 17) (cond (Nat.ble pc 8) (cond (Nat.ble pc 1) (cond (Nat.ble pc 0) (cond (Nat.beq pc 0) (some (2, 0, 0, [], 1)) none) (cond (Nat.beq pc 1) (some (22, 0, 14, [7], 4)) none)) (cond (Nat.ble pc 4) (cond (Nat.beq pc 4) (some (40, 61, 40, [], 7)) none) (cond (Nat.ble pc 7) (cond (Nat.beq pc 7) (some (3, 0, 1, [], 8)) none) (cond (Nat.beq pc 8) (some (2, 0, 0, [], 9)) none)))) (cond (Nat.ble pc 12) (cond (Nat.ble pc 9) (cond (Nat.beq pc 9) (some (22, 0, 14, [7], 12)) none) (cond (Nat.beq pc 12) (some (0, 0, 0, [], 13)) none)) (cond (Nat.ble pc 13) (cond (Nat.beq pc 13) (some (40, 68, 45, [], 16)) none) (cond (Nat.ble pc 16) (cond (Nat.beq pc 16) (some (1, 0, 1, [], 17)) none) (cond (Nat.beq pc 17) (some (41, 0, 0, [], 18)) none))))) none
def qc66 (pc : Nat) : Option qX := cond (Nat.ble pc 161) (cond (Nat.ble pc 80) (cond (Nat.ble pc 40) (cond (Nat.ble pc 18) (cond (Nat.ble pc 5) (cond (Nat.ble pc 1) (cond (Nat.ble pc 0) (cond (Nat.beq pc 0) (some (2, 0, 0, [], 1)) none) (cond (Nat.beq pc 1) (some (22, 2, 24, [7], 4)) none)) (cond (Nat.ble pc 4) (cond (Nat.beq pc 4) (some (2, 0, 0, [], 5)) none) (cond (Nat.beq pc 5) (some (22, 6, 50, [7], 8)) none))) (cond (Nat.ble pc 11) (cond (Nat.ble pc 8) (cond (Nat.beq pc 8) (some (21, 2, 71, [6], 11)) none) (cond (Nat.beq pc 11) (some (40, 75, 27, [], 14)) none)) (cond (Nat.ble pc 14) (cond (Nat.beq pc 14) (some (2, 0, 0, [], 15)) none) (cond (Nat.ble pc 15) (cond (Nat.beq pc 15) (some (40, 78, 88, [], 18)) none) (cond (Nat.beq pc 18) (some (3, 0, 1, [], 19)) none))))) (cond (Nat.ble pc 27) (cond (Nat.ble pc 20) (cond (Nat.ble pc 19) (cond (Nat.beq pc 19) (some (1, 0, 1, [], 20)) none) (cond (Nat.beq pc 20) (some (2, 0, 0, [], 21)) none)) (cond (Nat.ble pc 21) (cond (Nat.beq pc 21) (some (22, 0, 14, [7], 24)) none) (cond (Nat.ble pc 24) (cond (Nat.beq pc 24) (some (40, 61, 40, [], 27)) none) (cond (Nat.beq pc 27) (some (16, 2, 40, [], 30)) none)))) (cond (Nat.ble pc 31) (cond (Nat.ble pc 30) (cond (Nat.beq pc 30) (some (2, 0, 0, [], 31)) none) (cond (Nat.beq pc 31) (some (22, 2, 24, [7], 34)) none)) (cond (Nat.ble pc 34) (cond (Nat.beq pc 34) (some (40, 81, 28, [], 37)) none) (cond (Nat.ble pc 37) (cond (Nat.beq pc 37) (some (17, 1, 46, [], 40)) none) (cond (Nat.beq pc 40) (some (0, (-1000), 0, [], 43)) none)))))) (cond (Nat.ble pc 57) (cond (Nat.ble pc 46) (cond (Nat.ble pc 44) (cond (Nat.ble pc 43) (cond (Nat.beq pc 43) (some (1, 0, 1, [], 44)) none) (cond (Nat.beq pc 44) (some (7, 0, 0, [], 45)) none)) (cond (Nat.ble pc 45) (cond (Nat.beq pc 45) (some (41, 0, 0, [], 46)) none) (cond (Nat.beq pc 46) (some (2, 0, 0, [], 47)) none))) (cond (Nat.ble pc 50) (cond (Nat.ble pc 47) (cond (Nat.beq pc 47) (some (22, 4, 36, [7], 50)) none) (cond (Nat.beq pc 50) (some (2, 0, 0, [], 51)) none)) (cond (Nat.ble pc 51) (cond (Nat.beq pc 51) (some (22, 2, 24, [7], 54)) none) (cond (Nat.ble pc 54) (cond (Nat.beq pc 54) (some (22, 1, 85, [3], 57)) none) (cond (Nat.beq pc 57) (some (2, 0, 0, [], 58)) none))))) (cond (Nat.ble pc 68) (cond (Nat.ble pc 61) (cond (Nat.ble pc 58) (cond (Nat.beq pc 58) (some (22, 6, 50, [7], 61)) none) (cond (Nat.beq pc 61) (some (21, 3, 88, [6], 64)) none)) (cond (Nat.ble pc 64) (cond (Nat.beq pc 64) (some (40, 91, 49, [], 67)) none) (cond (Nat.ble pc 67) (cond (Nat.beq pc 67) (some (3, 0, 2, [], 68)) none) (cond (Nat.beq pc 68) (some (2, 0, 0, [], 69)) none)))) (cond (Nat.ble pc 72) (cond (Nat.ble pc 69) (cond (Nat.beq pc 69) (some (22, 6, 50, [7], 72)) none) (cond (Nat.beq pc 72) (some (40, 95, 57, [], 75)) none)) (cond (Nat.ble pc 75) (cond (Nat.beq pc 75) (some (0, 30, 0, [], 77)) none) (cond (Nat.ble pc 77) (cond (Nat.beq pc 77) (some (16, 3, 98, [], 80)) none) (cond (Nat.beq pc 80) (some (2, 0, 0, [], 81)) none))))))) (cond (Nat.ble pc 120) (cond (Nat.ble pc 100) (cond (Nat.ble pc 89) (cond (Nat.ble pc 84) (cond (Nat.ble pc 81) (cond (Nat.beq pc 81) (some (22, 3, 32, [7], 84)) none) (cond (Nat.beq pc 84) (some (40, 98, 20, [], 87)) none)) (cond (Nat.ble pc 87) (cond (Nat.beq pc 87) (some (0, 60, 0, [], 89)) none) (cond (Nat.beq pc 89) (some (16, 4, 98, [], 92)) none))) (cond (Nat.ble pc 93) (cond (Nat.ble pc 92) (cond (Nat.beq pc 92) (some (1, 0, 2, [], 93)) none) (cond (Nat.beq pc 93) (some (0, 40, 0, [], 95)) none)) (cond (Nat.ble pc 95) (cond (Nat.beq pc 95) (some (16, 2, 101, [], 98)) none) (cond (Nat.ble pc 98) (cond (Nat.beq pc 98) (some (0, (-3), 0, [], 100)) none) (cond (Nat.beq pc 100) (some (41, 0, 0, [], 101)) none))))) (cond (Nat.ble pc 109) (cond (Nat.ble pc 102) (cond (Nat.ble pc 101) (cond (Nat.beq pc 101) (some (2, 0, 0, [], 102)) none) (cond (Nat.beq pc 102) (some (22, 7, 57, [7], 105)) none)) (cond (Nat.ble pc 105) (cond (Nat.beq pc 105) (some (2, 0, 0, [], 106)) none) (cond (Nat.ble pc 106) (cond (Nat.beq pc 106) (some (22, 6, 50, [7], 109)) none) (cond (Nat.beq pc 109) (some (40, 101, 16, [], 112)) none)))) (cond (Nat.ble pc 113) (cond (Nat.ble pc 112) (cond (Nat.beq pc 112) (some (2, 0, 0, [], 113)) none) (cond (Nat.beq pc 113) (some (22, 6, 50, [7], 116)) none)) (cond (Nat.ble pc 116) (cond (Nat.beq pc 116) (some (2, 0, 0, [], 117)) none) (cond (Nat.ble pc 117) (cond (Nat.beq pc 117) (some (22, 3, 32, [7], 120)) none) (cond (Nat.beq pc 120) (some (40, 98, 20, [], 123)) none)))))) (cond (Nat.ble pc 139) (cond (Nat.ble pc 128) (cond (Nat.ble pc 126) (cond (Nat.ble pc 123) (cond (Nat.beq pc 123) (some (23, 2, 71, [6], 126)) none) (cond (Nat.beq pc 126) (some (2, 0, 0, [], 127)) none)) (cond (Nat.ble pc 127) (cond (Nat.beq pc 127) (some (1, 0, 2, [], 128)) none) (cond (Nat.beq pc 128) (some (2, 0, 0, [], 129)) none))) (cond (Nat.ble pc 132) (cond (Nat.ble pc 129) (cond (Nat.beq pc 129) (some (22, 2, 24, [7], 132)) none) (cond (Nat.beq pc 132) (some (22, 1, 85, [3], 135)) none)) (cond (Nat.ble pc 135) (cond (Nat.beq pc 135) (some (40, 105, 89, [], 138)) none) (cond (Nat.ble pc 138) (cond (Nat.beq pc 138) (some (2, 0, 0, [], 139)) none) (cond (Nat.beq pc 139) (some (22, 0, 14, [7], 142)) none))))) (cond (Nat.ble pc 150) (cond (Nat.ble pc 143) (cond (Nat.ble pc 142) (cond (Nat.beq pc 142) (some (0, 0, 0, [], 143)) none) (cond (Nat.beq pc 143) (some (40, 68, 45, [], 146)) none)) (cond (Nat.ble pc 146) (cond (Nat.beq pc 146) (some (2, 0, 0, [], 147)) none) (cond (Nat.ble pc 147) (cond (Nat.beq pc 147) (some (22, 6, 50, [7], 150)) none) (cond (Nat.beq pc 150) (some (1, 0, 2, [], 151)) none)))) (cond (Nat.ble pc 152) (cond (Nat.ble pc 151) (cond (Nat.beq pc 151) (some (2, 0, 0, [], 152)) none) (cond (Nat.beq pc 152) (some (22, 2, 24, [7], 155)) none)) (cond (Nat.ble pc 155) (cond (Nat.beq pc 155) (some (22, 2, 109, [3], 158)) none) (cond (Nat.ble pc 158) (cond (Nat.beq pc 158) (some (40, 112, 53, [], 161)) none) (cond (Nat.beq pc 161) (some (41, 0, 0, [], 162)) none)))))))) none
def qc67 (pc : Nat) : Option qX := cond (Nat.ble pc 41) (cond (Nat.ble pc 17) (cond (Nat.ble pc 8) (cond (Nat.ble pc 1) (cond (Nat.ble pc 0) (cond (Nat.beq pc 0) (some (2, 0, 0, [], 1)) none) (cond (Nat.beq pc 1) (some (22, 6, 50, [7], 4)) none)) (cond (Nat.ble pc 4) (cond (Nat.beq pc 4) (some (1, 0, 1, [], 5)) none) (cond (Nat.ble pc 5) (cond (Nat.beq pc 5) (some (40, 116, 56, [], 8)) none) (cond (Nat.beq pc 8) (some (17, 1, 13, [], 11)) none)))) (cond (Nat.ble pc 12) (cond (Nat.ble pc 11) (cond (Nat.beq pc 11) (some (0, (-1), 0, [], 12)) none) (cond (Nat.beq pc 12) (some (41, 0, 0, [], 13)) none)) (cond (Nat.ble pc 13) (cond (Nat.beq pc 13) (some (2, 0, 0, [], 14)) none) (cond (Nat.ble pc 14) (cond (Nat.beq pc 14) (some (22, 7, 57, [7], 17)) none) (cond (Nat.beq pc 17) (some (2, 0, 0, [], 18)) none))))) (cond (Nat.ble pc 28) (cond (Nat.ble pc 21) (cond (Nat.ble pc 18) (cond (Nat.beq pc 18) (some (22, 6, 50, [7], 21)) none) (cond (Nat.beq pc 21) (some (40, 101, 16, [], 24)) none)) (cond (Nat.ble pc 24) (cond (Nat.beq pc 24) (some (2, 0, 0, [], 25)) none) (cond (Nat.ble pc 25) (cond (Nat.beq pc 25) (some (22, 6, 50, [7], 28)) none) (cond (Nat.beq pc 28) (some (1, 0, 1, [], 29)) none)))) (cond (Nat.ble pc 34) (cond (Nat.ble pc 29) (cond (Nat.beq pc 29) (some (0, (-9), 0, [], 31)) none) (cond (Nat.ble pc 31) (cond (Nat.beq pc 31) (some (40, 120, 55, [], 34)) none) (cond (Nat.beq pc 34) (some (2, 0, 0, [], 35)) none))) (cond (Nat.ble pc 35) (cond (Nat.beq pc 35) (some (22, 6, 50, [7], 38)) none) (cond (Nat.ble pc 38) (cond (Nat.beq pc 38) (some (40, 124, 58, [], 41)) none) (cond (Nat.beq pc 41) (some (41, 0, 0, [], 42)) none)))))) none
def qc68 (pc : Nat) : Option qX := cond (Nat.ble pc 89) (cond (Nat.ble pc 43) (cond (Nat.ble pc 20) (cond (Nat.ble pc 8) (cond (Nat.ble pc 1) (cond (Nat.ble pc 0) (cond (Nat.beq pc 0) (some (2, 0, 0, [], 1)) none) (cond (Nat.beq pc 1) (some (22, 6, 50, [7], 4)) none)) (cond (Nat.ble pc 4) (cond (Nat.beq pc 4) (some (1, 0, 1, [], 5)) none) (cond (Nat.ble pc 5) (cond (Nat.beq pc 5) (some (40, 116, 56, [], 8)) none) (cond (Nat.beq pc 8) (some (17, 0, 30, [], 11)) none)))) (cond (Nat.ble pc 13) (cond (Nat.ble pc 11) (cond (Nat.beq pc 11) (some (2, 0, 0, [], 12)) none) (cond (Nat.ble pc 12) (cond (Nat.beq pc 12) (some (1, 0, 2, [], 13)) none) (cond (Nat.beq pc 13) (some (40, 127, 83, [], 16)) none))) (cond (Nat.ble pc 16) (cond (Nat.beq pc 16) (some (17, 0, 30, [], 19)) none) (cond (Nat.ble pc 19) (cond (Nat.beq pc 19) (some (1, 0, 3, [], 20)) none) (cond (Nat.beq pc 20) (some (17, 2, 30, [], 23)) none))))) (cond (Nat.ble pc 32) (cond (Nat.ble pc 27) (cond (Nat.ble pc 23) (cond (Nat.beq pc 23) (some (1, 0, 3, [], 24)) none) (cond (Nat.ble pc 24) (cond (Nat.beq pc 24) (some (0, 999, 0, [], 27)) none) (cond (Nat.beq pc 27) (some (16, 5, 32, [], 30)) none))) (cond (Nat.ble pc 30) (cond (Nat.beq pc 30) (some (0, (-1), 0, [], 31)) none) (cond (Nat.ble pc 31) (cond (Nat.beq pc 31) (some (41, 0, 0, [], 32)) none) (cond (Nat.beq pc 32) (some (2, 0, 0, [], 33)) none)))) (cond (Nat.ble pc 37) (cond (Nat.ble pc 33) (cond (Nat.beq pc 33) (some (1, 0, 1, [], 34)) none) (cond (Nat.ble pc 34) (cond (Nat.beq pc 34) (some (40, 130, 87, [], 37)) none) (cond (Nat.beq pc 37) (some (1, 0, 2, [], 38)) none))) (cond (Nat.ble pc 38) (cond (Nat.beq pc 38) (some (40, 134, 11, [], 41)) none) (cond (Nat.ble pc 41) (cond (Nat.beq pc 41) (some (3, 0, 4, [], 43)) none) (cond (Nat.beq pc 43) (some (1, 0, 4, [], 45)) none)))))) (cond (Nat.ble pc 65) (cond (Nat.ble pc 53) (cond (Nat.ble pc 47) (cond (Nat.ble pc 45) (cond (Nat.beq pc 45) (some (0, (-9), 0, [], 47)) none) (cond (Nat.beq pc 47) (some (16, 1, 53, [], 50)) none)) (cond (Nat.ble pc 50) (cond (Nat.beq pc 50) (some (0, (-2), 0, [], 52)) none) (cond (Nat.ble pc 52) (cond (Nat.beq pc 52) (some (41, 0, 0, [], 53)) none) (cond (Nat.beq pc 53) (some (2, 0, 0, [], 54)) none)))) (cond (Nat.ble pc 58) (cond (Nat.ble pc 54) (cond (Nat.beq pc 54) (some (22, 7, 57, [7], 57)) none) (cond (Nat.ble pc 57) (cond (Nat.beq pc 57) (some (2, 0, 0, [], 58)) none) (cond (Nat.beq pc 58) (some (22, 6, 50, [7], 61)) none))) (cond (Nat.ble pc 61) (cond (Nat.beq pc 61) (some (40, 101, 16, [], 64)) none) (cond (Nat.ble pc 64) (cond (Nat.beq pc 64) (some (2, 0, 0, [], 65)) none) (cond (Nat.beq pc 65) (some (22, 6, 50, [7], 68)) none))))) (cond (Nat.ble pc 77) (cond (Nat.ble pc 71) (cond (Nat.ble pc 68) (cond (Nat.beq pc 68) (some (1, 0, 1, [], 69)) none) (cond (Nat.ble pc 69) (cond (Nat.beq pc 69) (some (1, 0, 4, [], 71)) none) (cond (Nat.beq pc 71) (some (40, 138, 61, [], 74)) none))) (cond (Nat.ble pc 74) (cond (Nat.beq pc 74) (some (3, 0, 5, [], 76)) none) (cond (Nat.ble pc 76) (cond (Nat.beq pc 76) (some (2, 0, 0, [], 77)) none) (cond (Nat.beq pc 77) (some (22, 6, 50, [7], 80)) none)))) (cond (Nat.ble pc 83) (cond (Nat.ble pc 80) (cond (Nat.beq pc 80) (some (1, 0, 1, [], 81)) none) (cond (Nat.ble pc 81) (cond (Nat.beq pc 81) (some (1, 0, 4, [], 83)) none) (cond (Nat.beq pc 83) (some (1, 0, 3, [], 84)) none))) (cond (Nat.ble pc 84) (cond (Nat.beq pc 84) (some (40, 142, 62, [], 87)) none) (cond (Nat.ble pc 87) (cond (Nat.beq pc 87) (some (1, 0, 5, [], 89)) none) (cond (Nat.beq pc 89) (some (41, 0, 0, [], 90)) none))))))) none
def qc69 (pc : Nat) : Option qX := cond (Nat.ble pc 125) (cond (Nat.ble pc 56) (cond (Nat.ble pc 27) (cond (Nat.ble pc 13) (cond (Nat.ble pc 5) (cond (Nat.ble pc 1) (cond (Nat.ble pc 0) (cond (Nat.beq pc 0) (some (2, 0, 0, [], 1)) none) (cond (Nat.beq pc 1) (some (22, 6, 50, [7], 4)) none)) (cond (Nat.ble pc 4) (cond (Nat.beq pc 4) (some (1, 0, 1, [], 5)) none) (cond (Nat.beq pc 5) (some (40, 116, 56, [], 8)) none))) (cond (Nat.ble pc 11) (cond (Nat.ble pc 8) (cond (Nat.beq pc 8) (some (17, 0, 19, [], 11)) none) (cond (Nat.beq pc 11) (some (2, 0, 0, [], 12)) none)) (cond (Nat.ble pc 12) (cond (Nat.beq pc 12) (some (1, 0, 2, [], 13)) none) (cond (Nat.beq pc 13) (some (40, 127, 83, [], 16)) none)))) (cond (Nat.ble pc 21) (cond (Nat.ble pc 19) (cond (Nat.ble pc 16) (cond (Nat.beq pc 16) (some (17, 1, 21, [], 19)) none) (cond (Nat.beq pc 19) (some (0, (-1), 0, [], 20)) none)) (cond (Nat.ble pc 20) (cond (Nat.beq pc 20) (some (41, 0, 0, [], 21)) none) (cond (Nat.beq pc 21) (some (2, 0, 0, [], 22)) none))) (cond (Nat.ble pc 23) (cond (Nat.ble pc 22) (cond (Nat.beq pc 22) (some (1, 0, 1, [], 23)) none) (cond (Nat.beq pc 23) (some (40, 130, 87, [], 26)) none)) (cond (Nat.ble pc 26) (cond (Nat.beq pc 26) (some (4, 0, 3, [], 27)) none) (cond (Nat.beq pc 27) (some (2, 0, 3, [], 28)) none))))) (cond (Nat.ble pc 40) (cond (Nat.ble pc 35) (cond (Nat.ble pc 29) (cond (Nat.ble pc 28) (cond (Nat.beq pc 28) (some (1, 0, 2, [], 29)) none) (cond (Nat.beq pc 29) (some (40, 146, 10, [], 32)) none)) (cond (Nat.ble pc 32) (cond (Nat.beq pc 32) (some (17, 1, 49, [], 35)) none) (cond (Nat.beq pc 35) (some (2, 0, 3, [], 36)) none))) (cond (Nat.ble pc 38) (cond (Nat.ble pc 36) (cond (Nat.beq pc 36) (some (0, 100, 0, [], 38)) none) (cond (Nat.beq pc 38) (some (1, 0, 2, [], 39)) none)) (cond (Nat.ble pc 39) (cond (Nat.beq pc 39) (some (6, 0, 0, [], 40)) none) (cond (Nat.beq pc 40) (some (40, 146, 10, [], 43)) none)))) (cond (Nat.ble pc 49) (cond (Nat.ble pc 46) (cond (Nat.ble pc 43) (cond (Nat.beq pc 43) (some (17, 1, 49, [], 46)) none) (cond (Nat.beq pc 46) (some (0, (-2), 0, [], 48)) none)) (cond (Nat.ble pc 48) (cond (Nat.beq pc 48) (some (41, 0, 0, [], 49)) none) (cond (Nat.beq pc 49) (some (2, 0, 0, [], 50)) none))) (cond (Nat.ble pc 51) (cond (Nat.ble pc 50) (cond (Nat.beq pc 50) (some (2, 0, 3, [], 51)) none) (cond (Nat.beq pc 51) (some (1, 0, 2, [], 52)) none)) (cond (Nat.ble pc 52) (cond (Nat.beq pc 52) (some (40, 149, 90, [], 55)) none) (cond (Nat.ble pc 55) (cond (Nat.beq pc 55) (some (2, 0, 0, [], 56)) none) (cond (Nat.beq pc 56) (some (22, 4, 36, [7], 59)) none))))))) (cond (Nat.ble pc 93) (cond (Nat.ble pc 75) (cond (Nat.ble pc 64) (cond (Nat.ble pc 60) (cond (Nat.ble pc 59) (cond (Nat.beq pc 59) (some (2, 0, 0, [], 60)) none) (cond (Nat.beq pc 60) (some (22, 5, 43, [7], 63)) none)) (cond (Nat.ble pc 63) (cond (Nat.beq pc 63) (some (2, 0, 0, [], 64)) none) (cond (Nat.beq pc 64) (some (22, 6, 50, [7], 67)) none))) (cond (Nat.ble pc 70) (cond (Nat.ble pc 67) (cond (Nat.beq pc 67) (some (21, 3, 88, [6], 70)) none) (cond (Nat.beq pc 70) (some (40, 91, 49, [], 73)) none)) (cond (Nat.ble pc 73) (cond (Nat.beq pc 73) (some (3, 0, 4, [], 75)) none) (cond (Nat.beq pc 75) (some (1, 0, 4, [], 77)) none)))) (cond (Nat.ble pc 84) (cond (Nat.ble pc 79) (cond (Nat.ble pc 77) (cond (Nat.beq pc 77) (some (0, 40, 0, [], 79)) none) (cond (Nat.beq pc 79) (some (16, 2, 85, [], 82)) none)) (cond (Nat.ble pc 82) (cond (Nat.beq pc 82) (some (0, (-3), 0, [], 84)) none) (cond (Nat.beq pc 84) (some (41, 0, 0, [], 85)) none))) (cond (Nat.ble pc 86) (cond (Nat.ble pc 85) (cond (Nat.beq pc 85) (some (2, 0, 0, [], 86)) none) (cond (Nat.beq pc 86) (some (22, 7, 57, [7], 89)) none)) (cond (Nat.ble pc 89) (cond (Nat.beq pc 89) (some (2, 0, 0, [], 90)) none) (cond (Nat.ble pc 90) (cond (Nat.beq pc 90) (some (22, 6, 50, [7], 93)) none) (cond (Nat.beq pc 93) (some (40, 101, 16, [], 96)) none)))))) (cond (Nat.ble pc 108) (cond (Nat.ble pc 100) (cond (Nat.ble pc 97) (cond (Nat.ble pc 96) (cond (Nat.beq pc 96) (some (2, 0, 0, [], 97)) none) (cond (Nat.beq pc 97) (some (1, 0, 4, [], 99)) none)) (cond (Nat.ble pc 99) (cond (Nat.beq pc 99) (some (2, 0, 0, [], 100)) none) (cond (Nat.beq pc 100) (some (22, 5, 43, [7], 103)) none))) (cond (Nat.ble pc 106) (cond (Nat.ble pc 103) (cond (Nat.beq pc 103) (some (40, 105, 89, [], 106)) none) (cond (Nat.beq pc 106) (some (2, 0, 0, [], 107)) none)) (cond (Nat.ble pc 107) (cond (Nat.beq pc 107) (some (1, 0, 1, [], 108)) none) (cond (Nat.beq pc 108) (some (2, 0, 3, [], 109)) none)))) (cond (Nat.ble pc 114) (cond (Nat.ble pc 110) (cond (Nat.ble pc 109) (cond (Nat.beq pc 109) (some (1, 0, 2, [], 110)) none) (cond (Nat.beq pc 110) (some (40, 153, 91, [], 113)) none)) (cond (Nat.ble pc 113) (cond (Nat.beq pc 113) (some (2, 0, 0, [], 114)) none) (cond (Nat.beq pc 114) (some (22, 6, 50, [7], 117)) none))) (cond (Nat.ble pc 118) (cond (Nat.ble pc 117) (cond (Nat.beq pc 117) (some (1, 0, 1, [], 118)) none) (cond (Nat.beq pc 118) (some (1, 0, 4, [], 120)) none)) (cond (Nat.ble pc 120) (cond (Nat.beq pc 120) (some (40, 120, 55, [], 123)) none) (cond (Nat.ble pc 123) (cond (Nat.beq pc 123) (some (1, 0, 4, [], 125)) none) (cond (Nat.beq pc 125) (some (41, 0, 0, [], 126)) none)))))))) none
def qc70 (pc : Nat) : Option qX := cond (Nat.ble pc 33) (cond (Nat.ble pc 14) (cond (Nat.ble pc 5) (cond (Nat.ble pc 1) (cond (Nat.ble pc 0) (cond (Nat.beq pc 0) (some (2, 0, 0, [], 1)) none) (cond (Nat.beq pc 1) (some (1, 0, 1, [], 2)) none)) (cond (Nat.ble pc 2) (cond (Nat.beq pc 2) (some (40, 157, 85, [], 5)) none) (cond (Nat.beq pc 5) (some (17, 1, 10, [], 8)) none))) (cond (Nat.ble pc 9) (cond (Nat.ble pc 8) (cond (Nat.beq pc 8) (some (0, (-1), 0, [], 9)) none) (cond (Nat.beq pc 9) (some (41, 0, 0, [], 10)) none)) (cond (Nat.ble pc 10) (cond (Nat.beq pc 10) (some (2, 0, 0, [], 11)) none) (cond (Nat.ble pc 11) (cond (Nat.beq pc 11) (some (22, 7, 57, [7], 14)) none) (cond (Nat.beq pc 14) (some (2, 0, 0, [], 15)) none))))) (cond (Nat.ble pc 22) (cond (Nat.ble pc 18) (cond (Nat.ble pc 15) (cond (Nat.beq pc 15) (some (22, 6, 50, [7], 18)) none) (cond (Nat.beq pc 18) (some (40, 101, 16, [], 21)) none)) (cond (Nat.ble pc 21) (cond (Nat.beq pc 21) (some (2, 0, 0, [], 22)) none) (cond (Nat.beq pc 22) (some (22, 6, 50, [7], 25)) none))) (cond (Nat.ble pc 26) (cond (Nat.ble pc 25) (cond (Nat.beq pc 25) (some (1, 0, 1, [], 26)) none) (cond (Nat.beq pc 26) (some (23, 4, 160, [6], 29)) none)) (cond (Nat.ble pc 29) (cond (Nat.beq pc 29) (some (2, 0, 0, [], 30)) none) (cond (Nat.ble pc 30) (cond (Nat.beq pc 30) (some (40, 163, 92, [], 33)) none) (cond (Nat.beq pc 33) (some (41, 0, 0, [], 34)) none)))))) none
def qc71 (pc : Nat) : Option qX := cond (Nat.ble pc 31) (cond (Nat.ble pc 13) (cond (Nat.ble pc 4) (cond (Nat.ble pc 0) (cond (Nat.beq pc 0) (some (2, 0, 0, [], 1)) none) (cond (Nat.ble pc 1) (cond (Nat.beq pc 1) (some (22, 7, 57, [7], 4)) none) (cond (Nat.beq pc 4) (some (40, 166, 15, [], 7)) none))) (cond (Nat.ble pc 10) (cond (Nat.ble pc 7) (cond (Nat.beq pc 7) (some (17, 1, 13, [], 10)) none) (cond (Nat.beq pc 10) (some (0, (-2), 0, [], 12)) none)) (cond (Nat.ble pc 12) (cond (Nat.beq pc 12) (some (41, 0, 0, [], 13)) none) (cond (Nat.beq pc 13) (some (2, 0, 0, [], 14)) none)))) (cond (Nat.ble pc 21) (cond (Nat.ble pc 17) (cond (Nat.ble pc 14) (cond (Nat.beq pc 14) (some (22, 7, 57, [7], 17)) none) (cond (Nat.beq pc 17) (some (2, 0, 0, [], 18)) none)) (cond (Nat.ble pc 18) (cond (Nat.beq pc 18) (some (22, 6, 50, [7], 21)) none) (cond (Nat.beq pc 21) (some (40, 167, 18, [], 24)) none))) (cond (Nat.ble pc 25) (cond (Nat.ble pc 24) (cond (Nat.beq pc 24) (some (2, 0, 0, [], 25)) none) (cond (Nat.beq pc 25) (some (22, 7, 57, [7], 28)) none)) (cond (Nat.ble pc 28) (cond (Nat.beq pc 28) (some (40, 166, 15, [], 31)) none) (cond (Nat.beq pc 31) (some (41, 0, 0, [], 32)) none))))) none
def qc72 (pc : Nat) : Option qX := cond (Nat.ble pc 135) (cond (Nat.ble pc 93) (cond (Nat.ble pc 72) (cond (Nat.ble pc 60) (cond (Nat.ble pc 1) (cond (Nat.ble pc 0) (cond (Nat.beq pc 0) (some (1, 0, 1, [], 1)) none) (cond (Nat.beq pc 1) (some (20, 0, 134, [56, 64, 72, 80, 88, 93, 98, 110, 118, 126], 56)) none)) (cond (Nat.ble pc 56) (cond (Nat.beq pc 56) (some (2, 0, 0, [], 57)) none) (cond (Nat.ble pc 57) (cond (Nat.beq pc 57) (some (22, 6, 50, [7], 60)) none) (cond (Nat.beq pc 60) (some (40, 124, 58, [], 63)) none)))) (cond (Nat.ble pc 65) (cond (Nat.ble pc 63) (cond (Nat.beq pc 63) (some (41, 0, 0, [], 64)) none) (cond (Nat.ble pc 64) (cond (Nat.beq pc 64) (some (2, 0, 0, [], 65)) none) (cond (Nat.beq pc 65) (some (22, 6, 50, [7], 68)) none))) (cond (Nat.ble pc 68) (cond (Nat.beq pc 68) (some (40, 95, 57, [], 71)) none) (cond (Nat.ble pc 71) (cond (Nat.beq pc 71) (some (41, 0, 0, [], 72)) none) (cond (Nat.beq pc 72) (some (2, 0, 0, [], 73)) none))))) (cond (Nat.ble pc 81) (cond (Nat.ble pc 76) (cond (Nat.ble pc 73) (cond (Nat.beq pc 73) (some (22, 6, 50, [7], 76)) none) (cond (Nat.beq pc 76) (some (21, 2, 71, [6], 79)) none)) (cond (Nat.ble pc 79) (cond (Nat.beq pc 79) (some (41, 0, 0, [], 80)) none) (cond (Nat.ble pc 80) (cond (Nat.beq pc 80) (some (2, 0, 0, [], 81)) none) (cond (Nat.beq pc 81) (some (22, 6, 50, [7], 84)) none)))) (cond (Nat.ble pc 88) (cond (Nat.ble pc 84) (cond (Nat.beq pc 84) (some (21, 3, 88, [6], 87)) none) (cond (Nat.ble pc 87) (cond (Nat.beq pc 87) (some (41, 0, 0, [], 88)) none) (cond (Nat.beq pc 88) (some (2, 0, 0, [], 89)) none))) (cond (Nat.ble pc 89) (cond (Nat.beq pc 89) (some (40, 163, 92, [], 92)) none) (cond (Nat.ble pc 92) (cond (Nat.beq pc 92) (some (41, 0, 0, [], 93)) none) (cond (Nat.beq pc 93) (some (2, 0, 0, [], 94)) none)))))) (cond (Nat.ble pc 114) (cond (Nat.ble pc 100) (cond (Nat.ble pc 97) (cond (Nat.ble pc 94) (cond (Nat.beq pc 94) (some (40, 170, 93, [], 97)) none) (cond (Nat.beq pc 97) (some (41, 0, 0, [], 98)) none)) (cond (Nat.ble pc 98) (cond (Nat.beq pc 98) (some (2, 0, 0, [], 99)) none) (cond (Nat.ble pc 99) (cond (Nat.beq pc 99) (some (2, 0, 0, [], 100)) none) (cond (Nat.beq pc 100) (some (22, 6, 50, [7], 103)) none)))) (cond (Nat.ble pc 109) (cond (Nat.ble pc 103) (cond (Nat.beq pc 103) (some (21, 4, 160, [6], 106)) none) (cond (Nat.ble pc 106) (cond (Nat.beq pc 106) (some (40, 173, 94, [], 109)) none) (cond (Nat.beq pc 109) (some (41, 0, 0, [], 110)) none))) (cond (Nat.ble pc 110) (cond (Nat.beq pc 110) (some (2, 0, 0, [], 111)) none) (cond (Nat.ble pc 111) (cond (Nat.beq pc 111) (some (22, 6, 50, [7], 114)) none) (cond (Nat.beq pc 114) (some (21, 4, 160, [6], 117)) none))))) (cond (Nat.ble pc 125) (cond (Nat.ble pc 118) (cond (Nat.ble pc 117) (cond (Nat.beq pc 117) (some (41, 0, 0, [], 118)) none) (cond (Nat.beq pc 118) (some (2, 0, 0, [], 119)) none)) (cond (Nat.ble pc 119) (cond (Nat.beq pc 119) (some (22, 7, 57, [7], 122)) none) (cond (Nat.ble pc 122) (cond (Nat.beq pc 122) (some (40, 166, 15, [], 125)) none) (cond (Nat.beq pc 125) (some (41, 0, 0, [], 126)) none)))) (cond (Nat.ble pc 130) (cond (Nat.ble pc 126) (cond (Nat.beq pc 126) (some (2, 0, 0, [], 127)) none) (cond (Nat.ble pc 127) (cond (Nat.beq pc 127) (some (22, 0, 14, [7], 130)) none) (cond (Nat.beq pc 130) (some (40, 61, 40, [], 133)) none))) (cond (Nat.ble pc 133) (cond (Nat.beq pc 133) (some (41, 0, 0, [], 134)) none) (cond (Nat.ble pc 134) (cond (Nat.beq pc 134) (some (0, (-1), 0, [], 135)) none) (cond (Nat.beq pc 135) (some (41, 0, 0, [], 136)) none))))))) none
def qc73 (pc : Nat) : Option qX := cond (Nat.ble pc 93) (cond (Nat.ble pc 64) (cond (Nat.ble pc 14) (cond (Nat.ble pc 5) (cond (Nat.ble pc 1) (cond (Nat.ble pc 0) (cond (Nat.beq pc 0) (some (2, 0, 0, [], 1)) none) (cond (Nat.beq pc 1) (some (22, 6, 50, [7], 4)) none)) (cond (Nat.ble pc 4) (cond (Nat.beq pc 4) (some (1, 0, 1, [], 5)) none) (cond (Nat.beq pc 5) (some (40, 116, 56, [], 8)) none))) (cond (Nat.ble pc 11) (cond (Nat.ble pc 8) (cond (Nat.beq pc 8) (some (17, 1, 13, [], 11)) none) (cond (Nat.beq pc 11) (some (0, (-1), 0, [], 12)) none)) (cond (Nat.ble pc 12) (cond (Nat.beq pc 12) (some (41, 0, 0, [], 13)) none) (cond (Nat.ble pc 13) (cond (Nat.beq pc 13) (some (2, 0, 0, [], 14)) none) (cond (Nat.beq pc 14) (some (1, 0, 1, [], 15)) none))))) (cond (Nat.ble pc 20) (cond (Nat.ble pc 18) (cond (Nat.ble pc 15) (cond (Nat.beq pc 15) (some (40, 130, 87, [], 18)) none) (cond (Nat.beq pc 18) (some (4, 0, 3, [], 19)) none)) (cond (Nat.ble pc 19) (cond (Nat.beq pc 19) (some (1, 0, 2, [], 20)) none) (cond (Nat.beq pc 20) (some (20, 0, 92, [56, 65, 70, 75, 82], 56)) none))) (cond (Nat.ble pc 57) (cond (Nat.ble pc 56) (cond (Nat.beq pc 56) (some (2, 0, 0, [], 57)) none) (cond (Nat.beq pc 57) (some (22, 6, 50, [7], 60)) none)) (cond (Nat.ble pc 60) (cond (Nat.beq pc 60) (some (1, 0, 1, [], 61)) none) (cond (Nat.ble pc 61) (cond (Nat.beq pc 61) (some (40, 176, 54, [], 64)) none) (cond (Nat.beq pc 64) (some (41, 0, 0, [], 65)) none)))))) (cond (Nat.ble pc 77) (cond (Nat.ble pc 70) (cond (Nat.ble pc 66) (cond (Nat.ble pc 65) (cond (Nat.beq pc 65) (some (2, 0, 3, [], 66)) none) (cond (Nat.beq pc 66) (some (40, 179, 5, [], 69)) none)) (cond (Nat.ble pc 69) (cond (Nat.beq pc 69) (some (41, 0, 0, [], 70)) none) (cond (Nat.beq pc 70) (some (2, 0, 3, [], 71)) none))) (cond (Nat.ble pc 74) (cond (Nat.ble pc 71) (cond (Nat.beq pc 71) (some (40, 182, 6, [], 74)) none) (cond (Nat.beq pc 74) (some (41, 0, 0, [], 75)) none)) (cond (Nat.ble pc 75) (cond (Nat.beq pc 75) (some (2, 0, 0, [], 76)) none) (cond (Nat.ble pc 76) (cond (Nat.beq pc 76) (some (2, 0, 3, [], 77)) none) (cond (Nat.beq pc 77) (some (1, 0, 1, [], 78)) none))))) (cond (Nat.ble pc 84) (cond (Nat.ble pc 81) (cond (Nat.ble pc 78) (cond (Nat.beq pc 78) (some (40, 185, 99, [], 81)) none) (cond (Nat.beq pc 81) (some (41, 0, 0, [], 82)) none)) (cond (Nat.ble pc 82) (cond (Nat.beq pc 82) (some (2, 0, 0, [], 83)) none) (cond (Nat.ble pc 83) (cond (Nat.beq pc 83) (some (1, 0, 1, [], 84)) none) (cond (Nat.beq pc 84) (some (2, 0, 3, [], 85)) none)))) (cond (Nat.ble pc 88) (cond (Nat.ble pc 85) (cond (Nat.beq pc 85) (some (40, 179, 5, [], 88)) none) (cond (Nat.beq pc 88) (some (40, 188, 98, [], 91)) none)) (cond (Nat.ble pc 91) (cond (Nat.beq pc 91) (some (41, 0, 0, [], 92)) none) (cond (Nat.ble pc 92) (cond (Nat.beq pc 92) (some (0, (-1), 0, [], 93)) none) (cond (Nat.beq pc 93) (some (41, 0, 0, [], 94)) none))))))) none
def qc74 (pc : Nat) : Option qX := cond (Nat.ble pc 46) (cond (Nat.ble pc 20) (cond (Nat.ble pc 11) (cond (Nat.ble pc 4) (cond (Nat.ble pc 0) (cond (Nat.beq pc 0) (some (2, 0, 0, [], 1)) none) (cond (Nat.ble pc 1) (cond (Nat.beq pc 1) (some (22, 6, 50, [7], 4)) none) (cond (Nat.beq pc 4) (some (1, 0, 1, [], 5)) none))) (cond (Nat.ble pc 5) (cond (Nat.beq pc 5) (some (40, 116, 56, [], 8)) none) (cond (Nat.ble pc 8) (cond (Nat.beq pc 8) (some (17, 0, 15, [], 11)) none) (cond (Nat.beq pc 11) (some (1, 0, 2, [], 12)) none)))) (cond (Nat.ble pc 16) (cond (Nat.ble pc 12) (cond (Nat.beq pc 12) (some (17, 3, 17, [], 15)) none) (cond (Nat.ble pc 15) (cond (Nat.beq pc 15) (some (0, (-1), 0, [], 16)) none) (cond (Nat.beq pc 16) (some (41, 0, 0, [], 17)) none))) (cond (Nat.ble pc 18) (cond (Nat.ble pc 17) (cond (Nat.beq pc 17) (some (2, 0, 0, [], 18)) none) (cond (Nat.beq pc 18) (some (2, 0, 0, [], 19)) none)) (cond (Nat.ble pc 19) (cond (Nat.beq pc 19) (some (1, 0, 1, [], 20)) none) (cond (Nat.beq pc 20) (some (40, 130, 87, [], 23)) none))))) (cond (Nat.ble pc 30) (cond (Nat.ble pc 27) (cond (Nat.ble pc 23) (cond (Nat.beq pc 23) (some (1, 0, 1, [], 24)) none) (cond (Nat.ble pc 24) (cond (Nat.beq pc 24) (some (40, 185, 99, [], 27)) none) (cond (Nat.beq pc 27) (some (3, 0, 3, [], 28)) none))) (cond (Nat.ble pc 28) (cond (Nat.beq pc 28) (some (1, 0, 2, [], 29)) none) (cond (Nat.ble pc 29) (cond (Nat.beq pc 29) (some (1, 0, 3, [], 30)) none) (cond (Nat.beq pc 30) (some (16, 3, 44, [], 33)) none)))) (cond (Nat.ble pc 37) (cond (Nat.ble pc 33) (cond (Nat.beq pc 33) (some (2, 0, 0, [], 34)) none) (cond (Nat.ble pc 34) (cond (Nat.beq pc 34) (some (22, 1, 18, [7], 37)) none) (cond (Nat.beq pc 37) (some (1, 0, 2, [], 38)) none))) (cond (Nat.ble pc 41) (cond (Nat.ble pc 38) (cond (Nat.beq pc 38) (some (40, 191, 42, [], 41)) none) (cond (Nat.beq pc 41) (some (15, 0, 46, [], 44)) none)) (cond (Nat.ble pc 44) (cond (Nat.beq pc 44) (some (0, (-9), 0, [], 46)) none) (cond (Nat.beq pc 46) (some (41, 0, 0, [], 47)) none)))))) none
def qc75 (pc : Nat) : Option qX := cond (Nat.ble pc 51) (cond (Nat.ble pc 23) (cond (Nat.ble pc 12) (cond (Nat.ble pc 4) (cond (Nat.ble pc 0) (cond (Nat.beq pc 0) (some (2, 0, 0, [], 1)) none) (cond (Nat.ble pc 1) (cond (Nat.beq pc 1) (some (22, 6, 50, [7], 4)) none) (cond (Nat.beq pc 4) (some (1, 0, 1, [], 5)) none))) (cond (Nat.ble pc 8) (cond (Nat.ble pc 5) (cond (Nat.beq pc 5) (some (40, 116, 56, [], 8)) none) (cond (Nat.beq pc 8) (some (17, 0, 19, [], 11)) none)) (cond (Nat.ble pc 11) (cond (Nat.beq pc 11) (some (2, 0, 0, [], 12)) none) (cond (Nat.beq pc 12) (some (1, 0, 2, [], 13)) none)))) (cond (Nat.ble pc 19) (cond (Nat.ble pc 13) (cond (Nat.beq pc 13) (some (40, 127, 83, [], 16)) none) (cond (Nat.ble pc 16) (cond (Nat.beq pc 16) (some (17, 1, 21, [], 19)) none) (cond (Nat.beq pc 19) (some (0, (-1), 0, [], 20)) none))) (cond (Nat.ble pc 21) (cond (Nat.ble pc 20) (cond (Nat.beq pc 20) (some (41, 0, 0, [], 21)) none) (cond (Nat.beq pc 21) (some (2, 0, 0, [], 22)) none)) (cond (Nat.ble pc 22) (cond (Nat.beq pc 22) (some (1, 0, 1, [], 23)) none) (cond (Nat.beq pc 23) (some (40, 130, 87, [], 26)) none))))) (cond (Nat.ble pc 37) (cond (Nat.ble pc 30) (cond (Nat.ble pc 26) (cond (Nat.beq pc 26) (some (1, 0, 2, [], 27)) none) (cond (Nat.ble pc 27) (cond (Nat.beq pc 27) (some (40, 134, 11, [], 30)) none) (cond (Nat.beq pc 30) (some (3, 0, 3, [], 31)) none))) (cond (Nat.ble pc 32) (cond (Nat.ble pc 31) (cond (Nat.beq pc 31) (some (1, 0, 3, [], 32)) none) (cond (Nat.beq pc 32) (some (0, (-9), 0, [], 34)) none)) (cond (Nat.ble pc 34) (cond (Nat.beq pc 34) (some (16, 1, 42, [], 37)) none) (cond (Nat.beq pc 37) (some (0, (-9), 0, [], 39)) none)))) (cond (Nat.ble pc 43) (cond (Nat.ble pc 39) (cond (Nat.beq pc 39) (some (15, 0, 51, [], 42)) none) (cond (Nat.ble pc 42) (cond (Nat.beq pc 42) (some (2, 0, 0, [], 43)) none) (cond (Nat.beq pc 43) (some (22, 6, 50, [7], 46)) none))) (cond (Nat.ble pc 47) (cond (Nat.ble pc 46) (cond (Nat.beq pc 46) (some (1, 0, 1, [], 47)) none) (cond (Nat.beq pc 47) (some (1, 0, 3, [], 48)) none)) (cond (Nat.ble pc 48) (cond (Nat.beq pc 48) (some (40, 138, 61, [], 51)) none) (cond (Nat.beq pc 51) (some (41, 0, 0, [], 52)) none)))))) none
def qc76 (pc : Nat) : Option qX := cond (Nat.ble pc 94) (cond (Nat.ble pc 66) (cond (Nat.ble pc 48) (cond (Nat.ble pc 5) (cond (Nat.ble pc 1) (cond (Nat.ble pc 0) (cond (Nat.beq pc 0) (some (2, 0, 0, [], 1)) none) (cond (Nat.beq pc 1) (some (1, 0, 1, [], 2)) none)) (cond (Nat.ble pc 2) (cond (Nat.beq pc 2) (some (40, 127, 83, [], 5)) none) (cond (Nat.beq pc 5) (some (17, 1, 10, [], 8)) none))) (cond (Nat.ble pc 9) (cond (Nat.ble pc 8) (cond (Nat.beq pc 8) (some (0, (-1), 0, [], 9)) none) (cond (Nat.beq pc 9) (some (41, 0, 0, [], 10)) none)) (cond (Nat.ble pc 10) (cond (Nat.beq pc 10) (some (1, 0, 2, [], 11)) none) (cond (Nat.ble pc 11) (cond (Nat.beq pc 11) (some (20, 0, 93, [48, 57, 66, 72, 81, 87], 48)) none) (cond (Nat.beq pc 48) (some (2, 0, 0, [], 49)) none))))) (cond (Nat.ble pc 57) (cond (Nat.ble pc 52) (cond (Nat.ble pc 49) (cond (Nat.beq pc 49) (some (22, 3, 32, [7], 52)) none) (cond (Nat.beq pc 52) (some (1, 0, 1, [], 53)) none)) (cond (Nat.ble pc 53) (cond (Nat.beq pc 53) (some (40, 194, 22, [], 56)) none) (cond (Nat.ble pc 56) (cond (Nat.beq pc 56) (some (41, 0, 0, [], 57)) none) (cond (Nat.beq pc 57) (some (2, 0, 0, [], 58)) none)))) (cond (Nat.ble pc 61) (cond (Nat.ble pc 58) (cond (Nat.beq pc 58) (some (22, 3, 32, [7], 61)) none) (cond (Nat.beq pc 61) (some (1, 0, 1, [], 62)) none)) (cond (Nat.ble pc 62) (cond (Nat.beq pc 62) (some (40, 197, 23, [], 65)) none) (cond (Nat.ble pc 65) (cond (Nat.beq pc 65) (some (41, 0, 0, [], 66)) none) (cond (Nat.beq pc 66) (some (2, 0, 0, [], 67)) none)))))) (cond (Nat.ble pc 80) (cond (Nat.ble pc 72) (cond (Nat.ble pc 68) (cond (Nat.ble pc 67) (cond (Nat.beq pc 67) (some (1, 0, 1, [], 68)) none) (cond (Nat.beq pc 68) (some (40, 200, 96, [], 71)) none)) (cond (Nat.ble pc 71) (cond (Nat.beq pc 71) (some (41, 0, 0, [], 72)) none) (cond (Nat.beq pc 72) (some (2, 0, 0, [], 73)) none))) (cond (Nat.ble pc 75) (cond (Nat.ble pc 73) (cond (Nat.beq pc 73) (some (0, 100, 0, [], 75)) none) (cond (Nat.beq pc 75) (some (1, 0, 1, [], 76)) none)) (cond (Nat.ble pc 76) (cond (Nat.beq pc 76) (some (6, 0, 0, [], 77)) none) (cond (Nat.ble pc 77) (cond (Nat.beq pc 77) (some (40, 200, 96, [], 80)) none) (cond (Nat.beq pc 80) (some (41, 0, 0, [], 81)) none))))) (cond (Nat.ble pc 87) (cond (Nat.ble pc 82) (cond (Nat.ble pc 81) (cond (Nat.beq pc 81) (some (2, 0, 0, [], 82)) none) (cond (Nat.beq pc 82) (some (1, 0, 1, [], 83)) none)) (cond (Nat.ble pc 83) (cond (Nat.beq pc 83) (some (40, 203, 97, [], 86)) none) (cond (Nat.ble pc 86) (cond (Nat.beq pc 86) (some (41, 0, 0, [], 87)) none) (cond (Nat.beq pc 87) (some (2, 0, 0, [], 88)) none)))) (cond (Nat.ble pc 89) (cond (Nat.ble pc 88) (cond (Nat.beq pc 88) (some (1, 0, 1, [], 89)) none) (cond (Nat.beq pc 89) (some (40, 206, 95, [], 92)) none)) (cond (Nat.ble pc 92) (cond (Nat.beq pc 92) (some (41, 0, 0, [], 93)) none) (cond (Nat.ble pc 93) (cond (Nat.beq pc 93) (some (0, (-1), 0, [], 94)) none) (cond (Nat.beq pc 94) (some (41, 0, 0, [], 95)) none))))))) none
def qc77 (pc : Nat) : Option qX := cond (Nat.ble pc 98) (cond (Nat.ble pc 65) (cond (Nat.ble pc 14) (cond (Nat.ble pc 5) (cond (Nat.ble pc 1) (cond (Nat.ble pc 0) (cond (Nat.beq pc 0) (some (2, 0, 0, [], 1)) none) (cond (Nat.beq pc 1) (some (1, 0, 1, [], 2)) none)) (cond (Nat.ble pc 2) (cond (Nat.beq pc 2) (some (40, 209, 84, [], 5)) none) (cond (Nat.beq pc 5) (some (17, 1, 10, [], 8)) none))) (cond (Nat.ble pc 9) (cond (Nat.ble pc 8) (cond (Nat.beq pc 8) (some (0, (-1), 0, [], 9)) none) (cond (Nat.beq pc 9) (some (41, 0, 0, [], 10)) none)) (cond (Nat.ble pc 10) (cond (Nat.beq pc 10) (some (2, 0, 0, [], 11)) none) (cond (Nat.ble pc 11) (cond (Nat.beq pc 11) (some (22, 4, 36, [7], 14)) none) (cond (Nat.beq pc 14) (some (1, 0, 1, [], 15)) none))))) (cond (Nat.ble pc 56) (cond (Nat.ble pc 18) (cond (Nat.ble pc 15) (cond (Nat.beq pc 15) (some (40, 212, 48, [], 18)) none) (cond (Nat.beq pc 18) (some (4, 0, 3, [], 19)) none)) (cond (Nat.ble pc 19) (cond (Nat.beq pc 19) (some (1, 0, 2, [], 20)) none) (cond (Nat.ble pc 20) (cond (Nat.beq pc 20) (some (20, 0, 97, [56, 65, 79, 84, 89], 56)) none) (cond (Nat.beq pc 56) (some (2, 0, 0, [], 57)) none)))) (cond (Nat.ble pc 60) (cond (Nat.ble pc 57) (cond (Nat.beq pc 57) (some (22, 6, 50, [7], 60)) none) (cond (Nat.beq pc 60) (some (1, 0, 1, [], 61)) none)) (cond (Nat.ble pc 61) (cond (Nat.beq pc 61) (some (40, 215, 59, [], 64)) none) (cond (Nat.ble pc 64) (cond (Nat.beq pc 64) (some (41, 0, 0, [], 65)) none) (cond (Nat.beq pc 65) (some (2, 0, 0, [], 66)) none)))))) (cond (Nat.ble pc 83) (cond (Nat.ble pc 74) (cond (Nat.ble pc 67) (cond (Nat.ble pc 66) (cond (Nat.beq pc 66) (some (1, 0, 1, [], 67)) none) (cond (Nat.beq pc 67) (some (40, 218, 86, [], 70)) none)) (cond (Nat.ble pc 70) (cond (Nat.beq pc 70) (some (17, 0, 77, [], 73)) none) (cond (Nat.ble pc 73) (cond (Nat.beq pc 73) (some (0, 1, 0, [], 74)) none) (cond (Nat.beq pc 74) (some (15, 0, 78, [], 77)) none)))) (cond (Nat.ble pc 78) (cond (Nat.ble pc 77) (cond (Nat.beq pc 77) (some (0, 0, 0, [], 78)) none) (cond (Nat.beq pc 78) (some (41, 0, 0, [], 79)) none)) (cond (Nat.ble pc 79) (cond (Nat.beq pc 79) (some (2, 0, 3, [], 80)) none) (cond (Nat.ble pc 80) (cond (Nat.beq pc 80) (some (40, 179, 5, [], 83)) none) (cond (Nat.beq pc 83) (some (41, 0, 0, [], 84)) none))))) (cond (Nat.ble pc 90) (cond (Nat.ble pc 85) (cond (Nat.ble pc 84) (cond (Nat.beq pc 84) (some (2, 0, 3, [], 85)) none) (cond (Nat.beq pc 85) (some (40, 182, 6, [], 88)) none)) (cond (Nat.ble pc 88) (cond (Nat.beq pc 88) (some (41, 0, 0, [], 89)) none) (cond (Nat.ble pc 89) (cond (Nat.beq pc 89) (some (2, 0, 0, [], 90)) none) (cond (Nat.beq pc 90) (some (2, 0, 3, [], 91)) none)))) (cond (Nat.ble pc 93) (cond (Nat.ble pc 91) (cond (Nat.beq pc 91) (some (0, (-9), 0, [], 93)) none) (cond (Nat.beq pc 93) (some (40, 185, 99, [], 96)) none)) (cond (Nat.ble pc 96) (cond (Nat.beq pc 96) (some (41, 0, 0, [], 97)) none) (cond (Nat.ble pc 97) (cond (Nat.beq pc 97) (some (0, (-1), 0, [], 98)) none) (cond (Nat.beq pc 98) (some (41, 0, 0, [], 99)) none))))))) none
def qc78 (pc : Nat) : Option qX := cond (Nat.ble pc 75) (cond (Nat.ble pc 34) (cond (Nat.ble pc 17) (cond (Nat.ble pc 8) (cond (Nat.ble pc 1) (cond (Nat.ble pc 0) (cond (Nat.beq pc 0) (some (2, 0, 0, [], 1)) none) (cond (Nat.beq pc 1) (some (1, 0, 1, [], 2)) none)) (cond (Nat.ble pc 2) (cond (Nat.beq pc 2) (some (40, 209, 84, [], 5)) none) (cond (Nat.ble pc 5) (cond (Nat.beq pc 5) (some (17, 0, 16, [], 8)) none) (cond (Nat.beq pc 8) (some (1, 0, 2, [], 9)) none)))) (cond (Nat.ble pc 12) (cond (Nat.ble pc 9) (cond (Nat.beq pc 9) (some (17, 2, 16, [], 12)) none) (cond (Nat.beq pc 12) (some (1, 0, 3, [], 13)) none)) (cond (Nat.ble pc 13) (cond (Nat.beq pc 13) (some (17, 3, 18, [], 16)) none) (cond (Nat.ble pc 16) (cond (Nat.beq pc 16) (some (0, (-1), 0, [], 17)) none) (cond (Nat.beq pc 17) (some (41, 0, 0, [], 18)) none))))) (cond (Nat.ble pc 26) (cond (Nat.ble pc 19) (cond (Nat.ble pc 18) (cond (Nat.beq pc 18) (some (2, 0, 0, [], 19)) none) (cond (Nat.beq pc 19) (some (1, 0, 1, [], 20)) none)) (cond (Nat.ble pc 20) (cond (Nat.beq pc 20) (some (40, 218, 86, [], 23)) none) (cond (Nat.ble pc 23) (cond (Nat.beq pc 23) (some (17, 1, 29, [], 26)) none) (cond (Nat.beq pc 26) (some (0, (-2), 0, [], 28)) none)))) (cond (Nat.ble pc 29) (cond (Nat.ble pc 28) (cond (Nat.beq pc 28) (some (41, 0, 0, [], 29)) none) (cond (Nat.beq pc 29) (some (2, 0, 0, [], 30)) none)) (cond (Nat.ble pc 30) (cond (Nat.beq pc 30) (some (22, 6, 50, [7], 33)) none) (cond (Nat.ble pc 33) (cond (Nat.beq pc 33) (some (1, 0, 1, [], 34)) none) (cond (Nat.beq pc 34) (some (1, 0, 3, [], 35)) none)))))) (cond (Nat.ble pc 53) (cond (Nat.ble pc 44) (cond (Nat.ble pc 38) (cond (Nat.ble pc 35) (cond (Nat.beq pc 35) (some (40, 221, 60, [], 38)) none) (cond (Nat.beq pc 38) (some (3, 0, 4, [], 40)) none)) (cond (Nat.ble pc 40) (cond (Nat.beq pc 40) (some (1, 0, 4, [], 42)) none) (cond (Nat.ble pc 42) (cond (Nat.beq pc 42) (some (0, (-9), 0, [], 44)) none) (cond (Nat.beq pc 44) (some (16, 0, 62, [], 47)) none)))) (cond (Nat.ble pc 48) (cond (Nat.ble pc 47) (cond (Nat.beq pc 47) (some (1, 0, 2, [], 48)) none) (cond (Nat.beq pc 48) (some (2, 0, 0, [], 49)) none)) (cond (Nat.ble pc 49) (cond (Nat.beq pc 49) (some (22, 4, 36, [7], 52)) none) (cond (Nat.ble pc 52) (cond (Nat.beq pc 52) (some (1, 0, 1, [], 53)) none) (cond (Nat.beq pc 53) (some (40, 212, 48, [], 56)) none))))) (cond (Nat.ble pc 65) (cond (Nat.ble pc 59) (cond (Nat.ble pc 56) (cond (Nat.beq pc 56) (some (40, 179, 5, [], 59)) none) (cond (Nat.beq pc 59) (some (16, 2, 65, [], 62)) none)) (cond (Nat.ble pc 62) (cond (Nat.beq pc 62) (some (0, (-9), 0, [], 64)) none) (cond (Nat.ble pc 64) (cond (Nat.beq pc 64) (some (41, 0, 0, [], 65)) none) (cond (Nat.beq pc 65) (some (2, 0, 0, [], 66)) none)))) (cond (Nat.ble pc 69) (cond (Nat.ble pc 66) (cond (Nat.beq pc 66) (some (22, 6, 50, [7], 69)) none) (cond (Nat.beq pc 69) (some (1, 0, 4, [], 71)) none)) (cond (Nat.ble pc 71) (cond (Nat.beq pc 71) (some (1, 0, 2, [], 72)) none) (cond (Nat.ble pc 72) (cond (Nat.beq pc 72) (some (40, 138, 61, [], 75)) none) (cond (Nat.beq pc 75) (some (41, 0, 0, [], 76)) none))))))) none
def qc79 (pc : Nat) : Option qX := cond (Nat.ble pc 41) (cond (Nat.ble pc 18) (cond (Nat.ble pc 8) (cond (Nat.ble pc 1) (cond (Nat.ble pc 0) (cond (Nat.beq pc 0) (some (2, 0, 0, [], 1)) none) (cond (Nat.beq pc 1) (some (1, 0, 1, [], 2)) none)) (cond (Nat.ble pc 2) (cond (Nat.beq pc 2) (some (40, 209, 84, [], 5)) none) (cond (Nat.ble pc 5) (cond (Nat.beq pc 5) (some (17, 0, 12, [], 8)) none) (cond (Nat.beq pc 8) (some (1, 0, 2, [], 9)) none)))) (cond (Nat.ble pc 13) (cond (Nat.ble pc 9) (cond (Nat.beq pc 9) (some (17, 3, 14, [], 12)) none) (cond (Nat.ble pc 12) (cond (Nat.beq pc 12) (some (0, (-1), 0, [], 13)) none) (cond (Nat.beq pc 13) (some (41, 0, 0, [], 14)) none))) (cond (Nat.ble pc 14) (cond (Nat.beq pc 14) (some (2, 0, 0, [], 15)) none) (cond (Nat.ble pc 15) (cond (Nat.beq pc 15) (some (22, 4, 36, [7], 18)) none) (cond (Nat.beq pc 18) (some (1, 0, 1, [], 19)) none))))) (cond (Nat.ble pc 28) (cond (Nat.ble pc 23) (cond (Nat.ble pc 19) (cond (Nat.beq pc 19) (some (40, 212, 48, [], 22)) none) (cond (Nat.ble pc 22) (cond (Nat.beq pc 22) (some (4, 0, 3, [], 23)) none) (cond (Nat.beq pc 23) (some (1, 0, 2, [], 24)) none))) (cond (Nat.ble pc 24) (cond (Nat.beq pc 24) (some (2, 0, 3, [], 25)) none) (cond (Nat.ble pc 25) (cond (Nat.beq pc 25) (some (40, 224, 4, [], 28)) none) (cond (Nat.beq pc 28) (some (16, 3, 39, [], 31)) none)))) (cond (Nat.ble pc 33) (cond (Nat.ble pc 31) (cond (Nat.beq pc 31) (some (2, 0, 3, [], 32)) none) (cond (Nat.ble pc 32) (cond (Nat.beq pc 32) (some (1, 0, 2, [], 33)) none) (cond (Nat.beq pc 33) (some (40, 225, 7, [], 36)) none))) (cond (Nat.ble pc 36) (cond (Nat.beq pc 36) (some (15, 0, 41, [], 39)) none) (cond (Nat.ble pc 39) (cond (Nat.beq pc 39) (some (0, (-9), 0, [], 41)) none) (cond (Nat.beq pc 41) (some (41, 0, 0, [], 42)) none)))))) none
def qc80 (pc : Nat) : Option qX := cond (Nat.ble pc 17) (cond (Nat.ble pc 8) (cond (Nat.ble pc 1) (cond (Nat.ble pc 0) (cond (Nat.beq pc 0) (some (2, 0, 0, [], 1)) none) (cond (Nat.beq pc 1) (some (1, 0, 1, [], 2)) none)) (cond (Nat.ble pc 2) (cond (Nat.beq pc 2) (some (40, 157, 85, [], 5)) none) (cond (Nat.ble pc 5) (cond (Nat.beq pc 5) (some (17, 0, 16, [], 8)) none) (cond (Nat.beq pc 8) (some (2, 0, 0, [], 9)) none)))) (cond (Nat.ble pc 10) (cond (Nat.ble pc 9) (cond (Nat.beq pc 9) (some (1, 0, 1, [], 10)) none) (cond (Nat.beq pc 10) (some (40, 173, 94, [], 13)) none)) (cond (Nat.ble pc 13) (cond (Nat.beq pc 13) (some (15, 0, 17, [], 16)) none) (cond (Nat.ble pc 16) (cond (Nat.beq pc 16) (some (0, (-1), 0, [], 17)) none) (cond (Nat.beq pc 17) (some (41, 0, 0, [], 18)) none))))) none
def qc81 (pc : Nat) : Option qX := cond (Nat.ble pc 32) (cond (Nat.ble pc 12) (cond (Nat.ble pc 4) (cond (Nat.ble pc 1) (cond (Nat.ble pc 0) (cond (Nat.beq pc 0) (some (0, 1, 0, [], 1)) none) (cond (Nat.beq pc 1) (some (3, 0, 1, [], 2)) none)) (cond (Nat.ble pc 2) (cond (Nat.beq pc 2) (some (0, 2, 0, [], 3)) none) (cond (Nat.ble pc 3) (cond (Nat.beq pc 3) (some (3, 0, 2, [], 4)) none) (cond (Nat.beq pc 4) (some (1, 0, 2, [], 5)) none)))) (cond (Nat.ble pc 7) (cond (Nat.ble pc 5) (cond (Nat.beq pc 5) (some (0, 10, 0, [], 7)) none) (cond (Nat.beq pc 7) (some (16, 4, 31, [], 10)) none)) (cond (Nat.ble pc 10) (cond (Nat.beq pc 10) (some (2, 0, 0, [], 11)) none) (cond (Nat.ble pc 11) (cond (Nat.beq pc 11) (some (1, 0, 2, [], 12)) none) (cond (Nat.beq pc 12) (some (40, 173, 94, [], 15)) none))))) (cond (Nat.ble pc 23) (cond (Nat.ble pc 16) (cond (Nat.ble pc 15) (cond (Nat.beq pc 15) (some (2, 0, 0, [], 16)) none) (cond (Nat.beq pc 16) (some (1, 0, 1, [], 17)) none)) (cond (Nat.ble pc 17) (cond (Nat.beq pc 17) (some (40, 173, 94, [], 20)) none) (cond (Nat.ble pc 20) (cond (Nat.beq pc 20) (some (16, 3, 25, [], 23)) none) (cond (Nat.beq pc 23) (some (1, 0, 2, [], 24)) none)))) (cond (Nat.ble pc 25) (cond (Nat.ble pc 24) (cond (Nat.beq pc 24) (some (3, 0, 1, [], 25)) none) (cond (Nat.beq pc 25) (some (5, 1, 2, [], 28)) none)) (cond (Nat.ble pc 28) (cond (Nat.beq pc 28) (some (15, 0, 4, [], 31)) none) (cond (Nat.ble pc 31) (cond (Nat.beq pc 31) (some (1, 0, 1, [], 32)) none) (cond (Nat.beq pc 32) (some (41, 0, 0, [], 33)) none)))))) none
def qc82 (pc : Nat) : Option qX := cond (Nat.ble pc 91) (cond (Nat.ble pc 40) (cond (Nat.ble pc 18) (cond (Nat.ble pc 8) (cond (Nat.ble pc 1) (cond (Nat.ble pc 0) (cond (Nat.beq pc 0) (some (2, 0, 0, [], 1)) none) (cond (Nat.beq pc 1) (some (22, 6, 50, [7], 4)) none)) (cond (Nat.ble pc 4) (cond (Nat.beq pc 4) (some (1, 0, 1, [], 5)) none) (cond (Nat.ble pc 5) (cond (Nat.beq pc 5) (some (40, 116, 56, [], 8)) none) (cond (Nat.beq pc 8) (some (17, 1, 13, [], 11)) none)))) (cond (Nat.ble pc 13) (cond (Nat.ble pc 11) (cond (Nat.beq pc 11) (some (0, (-1), 0, [], 12)) none) (cond (Nat.ble pc 12) (cond (Nat.beq pc 12) (some (41, 0, 0, [], 13)) none) (cond (Nat.beq pc 13) (some (2, 0, 0, [], 14)) none))) (cond (Nat.ble pc 14) (cond (Nat.beq pc 14) (some (1, 0, 1, [], 15)) none) (cond (Nat.ble pc 15) (cond (Nat.beq pc 15) (some (40, 130, 87, [], 18)) none) (cond (Nat.beq pc 18) (some (4, 0, 2, [], 19)) none))))) (cond (Nat.ble pc 26) (cond (Nat.ble pc 22) (cond (Nat.ble pc 19) (cond (Nat.beq pc 19) (some (0, (-9), 0, [], 21)) none) (cond (Nat.ble pc 21) (cond (Nat.beq pc 21) (some (3, 0, 3, [], 22)) none) (cond (Nat.beq pc 22) (some (0, (-1), 0, [], 23)) none))) (cond (Nat.ble pc 23) (cond (Nat.beq pc 23) (some (3, 0, 4, [], 25)) none) (cond (Nat.ble pc 25) (cond (Nat.beq pc 25) (some (0, 0, 0, [], 26)) none) (cond (Nat.beq pc 26) (some (3, 0, 5, [], 28)) none)))) (cond (Nat.ble pc 31) (cond (Nat.ble pc 28) (cond (Nat.beq pc 28) (some (1, 0, 5, [], 30)) none) (cond (Nat.ble pc 30) (cond (Nat.beq pc 30) (some (2, 0, 0, [], 31)) none) (cond (Nat.beq pc 31) (some (22, 6, 50, [7], 34)) none))) (cond (Nat.ble pc 34) (cond (Nat.beq pc 34) (some (40, 95, 57, [], 37)) none) (cond (Nat.ble pc 37) (cond (Nat.beq pc 37) (some (16, 3, 90, [], 40)) none) (cond (Nat.beq pc 40) (some (1, 0, 5, [], 42)) none)))))) (cond (Nat.ble pc 65) (cond (Nat.ble pc 52) (cond (Nat.ble pc 46) (cond (Nat.ble pc 42) (cond (Nat.beq pc 42) (some (1, 0, 1, [], 43)) none) (cond (Nat.ble pc 43) (cond (Nat.beq pc 43) (some (16, 0, 84, [], 46)) none) (cond (Nat.beq pc 46) (some (2, 0, 0, [], 47)) none))) (cond (Nat.ble pc 47) (cond (Nat.beq pc 47) (some (22, 6, 50, [7], 50)) none) (cond (Nat.ble pc 50) (cond (Nat.beq pc 50) (some (1, 0, 5, [], 52)) none) (cond (Nat.beq pc 52) (some (40, 116, 56, [], 55)) none)))) (cond (Nat.ble pc 59) (cond (Nat.ble pc 55) (cond (Nat.beq pc 55) (some (17, 0, 84, [], 58)) none) (cond (Nat.ble pc 58) (cond (Nat.beq pc 58) (some (2, 0, 2, [], 59)) none) (cond (Nat.beq pc 59) (some (2, 0, 0, [], 60)) none))) (cond (Nat.ble pc 60) (cond (Nat.beq pc 60) (some (1, 0, 5, [], 62)) none) (cond (Nat.ble pc 62) (cond (Nat.beq pc 62) (some (40, 130, 87, [], 65)) none) (cond (Nat.beq pc 65) (some (40, 226, 13, [], 68)) none))))) (cond (Nat.ble pc 79) (cond (Nat.ble pc 72) (cond (Nat.ble pc 68) (cond (Nat.beq pc 68) (some (3, 0, 6, [], 70)) none) (cond (Nat.ble pc 70) (cond (Nat.beq pc 70) (some (1, 0, 6, [], 72)) none) (cond (Nat.beq pc 72) (some (1, 0, 4, [], 74)) none))) (cond (Nat.ble pc 74) (cond (Nat.beq pc 74) (some (16, 5, 84, [], 77)) none) (cond (Nat.ble pc 77) (cond (Nat.beq pc 77) (some (1, 0, 6, [], 79)) none) (cond (Nat.beq pc 79) (some (3, 0, 4, [], 81)) none)))) (cond (Nat.ble pc 84) (cond (Nat.ble pc 81) (cond (Nat.beq pc 81) (some (1, 0, 5, [], 83)) none) (cond (Nat.ble pc 83) (cond (Nat.beq pc 83) (some (3, 0, 3, [], 84)) none) (cond (Nat.beq pc 84) (some (5, 1, 5, [], 87)) none))) (cond (Nat.ble pc 87) (cond (Nat.beq pc 87) (some (15, 0, 28, [], 90)) none) (cond (Nat.ble pc 90) (cond (Nat.beq pc 90) (some (1, 0, 3, [], 91)) none) (cond (Nat.beq pc 91) (some (41, 0, 0, [], 92)) none))))))) none
def qc83 (pc : Nat) : Option qX := cond (Nat.ble pc 20) (cond (Nat.ble pc 6) (cond (Nat.ble pc 1) (cond (Nat.ble pc 0) (cond (Nat.beq pc 0) (some (1, 0, 1, [], 1)) none) (cond (Nat.beq pc 1) (some (17, 2, 19, [], 4)) none)) (cond (Nat.ble pc 4) (cond (Nat.beq pc 4) (some (1, 0, 1, [], 5)) none) (cond (Nat.ble pc 5) (cond (Nat.beq pc 5) (some (2, 0, 0, [], 6)) none) (cond (Nat.beq pc 6) (some (22, 6, 50, [7], 9)) none)))) (cond (Nat.ble pc 15) (cond (Nat.ble pc 9) (cond (Nat.beq pc 9) (some (21, 2, 71, [6], 12)) none) (cond (Nat.ble pc 12) (cond (Nat.beq pc 12) (some (16, 3, 19, [], 15)) none) (cond (Nat.beq pc 15) (some (0, 1, 0, [], 16)) none))) (cond (Nat.ble pc 16) (cond (Nat.beq pc 16) (some (15, 0, 20, [], 19)) none) (cond (Nat.ble pc 19) (cond (Nat.beq pc 19) (some (0, 0, 0, [], 20)) none) (cond (Nat.beq pc 20) (some (42, 0, 0, [], 21)) none))))) none
def qc84 (pc : Nat) : Option qX := cond (Nat.ble pc 20) (cond (Nat.ble pc 6) (cond (Nat.ble pc 1) (cond (Nat.ble pc 0) (cond (Nat.beq pc 0) (some (1, 0, 1, [], 1)) none) (cond (Nat.beq pc 1) (some (17, 2, 19, [], 4)) none)) (cond (Nat.ble pc 4) (cond (Nat.beq pc 4) (some (1, 0, 1, [], 5)) none) (cond (Nat.ble pc 5) (cond (Nat.beq pc 5) (some (2, 0, 0, [], 6)) none) (cond (Nat.beq pc 6) (some (22, 6, 50, [7], 9)) none)))) (cond (Nat.ble pc 15) (cond (Nat.ble pc 9) (cond (Nat.beq pc 9) (some (21, 3, 88, [6], 12)) none) (cond (Nat.ble pc 12) (cond (Nat.beq pc 12) (some (16, 3, 19, [], 15)) none) (cond (Nat.beq pc 15) (some (0, 1, 0, [], 16)) none))) (cond (Nat.ble pc 16) (cond (Nat.beq pc 16) (some (15, 0, 20, [], 19)) none) (cond (Nat.ble pc 19) (cond (Nat.beq pc 19) (some (0, 0, 0, [], 20)) none) (cond (Nat.beq pc 20) (some (42, 0, 0, [], 21)) none))))) none
def qc85 (pc : Nat) : Option qX := cond (Nat.ble pc 16) (cond (Nat.ble pc 6) (cond (Nat.ble pc 1) (cond (Nat.ble pc 0) (cond (Nat.beq pc 0) (some (1, 0, 1, [], 1)) none) (cond (Nat.beq pc 1) (some (0, 1, 0, [], 2)) none)) (cond (Nat.ble pc 2) (cond (Nat.beq pc 2) (some (16, 2, 15, [], 5)) none) (cond (Nat.ble pc 5) (cond (Nat.beq pc 5) (some (1, 0, 1, [], 6)) none) (cond (Nat.beq pc 6) (some (0, 10, 0, [], 8)) none)))) (cond (Nat.ble pc 11) (cond (Nat.ble pc 8) (cond (Nat.beq pc 8) (some (16, 4, 15, [], 11)) none) (cond (Nat.beq pc 11) (some (0, 1, 0, [], 12)) none)) (cond (Nat.ble pc 12) (cond (Nat.beq pc 12) (some (15, 0, 16, [], 15)) none) (cond (Nat.ble pc 15) (cond (Nat.beq pc 15) (some (0, 0, 0, [], 16)) none) (cond (Nat.beq pc 16) (some (42, 0, 0, [], 17)) none))))) none
def qc86 (pc : Nat) : Option qX := cond (Nat.ble pc 23) (cond (Nat.ble pc 9) (cond (Nat.ble pc 4) (cond (Nat.ble pc 0) (cond (Nat.beq pc 0) (some (2, 0, 0, [], 1)) none) (cond (Nat.ble pc 1) (cond (Nat.beq pc 1) (some (22, 6, 50, [7], 4)) none) (cond (Nat.beq pc 4) (some (1, 0, 1, [], 5)) none))) (cond (Nat.ble pc 5) (cond (Nat.beq pc 5) (some (40, 215, 59, [], 8)) none) (cond (Nat.ble pc 8) (cond (Nat.beq pc 8) (some (2, 0, 0, [], 9)) none) (cond (Nat.beq pc 9) (some (22, 6, 50, [7], 12)) none)))) (cond (Nat.ble pc 18) (cond (Nat.ble pc 12) (cond (Nat.beq pc 12) (some (21, 4, 160, [6], 15)) none) (cond (Nat.ble pc 15) (cond (Nat.beq pc 15) (some (16, 2, 22, [], 18)) none) (cond (Nat.beq pc 18) (some (0, 1, 0, [], 19)) none))) (cond (Nat.ble pc 19) (cond (Nat.beq pc 19) (some (15, 0, 23, [], 22)) none) (cond (Nat.ble pc 22) (cond (Nat.beq pc 22) (some (0, 0, 0, [], 23)) none) (cond (Nat.beq pc 23) (some (42, 0, 0, [], 24)) none))))) none
def qc87 (pc : Nat) : Option qX := cond (Nat.ble pc 15) (cond (Nat.ble pc 5) (cond (Nat.ble pc 1) (cond (Nat.ble pc 0) (cond (Nat.beq pc 0) (some (2, 0, 0, [], 1)) none) (cond (Nat.beq pc 1) (some (22, 4, 36, [7], 4)) none)) (cond (Nat.ble pc 4) (cond (Nat.beq pc 4) (some (2, 0, 0, [], 5)) none) (cond (Nat.beq pc 5) (some (22, 6, 50, [7], 8)) none))) (cond (Nat.ble pc 9) (cond (Nat.ble pc 8) (cond (Nat.beq pc 8) (some (1, 0, 1, [], 9)) none) (cond (Nat.beq pc 9) (some (40, 176, 54, [], 12)) none)) (cond (Nat.ble pc 12) (cond (Nat.beq pc 12) (some (40, 212, 48, [], 15)) none) (cond (Nat.beq pc 15) (some (43, 0, 0, [], 16)) none)))) none
def qc88 (pc : Nat) : Option qX := cond (Nat.ble pc 46) (cond (Nat.ble pc 18) (cond (Nat.ble pc 4) (cond (Nat.ble pc 1) (cond (Nat.ble pc 0) (cond (Nat.beq pc 0) (some (0, 0, 0, [], 1)) none) (cond (Nat.beq pc 1) (some (3, 0, 1, [], 2)) none)) (cond (Nat.ble pc 2) (cond (Nat.beq pc 2) (some (1, 0, 1, [], 3)) none) (cond (Nat.ble pc 3) (cond (Nat.beq pc 3) (some (2, 0, 0, [], 4)) none) (cond (Nat.beq pc 4) (some (22, 0, 14, [7], 7)) none)))) (cond (Nat.ble pc 13) (cond (Nat.ble pc 7) (cond (Nat.beq pc 7) (some (40, 61, 40, [], 10)) none) (cond (Nat.ble pc 10) (cond (Nat.beq pc 10) (some (16, 3, 39, [], 13)) none) (cond (Nat.beq pc 13) (some (2, 0, 0, [], 14)) none))) (cond (Nat.ble pc 14) (cond (Nat.beq pc 14) (some (22, 2, 24, [7], 17)) none) (cond (Nat.ble pc 17) (cond (Nat.beq pc 17) (some (2, 0, 0, [], 18)) none) (cond (Nat.beq pc 18) (some (22, 0, 14, [7], 21)) none))))) (cond (Nat.ble pc 32) (cond (Nat.ble pc 25) (cond (Nat.ble pc 21) (cond (Nat.beq pc 21) (some (1, 0, 1, [], 22)) none) (cond (Nat.ble pc 22) (cond (Nat.beq pc 22) (some (40, 191, 42, [], 25)) none) (cond (Nat.beq pc 25) (some (40, 230, 29, [], 28)) none))) (cond (Nat.ble pc 28) (cond (Nat.beq pc 28) (some (17, 1, 33, [], 31)) none) (cond (Nat.ble pc 31) (cond (Nat.beq pc 31) (some (1, 0, 1, [], 32)) none) (cond (Nat.beq pc 32) (some (41, 0, 0, [], 33)) none)))) (cond (Nat.ble pc 39) (cond (Nat.ble pc 33) (cond (Nat.beq pc 33) (some (5, 1, 1, [], 36)) none) (cond (Nat.ble pc 36) (cond (Nat.beq pc 36) (some (15, 0, 2, [], 39)) none) (cond (Nat.beq pc 39) (some (2, 0, 0, [], 40)) none))) (cond (Nat.ble pc 40) (cond (Nat.beq pc 40) (some (22, 0, 14, [7], 43)) none) (cond (Nat.ble pc 43) (cond (Nat.beq pc 43) (some (40, 61, 40, [], 46)) none) (cond (Nat.beq pc 46) (some (41, 0, 0, [], 47)) none)))))) none
def qc89 (pc : Nat) : Option qX := cond (Nat.ble pc 33) (cond (Nat.ble pc 16) (cond (Nat.ble pc 5) (cond (Nat.ble pc 1) (cond (Nat.ble pc 0) (cond (Nat.beq pc 0) (some (1, 0, 1, [], 1)) none) (cond (Nat.beq pc 1) (some (2, 0, 0, [], 2)) none)) (cond (Nat.ble pc 2) (cond (Nat.beq pc 2) (some (22, 6, 50, [7], 5)) none) (cond (Nat.beq pc 5) (some (21, 3, 88, [6], 8)) none))) (cond (Nat.ble pc 11) (cond (Nat.ble pc 8) (cond (Nat.beq pc 8) (some (16, 1, 33, [], 11)) none) (cond (Nat.beq pc 11) (some (2, 0, 0, [], 12)) none)) (cond (Nat.ble pc 12) (cond (Nat.beq pc 12) (some (22, 4, 36, [7], 15)) none) (cond (Nat.ble pc 15) (cond (Nat.beq pc 15) (some (1, 0, 1, [], 16)) none) (cond (Nat.beq pc 16) (some (2, 0, 2, [], 17)) none))))) (cond (Nat.ble pc 24) (cond (Nat.ble pc 20) (cond (Nat.ble pc 17) (cond (Nat.beq pc 17) (some (40, 233, 50, [], 20)) none) (cond (Nat.beq pc 20) (some (2, 0, 0, [], 21)) none)) (cond (Nat.ble pc 21) (cond (Nat.beq pc 21) (some (22, 6, 50, [7], 24)) none) (cond (Nat.beq pc 24) (some (12, 0, 0, [], 25)) none))) (cond (Nat.ble pc 28) (cond (Nat.ble pc 25) (cond (Nat.beq pc 25) (some (21, 3, 88, [6], 28)) none) (cond (Nat.beq pc 28) (some (0, 1, 0, [], 29)) none)) (cond (Nat.ble pc 29) (cond (Nat.beq pc 29) (some (6, 0, 0, [], 30)) none) (cond (Nat.ble pc 30) (cond (Nat.beq pc 30) (some (23, 3, 88, [6], 33)) none) (cond (Nat.beq pc 33) (some (44, 0, 0, [], 34)) none)))))) none
def qc90 (pc : Nat) : Option qX := cond (Nat.ble pc 51) (cond (Nat.ble pc 22) (cond (Nat.ble pc 9) (cond (Nat.ble pc 4) (cond (Nat.ble pc 0) (cond (Nat.beq pc 0) (some (2, 0, 0, [], 1)) none) (cond (Nat.ble pc 1) (cond (Nat.beq pc 1) (some (22, 5, 43, [7], 4)) none) (cond (Nat.beq pc 4) (some (40, 235, 1, [], 7)) none))) (cond (Nat.ble pc 7) (cond (Nat.beq pc 7) (some (0, 0, 0, [], 8)) none) (cond (Nat.ble pc 8) (cond (Nat.beq pc 8) (some (3, 0, 3, [], 9)) none) (cond (Nat.beq pc 9) (some (1, 0, 3, [], 10)) none)))) (cond (Nat.ble pc 14) (cond (Nat.ble pc 10) (cond (Nat.beq pc 10) (some (2, 0, 1, [], 11)) none) (cond (Nat.ble pc 11) (cond (Nat.beq pc 11) (some (40, 224, 4, [], 14)) none) (cond (Nat.beq pc 14) (some (16, 3, 51, [], 17)) none))) (cond (Nat.ble pc 18) (cond (Nat.ble pc 17) (cond (Nat.beq pc 17) (some (2, 0, 0, [], 18)) none) (cond (Nat.beq pc 18) (some (22, 3, 32, [7], 21)) none)) (cond (Nat.ble pc 21) (cond (Nat.beq pc 21) (some (2, 0, 1, [], 22)) none) (cond (Nat.beq pc 22) (some (1, 0, 3, [], 23)) none))))) (cond (Nat.ble pc 34) (cond (Nat.ble pc 27) (cond (Nat.ble pc 23) (cond (Nat.beq pc 23) (some (40, 238, 9, [], 26)) none) (cond (Nat.ble pc 26) (cond (Nat.beq pc 26) (some (1, 0, 2, [], 27)) none) (cond (Nat.beq pc 27) (some (40, 241, 25, [], 30)) none))) (cond (Nat.ble pc 30) (cond (Nat.beq pc 30) (some (17, 1, 45, [], 33)) none) (cond (Nat.ble pc 33) (cond (Nat.beq pc 33) (some (2, 0, 0, [], 34)) none) (cond (Nat.beq pc 34) (some (22, 5, 43, [7], 37)) none)))) (cond (Nat.ble pc 39) (cond (Nat.ble pc 37) (cond (Nat.beq pc 37) (some (2, 0, 1, [], 38)) none) (cond (Nat.ble pc 38) (cond (Nat.beq pc 38) (some (1, 0, 3, [], 39)) none) (cond (Nat.beq pc 39) (some (40, 225, 7, [], 42)) none))) (cond (Nat.ble pc 45) (cond (Nat.ble pc 42) (cond (Nat.beq pc 42) (some (40, 245, 2, [], 45)) none) (cond (Nat.beq pc 45) (some (5, 1, 3, [], 48)) none)) (cond (Nat.ble pc 48) (cond (Nat.beq pc 48) (some (15, 0, 9, [], 51)) none) (cond (Nat.beq pc 51) (some (44, 0, 0, [], 52)) none)))))) none
def qc91 (pc : Nat) : Option qX := cond (Nat.ble pc 76) (cond (Nat.ble pc 32) (cond (Nat.ble pc 12) (cond (Nat.ble pc 4) (cond (Nat.ble pc 1) (cond (Nat.ble pc 0) (cond (Nat.beq pc 0) (some (0, 0, 0, [], 1)) none) (cond (Nat.beq pc 1) (some (3, 0, 4, [], 3)) none)) (cond (Nat.ble pc 3) (cond (Nat.beq pc 3) (some (0, 0, 0, [], 4)) none) (cond (Nat.beq pc 4) (some (3, 0, 5, [], 6)) none))) (cond (Nat.ble pc 7) (cond (Nat.ble pc 6) (cond (Nat.beq pc 6) (some (0, 0, 0, [], 7)) none) (cond (Nat.beq pc 7) (some (3, 0, 6, [], 9)) none)) (cond (Nat.ble pc 9) (cond (Nat.beq pc 9) (some (1, 0, 6, [], 11)) none) (cond (Nat.ble pc 11) (cond (Nat.beq pc 11) (some (2, 0, 2, [], 12)) none) (cond (Nat.beq pc 12) (some (40, 224, 4, [], 15)) none))))) (cond (Nat.ble pc 21) (cond (Nat.ble pc 18) (cond (Nat.ble pc 15) (cond (Nat.beq pc 15) (some (16, 3, 76, [], 18)) none) (cond (Nat.beq pc 18) (some (2, 0, 2, [], 19)) none)) (cond (Nat.ble pc 19) (cond (Nat.beq pc 19) (some (1, 0, 6, [], 21)) none) (cond (Nat.beq pc 21) (some (40, 246, 8, [], 24)) none))) (cond (Nat.ble pc 27) (cond (Nat.ble pc 24) (cond (Nat.beq pc 24) (some (17, 1, 70, [], 27)) none) (cond (Nat.beq pc 27) (some (2, 0, 0, [], 28)) none)) (cond (Nat.ble pc 28) (cond (Nat.beq pc 28) (some (22, 3, 32, [7], 31)) none) (cond (Nat.ble pc 31) (cond (Nat.beq pc 31) (some (2, 0, 2, [], 32)) none) (cond (Nat.beq pc 32) (some (1, 0, 6, [], 34)) none)))))) (cond (Nat.ble pc 51) (cond (Nat.ble pc 41) (cond (Nat.ble pc 37) (cond (Nat.ble pc 34) (cond (Nat.beq pc 34) (some (40, 238, 9, [], 37)) none) (cond (Nat.beq pc 37) (some (1, 0, 3, [], 38)) none)) (cond (Nat.ble pc 38) (cond (Nat.beq pc 38) (some (40, 241, 25, [], 41)) none) (cond (Nat.beq pc 41) (some (17, 1, 67, [], 44)) none))) (cond (Nat.ble pc 45) (cond (Nat.ble pc 44) (cond (Nat.beq pc 44) (some (2, 0, 0, [], 45)) none) (cond (Nat.beq pc 45) (some (22, 6, 50, [7], 48)) none)) (cond (Nat.ble pc 48) (cond (Nat.beq pc 48) (some (1, 0, 1, [], 49)) none) (cond (Nat.ble pc 49) (cond (Nat.beq pc 49) (some (1, 0, 5, [], 51)) none) (cond (Nat.beq pc 51) (some (2, 0, 0, [], 52)) none))))) (cond (Nat.ble pc 61) (cond (Nat.ble pc 55) (cond (Nat.ble pc 52) (cond (Nat.beq pc 52) (some (22, 6, 50, [7], 55)) none) (cond (Nat.beq pc 55) (some (1, 0, 1, [], 56)) none)) (cond (Nat.ble pc 56) (cond (Nat.beq pc 56) (some (1, 0, 4, [], 58)) none) (cond (Nat.ble pc 58) (cond (Nat.beq pc 58) (some (40, 138, 61, [], 61)) none) (cond (Nat.beq pc 61) (some (40, 142, 62, [], 64)) none)))) (cond (Nat.ble pc 67) (cond (Nat.ble pc 64) (cond (Nat.beq pc 64) (some (5, 1, 5, [], 67)) none) (cond (Nat.beq pc 67) (some (5, 1, 4, [], 70)) none)) (cond (Nat.ble pc 70) (cond (Nat.beq pc 70) (some (5, 1, 6, [], 73)) none) (cond (Nat.ble pc 73) (cond (Nat.beq pc 73) (some (15, 0, 9, [], 76)) none) (cond (Nat.beq pc 76) (some (44, 0, 0, [], 77)) none))))))) none
def qc92 (pc : Nat) : Option qX := cond (Nat.ble pc 33) (cond (Nat.ble pc 12) (cond (Nat.ble pc 3) (cond (Nat.ble pc 1) (cond (Nat.ble pc 0) (cond (Nat.beq pc 0) (some (0, 0, 0, [], 1)) none) (cond (Nat.beq pc 1) (some (3, 0, 1, [], 2)) none)) (cond (Nat.ble pc 2) (cond (Nat.beq pc 2) (some (0, 0, 0, [], 3)) none) (cond (Nat.beq pc 3) (some (3, 0, 2, [], 4)) none))) (cond (Nat.ble pc 5) (cond (Nat.ble pc 4) (cond (Nat.beq pc 4) (some (1, 0, 2, [], 5)) none) (cond (Nat.beq pc 5) (some (2, 0, 0, [], 6)) none)) (cond (Nat.ble pc 6) (cond (Nat.beq pc 6) (some (22, 6, 50, [7], 9)) none) (cond (Nat.ble pc 9) (cond (Nat.beq pc 9) (some (21, 3, 88, [6], 12)) none) (cond (Nat.beq pc 12) (some (16, 3, 32, [], 15)) none))))) (cond (Nat.ble pc 20) (cond (Nat.ble pc 16) (cond (Nat.ble pc 15) (cond (Nat.beq pc 15) (some (2, 0, 0, [], 16)) none) (cond (Nat.beq pc 16) (some (1, 0, 2, [], 17)) none)) (cond (Nat.ble pc 17) (cond (Nat.beq pc 17) (some (40, 218, 86, [], 20)) none) (cond (Nat.beq pc 20) (some (17, 0, 26, [], 23)) none))) (cond (Nat.ble pc 26) (cond (Nat.ble pc 23) (cond (Nat.beq pc 23) (some (5, 1, 1, [], 26)) none) (cond (Nat.beq pc 26) (some (5, 1, 2, [], 29)) none)) (cond (Nat.ble pc 29) (cond (Nat.beq pc 29) (some (15, 0, 4, [], 32)) none) (cond (Nat.ble pc 32) (cond (Nat.beq pc 32) (some (1, 0, 1, [], 33)) none) (cond (Nat.beq pc 33) (some (41, 0, 0, [], 34)) none)))))) none
def qc93 (pc : Nat) : Option qX := cond (Nat.ble pc 41) (cond (Nat.ble pc 17) (cond (Nat.ble pc 5) (cond (Nat.ble pc 2) (cond (Nat.ble pc 0) (cond (Nat.beq pc 0) (some (0, 0, 0, [], 1)) none) (cond (Nat.ble pc 1) (cond (Nat.beq pc 1) (some (3, 0, 1, [], 2)) none) (cond (Nat.beq pc 2) (some (0, 0, 0, [], 3)) none))) (cond (Nat.ble pc 3) (cond (Nat.beq pc 3) (some (3, 0, 2, [], 4)) none) (cond (Nat.ble pc 4) (cond (Nat.beq pc 4) (some (1, 0, 2, [], 5)) none) (cond (Nat.beq pc 5) (some (2, 0, 0, [], 6)) none)))) (cond (Nat.ble pc 12) (cond (Nat.ble pc 6) (cond (Nat.beq pc 6) (some (22, 6, 50, [7], 9)) none) (cond (Nat.ble pc 9) (cond (Nat.beq pc 9) (some (21, 3, 88, [6], 12)) none) (cond (Nat.beq pc 12) (some (16, 3, 40, [], 15)) none))) (cond (Nat.ble pc 15) (cond (Nat.beq pc 15) (some (2, 0, 0, [], 16)) none) (cond (Nat.ble pc 16) (cond (Nat.beq pc 16) (some (1, 0, 2, [], 17)) none) (cond (Nat.beq pc 17) (some (40, 218, 86, [], 20)) none))))) (cond (Nat.ble pc 29) (cond (Nat.ble pc 24) (cond (Nat.ble pc 20) (cond (Nat.beq pc 20) (some (17, 1, 34, [], 23)) none) (cond (Nat.ble pc 23) (cond (Nat.beq pc 23) (some (1, 0, 1, [], 24)) none) (cond (Nat.beq pc 24) (some (2, 0, 0, [], 25)) none))) (cond (Nat.ble pc 25) (cond (Nat.beq pc 25) (some (22, 6, 50, [7], 28)) none) (cond (Nat.ble pc 28) (cond (Nat.beq pc 28) (some (1, 0, 2, [], 29)) none) (cond (Nat.beq pc 29) (some (40, 215, 59, [], 32)) none)))) (cond (Nat.ble pc 34) (cond (Nat.ble pc 32) (cond (Nat.beq pc 32) (some (6, 0, 0, [], 33)) none) (cond (Nat.ble pc 33) (cond (Nat.beq pc 33) (some (3, 0, 1, [], 34)) none) (cond (Nat.beq pc 34) (some (5, 1, 2, [], 37)) none))) (cond (Nat.ble pc 37) (cond (Nat.beq pc 37) (some (15, 0, 4, [], 40)) none) (cond (Nat.ble pc 40) (cond (Nat.beq pc 40) (some (1, 0, 1, [], 41)) none) (cond (Nat.beq pc 41) (some (41, 0, 0, [], 42)) none)))))) none
def qc94 (pc : Nat) : Option qX := cond (Nat.ble pc 95) (cond (Nat.ble pc 48) (cond (Nat.ble pc 22) (cond (Nat.ble pc 9) (cond (Nat.ble pc 4) (cond (Nat.ble pc 0) (cond (Nat.beq pc 0) (some (2, 0, 0, [], 1)) none) (cond (Nat.ble pc 1) (cond (Nat.beq pc 1) (some (22, 6, 50, [7], 4)) none) (cond (Nat.beq pc 4) (some (40, 124, 58, [], 7)) none))) (cond (Nat.ble pc 7) (cond (Nat.beq pc 7) (some (3, 0, 2, [], 8)) none) (cond (Nat.ble pc 8) (cond (Nat.beq pc 8) (some (0, 0, 0, [], 9)) none) (cond (Nat.beq pc 9) (some (3, 0, 3, [], 10)) none)))) (cond (Nat.ble pc 12) (cond (Nat.ble pc 10) (cond (Nat.beq pc 10) (some (1, 0, 3, [], 11)) none) (cond (Nat.ble pc 11) (cond (Nat.beq pc 11) (some (2, 0, 0, [], 12)) none) (cond (Nat.beq pc 12) (some (22, 6, 50, [7], 15)) none))) (cond (Nat.ble pc 18) (cond (Nat.ble pc 15) (cond (Nat.beq pc 15) (some (21, 3, 88, [6], 18)) none) (cond (Nat.beq pc 18) (some (16, 3, 94, [], 21)) none)) (cond (Nat.ble pc 21) (cond (Nat.beq pc 21) (some (2, 0, 0, [], 22)) none) (cond (Nat.beq pc 22) (some (22, 4, 36, [7], 25)) none))))) (cond (Nat.ble pc 35) (cond (Nat.ble pc 29) (cond (Nat.ble pc 25) (cond (Nat.beq pc 25) (some (1, 0, 3, [], 26)) none) (cond (Nat.ble pc 26) (cond (Nat.beq pc 26) (some (40, 212, 48, [], 29)) none) (cond (Nat.beq pc 29) (some (4, 0, 4, [], 31)) none))) (cond (Nat.ble pc 31) (cond (Nat.beq pc 31) (some (2, 0, 0, [], 32)) none) (cond (Nat.ble pc 32) (cond (Nat.beq pc 32) (some (22, 6, 50, [7], 35)) none) (cond (Nat.beq pc 35) (some (1, 0, 3, [], 36)) none)))) (cond (Nat.ble pc 41) (cond (Nat.ble pc 36) (cond (Nat.beq pc 36) (some (40, 215, 59, [], 39)) none) (cond (Nat.ble pc 39) (cond (Nat.beq pc 39) (some (3, 0, 5, [], 41)) none) (cond (Nat.beq pc 41) (some (1, 0, 5, [], 43)) none))) (cond (Nat.ble pc 44) (cond (Nat.ble pc 43) (cond (Nat.beq pc 43) (some (1, 0, 1, [], 44)) none) (cond (Nat.beq pc 44) (some (16, 2, 69, [], 47)) none)) (cond (Nat.ble pc 47) (cond (Nat.beq pc 47) (some (1, 0, 2, [], 48)) none) (cond (Nat.beq pc 48) (some (0, 1, 0, [], 49)) none)))))) (cond (Nat.ble pc 70) (cond (Nat.ble pc 59) (cond (Nat.ble pc 54) (cond (Nat.ble pc 49) (cond (Nat.beq pc 49) (some (2, 0, 4, [], 51)) none) (cond (Nat.ble pc 51) (cond (Nat.beq pc 51) (some (40, 224, 4, [], 54)) none) (cond (Nat.beq pc 54) (some (6, 0, 0, [], 55)) none))) (cond (Nat.ble pc 55) (cond (Nat.beq pc 55) (some (1, 0, 5, [], 57)) none) (cond (Nat.ble pc 57) (cond (Nat.beq pc 57) (some (2, 0, 4, [], 59)) none) (cond (Nat.beq pc 59) (some (40, 179, 5, [], 62)) none)))) (cond (Nat.ble pc 64) (cond (Nat.ble pc 62) (cond (Nat.beq pc 62) (some (8, 0, 0, [], 63)) none) (cond (Nat.ble pc 63) (cond (Nat.beq pc 63) (some (6, 0, 0, [], 64)) none) (cond (Nat.beq pc 64) (some (6, 0, 0, [], 65)) none))) (cond (Nat.ble pc 66) (cond (Nat.ble pc 65) (cond (Nat.beq pc 65) (some (3, 0, 2, [], 66)) none) (cond (Nat.beq pc 66) (some (15, 0, 88, [], 69)) none)) (cond (Nat.ble pc 69) (cond (Nat.beq pc 69) (some (1, 0, 2, [], 70)) none) (cond (Nat.beq pc 70) (some (1, 0, 5, [], 72)) none))))) (cond (Nat.ble pc 84) (cond (Nat.ble pc 75) (cond (Nat.ble pc 72) (cond (Nat.beq pc 72) (some (0, 2, 0, [], 73)) none) (cond (Nat.ble pc 73) (cond (Nat.beq pc 73) (some (2, 0, 4, [], 75)) none) (cond (Nat.beq pc 75) (some (40, 179, 5, [], 78)) none))) (cond (Nat.ble pc 79) (cond (Nat.ble pc 78) (cond (Nat.beq pc 78) (some (8, 0, 0, [], 79)) none) (cond (Nat.beq pc 79) (some (2, 0, 4, [], 81)) none)) (cond (Nat.ble pc 81) (cond (Nat.beq pc 81) (some (40, 182, 6, [], 84)) none) (cond (Nat.beq pc 84) (some (6, 0, 0, [], 85)) none)))) (cond (Nat.ble pc 87) (cond (Nat.ble pc 85) (cond (Nat.beq pc 85) (some (8, 0, 0, [], 86)) none) (cond (Nat.ble pc 86) (cond (Nat.beq pc 86) (some (6, 0, 0, [], 87)) none) (cond (Nat.beq pc 87) (some (3, 0, 2, [], 88)) none))) (cond (Nat.ble pc 91) (cond (Nat.ble pc 88) (cond (Nat.beq pc 88) (some (5, 1, 3, [], 91)) none) (cond (Nat.beq pc 91) (some (15, 0, 10, [], 94)) none)) (cond (Nat.ble pc 94) (cond (Nat.beq pc 94) (some (1, 0, 2, [], 95)) none) (cond (Nat.beq pc 95) (some (41, 0, 0, [], 96)) none))))))) none
def qc95 (pc : Nat) : Option qX := cond (Nat.ble pc 80) (cond (Nat.ble pc 38) (cond (Nat.ble pc 16) (cond (Nat.ble pc 4) (cond (Nat.ble pc 1) (cond (Nat.ble pc 0) (cond (Nat.beq pc 0) (some (0, 0, 0, [], 1)) none) (cond (Nat.beq pc 1) (some (3, 0, 2, [], 2)) none)) (cond (Nat.ble pc 2) (cond (Nat.beq pc 2) (some (0, 0, 0, [], 3)) none) (cond (Nat.ble pc 3) (cond (Nat.beq pc 3) (some (3, 0, 3, [], 4)) none) (cond (Nat.beq pc 4) (some (1, 0, 3, [], 5)) none)))) (cond (Nat.ble pc 9) (cond (Nat.ble pc 5) (cond (Nat.beq pc 5) (some (2, 0, 0, [], 6)) none) (cond (Nat.ble pc 6) (cond (Nat.beq pc 6) (some (22, 6, 50, [7], 9)) none) (cond (Nat.beq pc 9) (some (21, 3, 88, [6], 12)) none))) (cond (Nat.ble pc 12) (cond (Nat.beq pc 12) (some (16, 3, 79, [], 15)) none) (cond (Nat.ble pc 15) (cond (Nat.beq pc 15) (some (2, 0, 0, [], 16)) none) (cond (Nat.beq pc 16) (some (22, 4, 36, [7], 19)) none))))) (cond (Nat.ble pc 26) (cond (Nat.ble pc 20) (cond (Nat.ble pc 19) (cond (Nat.beq pc 19) (some (1, 0, 3, [], 20)) none) (cond (Nat.beq pc 20) (some (40, 212, 48, [], 23)) none)) (cond (Nat.ble pc 23) (cond (Nat.beq pc 23) (some (4, 0, 4, [], 25)) none) (cond (Nat.ble pc 25) (cond (Nat.beq pc 25) (some (2, 0, 0, [], 26)) none) (cond (Nat.beq pc 26) (some (1, 0, 3, [], 27)) none)))) (cond (Nat.ble pc 33) (cond (Nat.ble pc 27) (cond (Nat.beq pc 27) (some (40, 218, 86, [], 30)) none) (cond (Nat.ble pc 30) (cond (Nat.beq pc 30) (some (17, 1, 53, [], 33)) none) (cond (Nat.beq pc 33) (some (1, 0, 2, [], 34)) none))) (cond (Nat.ble pc 34) (cond (Nat.beq pc 34) (some (2, 0, 0, [], 35)) none) (cond (Nat.ble pc 35) (cond (Nat.beq pc 35) (some (22, 6, 50, [7], 38)) none) (cond (Nat.beq pc 38) (some (1, 0, 3, [], 39)) none)))))) (cond (Nat.ble pc 59) (cond (Nat.ble pc 48) (cond (Nat.ble pc 42) (cond (Nat.ble pc 39) (cond (Nat.beq pc 39) (some (40, 215, 59, [], 42)) none) (cond (Nat.beq pc 42) (some (2, 0, 4, [], 44)) none)) (cond (Nat.ble pc 44) (cond (Nat.beq pc 44) (some (40, 224, 4, [], 47)) none) (cond (Nat.ble pc 47) (cond (Nat.beq pc 47) (some (8, 0, 0, [], 48)) none) (cond (Nat.beq pc 48) (some (6, 0, 0, [], 49)) none)))) (cond (Nat.ble pc 53) (cond (Nat.ble pc 49) (cond (Nat.beq pc 49) (some (3, 0, 2, [], 50)) none) (cond (Nat.ble pc 50) (cond (Nat.beq pc 50) (some (15, 0, 73, [], 53)) none) (cond (Nat.beq pc 53) (some (2, 0, 4, [], 55)) none))) (cond (Nat.ble pc 55) (cond (Nat.beq pc 55) (some (1, 0, 1, [], 56)) none) (cond (Nat.ble pc 56) (cond (Nat.beq pc 56) (some (40, 146, 10, [], 59)) none) (cond (Nat.beq pc 59) (some (17, 0, 73, [], 62)) none))))) (cond (Nat.ble pc 68) (cond (Nat.ble pc 63) (cond (Nat.ble pc 62) (cond (Nat.beq pc 62) (some (1, 0, 2, [], 63)) none) (cond (Nat.beq pc 63) (some (2, 0, 0, [], 64)) none)) (cond (Nat.ble pc 64) (cond (Nat.beq pc 64) (some (22, 6, 50, [7], 67)) none) (cond (Nat.ble pc 67) (cond (Nat.beq pc 67) (some (1, 0, 3, [], 68)) none) (cond (Nat.beq pc 68) (some (40, 215, 59, [], 71)) none)))) (cond (Nat.ble pc 73) (cond (Nat.ble pc 71) (cond (Nat.beq pc 71) (some (6, 0, 0, [], 72)) none) (cond (Nat.ble pc 72) (cond (Nat.beq pc 72) (some (3, 0, 2, [], 73)) none) (cond (Nat.beq pc 73) (some (5, 1, 3, [], 76)) none))) (cond (Nat.ble pc 76) (cond (Nat.beq pc 76) (some (15, 0, 4, [], 79)) none) (cond (Nat.ble pc 79) (cond (Nat.beq pc 79) (some (1, 0, 2, [], 80)) none) (cond (Nat.beq pc 80) (some (41, 0, 0, [], 81)) none))))))) none
def qc96 (pc : Nat) : Option qX := cond (Nat.ble pc 48) (cond (Nat.ble pc 20) (cond (Nat.ble pc 5) (cond (Nat.ble pc 2) (cond (Nat.ble pc 0) (cond (Nat.beq pc 0) (some (0, 0, 0, [], 1)) none) (cond (Nat.ble pc 1) (cond (Nat.beq pc 1) (some (3, 0, 2, [], 2)) none) (cond (Nat.beq pc 2) (some (0, 0, 0, [], 3)) none))) (cond (Nat.ble pc 3) (cond (Nat.beq pc 3) (some (3, 0, 3, [], 4)) none) (cond (Nat.ble pc 4) (cond (Nat.beq pc 4) (some (1, 0, 3, [], 5)) none) (cond (Nat.beq pc 5) (some (2, 0, 0, [], 6)) none)))) (cond (Nat.ble pc 12) (cond (Nat.ble pc 6) (cond (Nat.beq pc 6) (some (22, 6, 50, [7], 9)) none) (cond (Nat.ble pc 9) (cond (Nat.beq pc 9) (some (21, 3, 88, [6], 12)) none) (cond (Nat.beq pc 12) (some (16, 3, 47, [], 15)) none))) (cond (Nat.ble pc 16) (cond (Nat.ble pc 15) (cond (Nat.beq pc 15) (some (2, 0, 0, [], 16)) none) (cond (Nat.beq pc 16) (some (22, 4, 36, [7], 19)) none)) (cond (Nat.ble pc 19) (cond (Nat.beq pc 19) (some (1, 0, 3, [], 20)) none) (cond (Nat.beq pc 20) (some (40, 212, 48, [], 23)) none))))) (cond (Nat.ble pc 35) (cond (Nat.ble pc 27) (cond (Nat.ble pc 23) (cond (Nat.beq pc 23) (some (1, 0, 1, [], 24)) none) (cond (Nat.ble pc 24) (cond (Nat.beq pc 24) (some (40, 146, 10, [], 27)) none) (cond (Nat.beq pc 27) (some (17, 0, 41, [], 30)) none))) (cond (Nat.ble pc 31) (cond (Nat.ble pc 30) (cond (Nat.beq pc 30) (some (1, 0, 2, [], 31)) none) (cond (Nat.beq pc 31) (some (2, 0, 0, [], 32)) none)) (cond (Nat.ble pc 32) (cond (Nat.beq pc 32) (some (22, 6, 50, [7], 35)) none) (cond (Nat.beq pc 35) (some (1, 0, 3, [], 36)) none)))) (cond (Nat.ble pc 40) (cond (Nat.ble pc 36) (cond (Nat.beq pc 36) (some (40, 215, 59, [], 39)) none) (cond (Nat.ble pc 39) (cond (Nat.beq pc 39) (some (6, 0, 0, [], 40)) none) (cond (Nat.beq pc 40) (some (3, 0, 2, [], 41)) none))) (cond (Nat.ble pc 44) (cond (Nat.ble pc 41) (cond (Nat.beq pc 41) (some (5, 1, 3, [], 44)) none) (cond (Nat.beq pc 44) (some (15, 0, 4, [], 47)) none)) (cond (Nat.ble pc 47) (cond (Nat.beq pc 47) (some (1, 0, 2, [], 48)) none) (cond (Nat.beq pc 48) (some (41, 0, 0, [], 49)) none)))))) none
def qc97 (pc : Nat) : Option qX := cond (Nat.ble pc 53) (cond (Nat.ble pc 24) (cond (Nat.ble pc 6) (cond (Nat.ble pc 2) (cond (Nat.ble pc 0) (cond (Nat.beq pc 0) (some (0, 0, 0, [], 1)) none) (cond (Nat.ble pc 1) (cond (Nat.beq pc 1) (some (3, 0, 2, [], 2)) none) (cond (Nat.beq pc 2) (some (0, 0, 0, [], 3)) none))) (cond (Nat.ble pc 4) (cond (Nat.ble pc 3) (cond (Nat.beq pc 3) (some (3, 0, 3, [], 4)) none) (cond (Nat.beq pc 4) (some (1, 0, 3, [], 5)) none)) (cond (Nat.ble pc 5) (cond (Nat.beq pc 5) (some (2, 0, 0, [], 6)) none) (cond (Nat.beq pc 6) (some (22, 6, 50, [7], 9)) none)))) (cond (Nat.ble pc 16) (cond (Nat.ble pc 12) (cond (Nat.ble pc 9) (cond (Nat.beq pc 9) (some (40, 95, 57, [], 12)) none) (cond (Nat.beq pc 12) (some (16, 3, 52, [], 15)) none)) (cond (Nat.ble pc 15) (cond (Nat.beq pc 15) (some (2, 0, 0, [], 16)) none) (cond (Nat.beq pc 16) (some (1, 0, 3, [], 17)) none))) (cond (Nat.ble pc 20) (cond (Nat.ble pc 17) (cond (Nat.beq pc 17) (some (40, 130, 87, [], 20)) none) (cond (Nat.beq pc 20) (some (1, 0, 1, [], 21)) none)) (cond (Nat.ble pc 21) (cond (Nat.beq pc 21) (some (40, 134, 11, [], 24)) none) (cond (Nat.beq pc 24) (some (3, 0, 4, [], 26)) none))))) (cond (Nat.ble pc 38) (cond (Nat.ble pc 30) (cond (Nat.ble pc 26) (cond (Nat.beq pc 26) (some (1, 0, 4, [], 28)) none) (cond (Nat.ble pc 28) (cond (Nat.beq pc 28) (some (0, (-9), 0, [], 30)) none) (cond (Nat.beq pc 30) (some (16, 0, 46, [], 33)) none))) (cond (Nat.ble pc 34) (cond (Nat.ble pc 33) (cond (Nat.beq pc 33) (some (1, 0, 2, [], 34)) none) (cond (Nat.beq pc 34) (some (2, 0, 0, [], 35)) none)) (cond (Nat.ble pc 35) (cond (Nat.beq pc 35) (some (22, 6, 50, [7], 38)) none) (cond (Nat.beq pc 38) (some (1, 0, 3, [], 39)) none)))) (cond (Nat.ble pc 45) (cond (Nat.ble pc 41) (cond (Nat.ble pc 39) (cond (Nat.beq pc 39) (some (1, 0, 4, [], 41)) none) (cond (Nat.beq pc 41) (some (40, 138, 61, [], 44)) none)) (cond (Nat.ble pc 44) (cond (Nat.beq pc 44) (some (6, 0, 0, [], 45)) none) (cond (Nat.beq pc 45) (some (3, 0, 2, [], 46)) none))) (cond (Nat.ble pc 49) (cond (Nat.ble pc 46) (cond (Nat.beq pc 46) (some (5, 1, 3, [], 49)) none) (cond (Nat.beq pc 49) (some (15, 0, 4, [], 52)) none)) (cond (Nat.ble pc 52) (cond (Nat.beq pc 52) (some (1, 0, 2, [], 53)) none) (cond (Nat.beq pc 53) (some (41, 0, 0, [], 54)) none)))))) none
def qc98 (pc : Nat) : Option qX := cond (Nat.ble pc 31) (cond (Nat.ble pc 12) (cond (Nat.ble pc 3) (cond (Nat.ble pc 1) (cond (Nat.ble pc 0) (cond (Nat.beq pc 0) (some (0, 0, 0, [], 1)) none) (cond (Nat.beq pc 1) (some (3, 0, 3, [], 2)) none)) (cond (Nat.ble pc 2) (cond (Nat.beq pc 2) (some (0, 0, 0, [], 3)) none) (cond (Nat.beq pc 3) (some (3, 0, 4, [], 5)) none))) (cond (Nat.ble pc 7) (cond (Nat.ble pc 5) (cond (Nat.beq pc 5) (some (1, 0, 4, [], 7)) none) (cond (Nat.beq pc 7) (some (1, 0, 2, [], 8)) none)) (cond (Nat.ble pc 8) (cond (Nat.beq pc 8) (some (16, 3, 30, [], 11)) none) (cond (Nat.ble pc 11) (cond (Nat.beq pc 11) (some (1, 0, 3, [], 12)) none) (cond (Nat.beq pc 12) (some (2, 0, 0, [], 13)) none))))) (cond (Nat.ble pc 22) (cond (Nat.ble pc 16) (cond (Nat.ble pc 13) (cond (Nat.beq pc 13) (some (22, 6, 50, [7], 16)) none) (cond (Nat.beq pc 16) (some (1, 0, 1, [], 17)) none)) (cond (Nat.ble pc 17) (cond (Nat.beq pc 17) (some (1, 0, 4, [], 19)) none) (cond (Nat.ble pc 19) (cond (Nat.beq pc 19) (some (40, 138, 61, [], 22)) none) (cond (Nat.beq pc 22) (some (6, 0, 0, [], 23)) none)))) (cond (Nat.ble pc 24) (cond (Nat.ble pc 23) (cond (Nat.beq pc 23) (some (3, 0, 3, [], 24)) none) (cond (Nat.beq pc 24) (some (5, 1, 4, [], 27)) none)) (cond (Nat.ble pc 27) (cond (Nat.beq pc 27) (some (15, 0, 5, [], 30)) none) (cond (Nat.ble pc 30) (cond (Nat.beq pc 30) (some (1, 0, 3, [], 31)) none) (cond (Nat.beq pc 31) (some (41, 0, 0, [], 32)) none)))))) none
def qc99 (pc : Nat) : Option qX := cond (Nat.ble pc 141) (cond (Nat.ble pc 65) (cond (Nat.ble pc 29) (cond (Nat.ble pc 14) (cond (Nat.ble pc 5) (cond (Nat.ble pc 1) (cond (Nat.ble pc 0) (cond (Nat.beq pc 0) (some (2, 0, 0, [], 1)) none) (cond (Nat.beq pc 1) (some (22, 1, 18, [7], 4)) none)) (cond (Nat.ble pc 4) (cond (Nat.beq pc 4) (some (0, 0, 0, [], 5)) none) (cond (Nat.beq pc 5) (some (40, 68, 45, [], 8)) none))) (cond (Nat.ble pc 9) (cond (Nat.ble pc 8) (cond (Nat.beq pc 8) (some (2, 0, 0, [], 9)) none) (cond (Nat.beq pc 9) (some (22, 1, 18, [7], 12)) none)) (cond (Nat.ble pc 12) (cond (Nat.beq pc 12) (some (0, 123, 0, [], 14)) none) (cond (Nat.beq pc 14) (some (40, 65, 44, [], 17)) none)))) (cond (Nat.ble pc 21) (cond (Nat.ble pc 19) (cond (Nat.ble pc 17) (cond (Nat.beq pc 17) (some (0, (-9), 0, [], 19)) none) (cond (Nat.beq pc 19) (some (3, 0, 3, [], 20)) none)) (cond (Nat.ble pc 20) (cond (Nat.beq pc 20) (some (0, 0, 0, [], 21)) none) (cond (Nat.beq pc 21) (some (3, 0, 4, [], 23)) none))) (cond (Nat.ble pc 24) (cond (Nat.ble pc 23) (cond (Nat.beq pc 23) (some (0, 0, 0, [], 24)) none) (cond (Nat.beq pc 24) (some (3, 0, 5, [], 26)) none)) (cond (Nat.ble pc 26) (cond (Nat.beq pc 26) (some (1, 0, 5, [], 28)) none) (cond (Nat.ble pc 28) (cond (Nat.beq pc 28) (some (2, 0, 1, [], 29)) none) (cond (Nat.beq pc 29) (some (40, 224, 4, [], 32)) none)))))) (cond (Nat.ble pc 46) (cond (Nat.ble pc 38) (cond (Nat.ble pc 35) (cond (Nat.ble pc 32) (cond (Nat.beq pc 32) (some (16, 3, 117, [], 35)) none) (cond (Nat.beq pc 35) (some (2, 0, 1, [], 36)) none)) (cond (Nat.ble pc 36) (cond (Nat.beq pc 36) (some (1, 0, 5, [], 38)) none) (cond (Nat.beq pc 38) (some (40, 238, 9, [], 41)) none))) (cond (Nat.ble pc 43) (cond (Nat.ble pc 41) (cond (Nat.beq pc 41) (some (3, 0, 6, [], 43)) none) (cond (Nat.beq pc 43) (some (2, 0, 0, [], 44)) none)) (cond (Nat.ble pc 44) (cond (Nat.beq pc 44) (some (1, 0, 3, [], 45)) none) (cond (Nat.ble pc 45) (cond (Nat.beq pc 45) (some (2, 0, 0, [], 46)) none) (cond (Nat.beq pc 46) (some (22, 3, 32, [7], 49)) none))))) (cond (Nat.ble pc 57) (cond (Nat.ble pc 51) (cond (Nat.ble pc 49) (cond (Nat.beq pc 49) (some (1, 0, 6, [], 51)) none) (cond (Nat.beq pc 51) (some (40, 197, 23, [], 54)) none)) (cond (Nat.ble pc 54) (cond (Nat.beq pc 54) (some (40, 249, 100, [], 57)) none) (cond (Nat.beq pc 57) (some (3, 0, 3, [], 58)) none))) (cond (Nat.ble pc 59) (cond (Nat.ble pc 58) (cond (Nat.beq pc 58) (some (2, 0, 0, [], 59)) none) (cond (Nat.beq pc 59) (some (1, 0, 6, [], 61)) none)) (cond (Nat.ble pc 61) (cond (Nat.beq pc 61) (some (40, 252, 101, [], 64)) none) (cond (Nat.ble pc 64) (cond (Nat.beq pc 64) (some (2, 0, 1, [], 65)) none) (cond (Nat.beq pc 65) (some (1, 0, 5, [], 67)) none))))))) (cond (Nat.ble pc 100) (cond (Nat.ble pc 84) (cond (Nat.ble pc 74) (cond (Nat.ble pc 70) (cond (Nat.ble pc 67) (cond (Nat.beq pc 67) (some (40, 246, 8, [], 70)) none) (cond (Nat.beq pc 70) (some (17, 0, 88, [], 73)) none)) (cond (Nat.ble pc 73) (cond (Nat.beq pc 73) (some (2, 0, 0, [], 74)) none) (cond (Nat.beq pc 74) (some (22, 1, 18, [7], 77)) none))) (cond (Nat.ble pc 79) (cond (Nat.ble pc 77) (cond (Nat.beq pc 77) (some (0, 123, 0, [], 79)) none) (cond (Nat.beq pc 79) (some (40, 65, 44, [], 82)) none)) (cond (Nat.ble pc 82) (cond (Nat.beq pc 82) (some (1, 0, 6, [], 84)) none) (cond (Nat.beq pc 84) (some (3, 0, 3, [], 85)) none)))) (cond (Nat.ble pc 91) (cond (Nat.ble pc 88) (cond (Nat.ble pc 85) (cond (Nat.beq pc 85) (some (15, 0, 111, [], 88)) none) (cond (Nat.beq pc 88) (some (1, 0, 2, [], 89)) none)) (cond (Nat.ble pc 89) (cond (Nat.beq pc 89) (some (0, (-9), 0, [], 91)) none) (cond (Nat.beq pc 91) (some (16, 0, 108, [], 94)) none))) (cond (Nat.ble pc 95) (cond (Nat.ble pc 94) (cond (Nat.beq pc 94) (some (2, 0, 0, [], 95)) none) (cond (Nat.beq pc 95) (some (2, 0, 0, [], 96)) none)) (cond (Nat.ble pc 96) (cond (Nat.beq pc 96) (some (22, 6, 50, [7], 99)) none) (cond (Nat.ble pc 99) (cond (Nat.beq pc 99) (some (1, 0, 2, [], 100)) none) (cond (Nat.beq pc 100) (some (1, 0, 4, [], 102)) none)))))) (cond (Nat.ble pc 121) (cond (Nat.ble pc 111) (cond (Nat.ble pc 105) (cond (Nat.ble pc 102) (cond (Nat.beq pc 102) (some (40, 138, 61, [], 105)) none) (cond (Nat.beq pc 105) (some (40, 255, 102, [], 108)) none)) (cond (Nat.ble pc 108) (cond (Nat.beq pc 108) (some (5, 1, 4, [], 111)) none) (cond (Nat.beq pc 111) (some (5, 1, 5, [], 114)) none))) (cond (Nat.ble pc 117) (cond (Nat.ble pc 114) (cond (Nat.beq pc 114) (some (15, 0, 26, [], 117)) none) (cond (Nat.beq pc 117) (some (2, 0, 0, [], 118)) none)) (cond (Nat.ble pc 118) (cond (Nat.beq pc 118) (some (1, 0, 3, [], 119)) none) (cond (Nat.ble pc 119) (cond (Nat.beq pc 119) (some (0, (-9), 0, [], 121)) none) (cond (Nat.beq pc 121) (some (40, 249, 100, [], 124)) none))))) (cond (Nat.ble pc 129) (cond (Nat.ble pc 125) (cond (Nat.ble pc 124) (cond (Nat.beq pc 124) (some (14, 0, 0, [], 125)) none) (cond (Nat.beq pc 125) (some (2, 0, 0, [], 126)) none)) (cond (Nat.ble pc 126) (cond (Nat.beq pc 126) (some (22, 1, 18, [7], 129)) none) (cond (Nat.beq pc 129) (some (0, 125, 0, [], 131)) none))) (cond (Nat.ble pc 134) (cond (Nat.ble pc 131) (cond (Nat.beq pc 131) (some (40, 65, 44, [], 134)) none) (cond (Nat.beq pc 134) (some (2, 0, 0, [], 135)) none)) (cond (Nat.ble pc 135) (cond (Nat.beq pc 135) (some (22, 1, 18, [7], 138)) none) (cond (Nat.ble pc 138) (cond (Nat.beq pc 138) (some (40, 61, 40, [], 141)) none) (cond (Nat.beq pc 141) (some (41, 0, 0, [], 142)) none)))))))) none
def qc100 (pc : Nat) : Option qX := cond (Nat.ble pc 41) (cond (Nat.ble pc 16) (cond (Nat.ble pc 5) (cond (Nat.ble pc 1) (cond (Nat.ble pc 0) (cond (Nat.beq pc 0) (some (1, 0, 1, [], 1)) none) (cond (Nat.beq pc 1) (some (3, 0, 3, [], 2)) none)) (cond (Nat.ble pc 2) (cond (Nat.beq pc 2) (some (0, 1, 0, [], 3)) none) (cond (Nat.ble pc 3) (cond (Nat.beq pc 3) (some (3, 0, 4, [], 5)) none) (cond (Nat.beq pc 5) (some (1, 0, 4, [], 7)) none)))) (cond (Nat.ble pc 11) (cond (Nat.ble pc 7) (cond (Nat.beq pc 7) (some (0, 4, 0, [], 8)) none) (cond (Nat.ble pc 8) (cond (Nat.beq pc 8) (some (16, 3, 40, [], 11)) none) (cond (Nat.beq pc 11) (some (1, 0, 3, [], 12)) none))) (cond (Nat.ble pc 12) (cond (Nat.beq pc 12) (some (1, 0, 2, [], 13)) none) (cond (Nat.ble pc 13) (cond (Nat.beq pc 13) (some (16, 0, 40, [], 16)) none) (cond (Nat.beq pc 16) (some (2, 0, 0, [], 17)) none))))) (cond (Nat.ble pc 29) (cond (Nat.ble pc 22) (cond (Nat.ble pc 17) (cond (Nat.beq pc 17) (some (22, 1, 18, [7], 20)) none) (cond (Nat.ble pc 20) (cond (Nat.beq pc 20) (some (0, 125, 0, [], 22)) none) (cond (Nat.beq pc 22) (some (40, 65, 44, [], 25)) none))) (cond (Nat.ble pc 25) (cond (Nat.beq pc 25) (some (2, 0, 0, [], 26)) none) (cond (Nat.ble pc 26) (cond (Nat.beq pc 26) (some (22, 3, 32, [7], 29)) none) (cond (Nat.beq pc 29) (some (1, 0, 3, [], 30)) none)))) (cond (Nat.ble pc 34) (cond (Nat.ble pc 30) (cond (Nat.beq pc 30) (some (40, 197, 23, [], 33)) none) (cond (Nat.ble pc 33) (cond (Nat.beq pc 33) (some (3, 0, 3, [], 34)) none) (cond (Nat.beq pc 34) (some (5, 1, 4, [], 37)) none))) (cond (Nat.ble pc 37) (cond (Nat.beq pc 37) (some (15, 0, 5, [], 40)) none) (cond (Nat.ble pc 40) (cond (Nat.beq pc 40) (some (1, 0, 3, [], 41)) none) (cond (Nat.beq pc 41) (some (41, 0, 0, [], 42)) none)))))) none
def qc101 (pc : Nat) : Option qX := cond (Nat.ble pc 54) (cond (Nat.ble pc 25) (cond (Nat.ble pc 11) (cond (Nat.ble pc 4) (cond (Nat.ble pc 0) (cond (Nat.beq pc 0) (some (2, 0, 0, [], 1)) none) (cond (Nat.ble pc 1) (cond (Nat.beq pc 1) (some (22, 1, 18, [7], 4)) none) (cond (Nat.beq pc 4) (some (2, 0, 0, [], 5)) none))) (cond (Nat.ble pc 5) (cond (Nat.beq pc 5) (some (22, 1, 18, [7], 8)) none) (cond (Nat.ble pc 8) (cond (Nat.beq pc 8) (some (40, 61, 40, [], 11)) none) (cond (Nat.beq pc 11) (some (0, 1, 0, [], 12)) none)))) (cond (Nat.ble pc 16) (cond (Nat.ble pc 12) (cond (Nat.beq pc 12) (some (7, 0, 0, [], 13)) none) (cond (Nat.ble pc 13) (cond (Nat.beq pc 13) (some (40, 191, 42, [], 16)) none) (cond (Nat.beq pc 16) (some (0, 123, 0, [], 18)) none))) (cond (Nat.ble pc 21) (cond (Nat.ble pc 18) (cond (Nat.beq pc 18) (some (16, 0, 30, [], 21)) none) (cond (Nat.beq pc 21) (some (2, 0, 0, [], 22)) none)) (cond (Nat.ble pc 22) (cond (Nat.beq pc 22) (some (22, 1, 18, [7], 25)) none) (cond (Nat.beq pc 25) (some (0, 44, 0, [], 27)) none))))) (cond (Nat.ble pc 38) (cond (Nat.ble pc 31) (cond (Nat.ble pc 27) (cond (Nat.beq pc 27) (some (40, 65, 44, [], 30)) none) (cond (Nat.ble pc 30) (cond (Nat.beq pc 30) (some (2, 0, 0, [], 31)) none) (cond (Nat.beq pc 31) (some (22, 1, 18, [7], 34)) none))) (cond (Nat.ble pc 34) (cond (Nat.beq pc 34) (some (2, 0, 0, [], 35)) none) (cond (Nat.ble pc 35) (cond (Nat.beq pc 35) (some (22, 3, 32, [7], 38)) none) (cond (Nat.beq pc 38) (some (1, 0, 1, [], 39)) none)))) (cond (Nat.ble pc 45) (cond (Nat.ble pc 39) (cond (Nat.beq pc 39) (some (40, 194, 22, [], 42)) none) (cond (Nat.ble pc 42) (cond (Nat.beq pc 42) (some (40, 65, 44, [], 45)) none) (cond (Nat.beq pc 45) (some (2, 0, 0, [], 46)) none))) (cond (Nat.ble pc 49) (cond (Nat.ble pc 46) (cond (Nat.beq pc 46) (some (22, 1, 18, [7], 49)) none) (cond (Nat.beq pc 49) (some (0, 58, 0, [], 51)) none)) (cond (Nat.ble pc 51) (cond (Nat.beq pc 51) (some (40, 65, 44, [], 54)) none) (cond (Nat.beq pc 54) (some (44, 0, 0, [], 55)) none)))))) none
def qc102 (pc : Nat) : Option qX := cond (Nat.ble pc 57) (cond (Nat.ble pc 27) (cond (Nat.ble pc 13) (cond (Nat.ble pc 6) (cond (Nat.ble pc 1) (cond (Nat.ble pc 0) (cond (Nat.beq pc 0) (some (1, 0, 1, [], 1)) none) (cond (Nat.beq pc 1) (some (0, 100, 0, [], 3)) none)) (cond (Nat.ble pc 3) (cond (Nat.beq pc 3) (some (16, 2, 20, [], 6)) none) (cond (Nat.beq pc 6) (some (2, 0, 0, [], 7)) none))) (cond (Nat.ble pc 10) (cond (Nat.ble pc 7) (cond (Nat.beq pc 7) (some (22, 1, 18, [7], 10)) none) (cond (Nat.beq pc 10) (some (0, 48, 0, [], 12)) none)) (cond (Nat.ble pc 12) (cond (Nat.beq pc 12) (some (1, 0, 1, [], 13)) none) (cond (Nat.beq pc 13) (some (0, 100, 0, [], 15)) none)))) (cond (Nat.ble pc 20) (cond (Nat.ble pc 16) (cond (Nat.ble pc 15) (cond (Nat.beq pc 15) (some (9, 0, 0, [], 16)) none) (cond (Nat.beq pc 16) (some (6, 0, 0, [], 17)) none)) (cond (Nat.ble pc 17) (cond (Nat.beq pc 17) (some (40, 65, 44, [], 20)) none) (cond (Nat.beq pc 20) (some (1, 0, 1, [], 21)) none))) (cond (Nat.ble pc 23) (cond (Nat.ble pc 21) (cond (Nat.beq pc 21) (some (0, 10, 0, [], 23)) none) (cond (Nat.beq pc 23) (some (16, 2, 43, [], 26)) none)) (cond (Nat.ble pc 26) (cond (Nat.beq pc 26) (some (2, 0, 0, [], 27)) none) (cond (Nat.beq pc 27) (some (22, 1, 18, [7], 30)) none))))) (cond (Nat.ble pc 40) (cond (Nat.ble pc 35) (cond (Nat.ble pc 32) (cond (Nat.ble pc 30) (cond (Nat.beq pc 30) (some (0, 48, 0, [], 32)) none) (cond (Nat.beq pc 32) (some (1, 0, 1, [], 33)) none)) (cond (Nat.ble pc 33) (cond (Nat.beq pc 33) (some (0, 10, 0, [], 35)) none) (cond (Nat.beq pc 35) (some (9, 0, 0, [], 36)) none))) (cond (Nat.ble pc 38) (cond (Nat.ble pc 36) (cond (Nat.beq pc 36) (some (0, 10, 0, [], 38)) none) (cond (Nat.beq pc 38) (some (10, 0, 0, [], 39)) none)) (cond (Nat.ble pc 39) (cond (Nat.beq pc 39) (some (6, 0, 0, [], 40)) none) (cond (Nat.beq pc 40) (some (40, 65, 44, [], 43)) none)))) (cond (Nat.ble pc 49) (cond (Nat.ble pc 44) (cond (Nat.ble pc 43) (cond (Nat.beq pc 43) (some (2, 0, 0, [], 44)) none) (cond (Nat.beq pc 44) (some (22, 1, 18, [7], 47)) none)) (cond (Nat.ble pc 47) (cond (Nat.beq pc 47) (some (0, 48, 0, [], 49)) none) (cond (Nat.beq pc 49) (some (1, 0, 1, [], 50)) none))) (cond (Nat.ble pc 52) (cond (Nat.ble pc 50) (cond (Nat.beq pc 50) (some (0, 10, 0, [], 52)) none) (cond (Nat.beq pc 52) (some (10, 0, 0, [], 53)) none)) (cond (Nat.ble pc 53) (cond (Nat.beq pc 53) (some (6, 0, 0, [], 54)) none) (cond (Nat.ble pc 54) (cond (Nat.beq pc 54) (some (40, 65, 44, [], 57)) none) (cond (Nat.beq pc 57) (some (44, 0, 0, [], 58)) none))))))) none
def qc103 (pc : Nat) : Option qX := cond (Nat.ble pc 102) (cond (Nat.ble pc 53) (cond (Nat.ble pc 26) (cond (Nat.ble pc 10) (cond (Nat.ble pc 4) (cond (Nat.ble pc 0) (cond (Nat.beq pc 0) (some (2, 0, 0, [], 1)) none) (cond (Nat.ble pc 1) (cond (Nat.beq pc 1) (some (34, 0, 1, [], 4)) none) (cond (Nat.beq pc 4) (some (2, 0, 0, [], 5)) none))) (cond (Nat.ble pc 5) (cond (Nat.beq pc 5) (some (0, 1294, 0, [], 8)) none) (cond (Nat.ble pc 8) (cond (Nat.beq pc 8) (some (30, 0, 0, [], 10)) none) (cond (Nat.beq pc 10) (some (24, 0, 7, [8], 13)) none)))) (cond (Nat.ble pc 17) (cond (Nat.ble pc 13) (cond (Nat.beq pc 13) (some (2, 0, 0, [], 14)) none) (cond (Nat.ble pc 14) (cond (Nat.beq pc 14) (some (0, 6470, 0, [], 17)) none) (cond (Nat.beq pc 17) (some (30, 0, 0, [], 19)) none))) (cond (Nat.ble pc 22) (cond (Nat.ble pc 19) (cond (Nat.beq pc 19) (some (24, 1, 13, [8], 22)) none) (cond (Nat.beq pc 22) (some (2, 0, 0, [], 23)) none)) (cond (Nat.ble pc 23) (cond (Nat.beq pc 23) (some (0, 1294, 0, [], 26)) none) (cond (Nat.beq pc 26) (some (30, 0, 0, [], 28)) none))))) (cond (Nat.ble pc 39) (cond (Nat.ble pc 32) (cond (Nat.ble pc 28) (cond (Nat.beq pc 28) (some (24, 3, 16, [8], 31)) none) (cond (Nat.ble pc 31) (cond (Nat.beq pc 31) (some (2, 0, 0, [], 32)) none) (cond (Nat.beq pc 32) (some (0, 80, 0, [], 34)) none))) (cond (Nat.ble pc 34) (cond (Nat.beq pc 34) (some (30, 0, 0, [], 36)) none) (cond (Nat.ble pc 36) (cond (Nat.beq pc 36) (some (24, 4, 19, [8], 39)) none) (cond (Nat.beq pc 39) (some (2, 0, 0, [], 40)) none)))) (cond (Nat.ble pc 45) (cond (Nat.ble pc 40) (cond (Nat.beq pc 40) (some (0, 160, 0, [], 43)) none) (cond (Nat.ble pc 43) (cond (Nat.beq pc 43) (some (30, 0, 0, [], 45)) none) (cond (Nat.beq pc 45) (some (24, 6, 22, [8], 48)) none))) (cond (Nat.ble pc 49) (cond (Nat.ble pc 48) (cond (Nat.beq pc 48) (some (2, 0, 0, [], 49)) none) (cond (Nat.beq pc 49) (some (0, 8, 0, [], 51)) none)) (cond (Nat.ble pc 51) (cond (Nat.beq pc 51) (some (30, 0, 0, [], 53)) none) (cond (Nat.beq pc 53) (some (24, 8, 25, [8], 56)) none)))))) (cond (Nat.ble pc 80) (cond (Nat.ble pc 65) (cond (Nat.ble pc 59) (cond (Nat.ble pc 56) (cond (Nat.beq pc 56) (some (2, 0, 0, [], 57)) none) (cond (Nat.ble pc 57) (cond (Nat.beq pc 57) (some (0, 40, 0, [], 59)) none) (cond (Nat.beq pc 59) (some (30, 0, 0, [], 61)) none))) (cond (Nat.ble pc 61) (cond (Nat.beq pc 61) (some (24, 9, 28, [8], 64)) none) (cond (Nat.ble pc 64) (cond (Nat.beq pc 64) (some (2, 0, 0, [], 65)) none) (cond (Nat.beq pc 65) (some (0, 40, 0, [], 67)) none)))) (cond (Nat.ble pc 72) (cond (Nat.ble pc 67) (cond (Nat.beq pc 67) (some (30, 0, 0, [], 69)) none) (cond (Nat.ble pc 69) (cond (Nat.beq pc 69) (some (24, 10, 31, [8], 72)) none) (cond (Nat.beq pc 72) (some (2, 0, 0, [], 73)) none))) (cond (Nat.ble pc 75) (cond (Nat.ble pc 73) (cond (Nat.beq pc 73) (some (0, 40, 0, [], 75)) none) (cond (Nat.beq pc 75) (some (30, 0, 0, [], 77)) none)) (cond (Nat.ble pc 77) (cond (Nat.beq pc 77) (some (24, 11, 34, [8], 80)) none) (cond (Nat.beq pc 80) (some (2, 0, 0, [], 81)) none))))) (cond (Nat.ble pc 90) (cond (Nat.ble pc 84) (cond (Nat.ble pc 81) (cond (Nat.beq pc 81) (some (0, 5, 0, [], 82)) none) (cond (Nat.ble pc 82) (cond (Nat.beq pc 82) (some (30, 0, 0, [], 84)) none) (cond (Nat.beq pc 84) (some (24, 13, 37, [8], 87)) none))) (cond (Nat.ble pc 87) (cond (Nat.beq pc 87) (some (2, 0, 0, [], 88)) none) (cond (Nat.ble pc 88) (cond (Nat.beq pc 88) (some (0, 20, 0, [], 90)) none) (cond (Nat.beq pc 90) (some (30, 0, 0, [], 92)) none)))) (cond (Nat.ble pc 96) (cond (Nat.ble pc 92) (cond (Nat.beq pc 92) (some (24, 17, 40, [8], 95)) none) (cond (Nat.ble pc 95) (cond (Nat.beq pc 95) (some (2, 0, 0, [], 96)) none) (cond (Nat.beq pc 96) (some (22, 0, 7, [8], 99)) none))) (cond (Nat.ble pc 100) (cond (Nat.ble pc 99) (cond (Nat.beq pc 99) (some (0, 3, 0, [], 100)) none) (cond (Nat.beq pc 100) (some (0, 2, 0, [], 101)) none)) (cond (Nat.ble pc 101) (cond (Nat.beq pc 101) (some (26, 0, 0, [], 102)) none) (cond (Nat.beq pc 102) (some (44, 0, 0, [], 103)) none))))))) none
def qc104 (pc : Nat) : Option qX := cond (Nat.ble pc 15) (cond (Nat.ble pc 6) (cond (Nat.ble pc 1) (cond (Nat.ble pc 0) (cond (Nat.beq pc 0) (some (1, 0, 0, [], 1)) none) (cond (Nat.beq pc 1) (some (1, 0, 1, [], 2)) none)) (cond (Nat.ble pc 2) (cond (Nat.beq pc 2) (some (16, 2, 14, [], 5)) none) (cond (Nat.ble pc 5) (cond (Nat.beq pc 5) (some (1, 0, 0, [], 6)) none) (cond (Nat.beq pc 6) (some (1, 0, 2, [], 7)) none)))) (cond (Nat.ble pc 10) (cond (Nat.ble pc 7) (cond (Nat.beq pc 7) (some (16, 4, 14, [], 10)) none) (cond (Nat.beq pc 10) (some (0, 1, 0, [], 11)) none)) (cond (Nat.ble pc 11) (cond (Nat.beq pc 11) (some (15, 0, 15, [], 14)) none) (cond (Nat.ble pc 14) (cond (Nat.beq pc 14) (some (0, 0, 0, [], 15)) none) (cond (Nat.beq pc 15) (some (42, 0, 0, [], 16)) none))))) none
def qc105 (pc : Nat) : Option qX := cond (Nat.ble pc 29) (cond (Nat.ble pc 15) (cond (Nat.ble pc 5) (cond (Nat.ble pc 1) (cond (Nat.ble pc 0) (cond (Nat.beq pc 0) (some (0, 0, 0, [], 1)) none) (cond (Nat.beq pc 1) (some (3, 0, 4, [], 3)) none)) (cond (Nat.ble pc 3) (cond (Nat.beq pc 3) (some (1, 0, 4, [], 5)) none) (cond (Nat.beq pc 5) (some (0, 1294, 0, [], 8)) none))) (cond (Nat.ble pc 11) (cond (Nat.ble pc 8) (cond (Nat.beq pc 8) (some (16, 3, 29, [], 11)) none) (cond (Nat.beq pc 11) (some (2, 0, 2, [], 12)) none)) (cond (Nat.ble pc 12) (cond (Nat.beq pc 12) (some (1, 0, 3, [], 13)) none) (cond (Nat.ble pc 13) (cond (Nat.beq pc 13) (some (1, 0, 4, [], 15)) none) (cond (Nat.beq pc 15) (some (6, 0, 0, [], 16)) none))))) (cond (Nat.ble pc 20) (cond (Nat.ble pc 17) (cond (Nat.ble pc 16) (cond (Nat.beq pc 16) (some (2, 0, 0, [], 17)) none) (cond (Nat.beq pc 17) (some (1, 0, 1, [], 18)) none)) (cond (Nat.ble pc 18) (cond (Nat.beq pc 18) (some (1, 0, 4, [], 20)) none) (cond (Nat.beq pc 20) (some (6, 0, 0, [], 21)) none))) (cond (Nat.ble pc 22) (cond (Nat.ble pc 21) (cond (Nat.beq pc 21) (some (25, 0, 0, [], 22)) none) (cond (Nat.beq pc 22) (some (26, 0, 0, [], 23)) none)) (cond (Nat.ble pc 23) (cond (Nat.beq pc 23) (some (5, 1, 4, [], 26)) none) (cond (Nat.ble pc 26) (cond (Nat.beq pc 26) (some (15, 0, 3, [], 29)) none) (cond (Nat.beq pc 29) (some (44, 0, 0, [], 30)) none)))))) none
def qc106 (pc : Nat) : Option qX := cond (Nat.ble pc 71) (cond (Nat.ble pc 33) (cond (Nat.ble pc 17) (cond (Nat.ble pc 8) (cond (Nat.ble pc 1) (cond (Nat.ble pc 0) (cond (Nat.beq pc 0) (some (2, 0, 0, [], 1)) none) (cond (Nat.beq pc 1) (some (21, 2, 43, [8], 4)) none)) (cond (Nat.ble pc 4) (cond (Nat.beq pc 4) (some (0, 5, 0, [], 5)) none) (cond (Nat.ble pc 5) (cond (Nat.beq pc 5) (some (16, 1, 44, [], 8)) none) (cond (Nat.beq pc 8) (some (0, 0, 0, [], 9)) none)))) (cond (Nat.ble pc 10) (cond (Nat.ble pc 9) (cond (Nat.beq pc 9) (some (3, 0, 2, [], 10)) none) (cond (Nat.beq pc 10) (some (1, 0, 2, [], 11)) none)) (cond (Nat.ble pc 11) (cond (Nat.beq pc 11) (some (0, 5176, 0, [], 14)) none) (cond (Nat.ble pc 14) (cond (Nat.beq pc 14) (some (16, 3, 39, [], 17)) none) (cond (Nat.beq pc 17) (some (2, 0, 0, [], 18)) none))))) (cond (Nat.ble pc 26) (cond (Nat.ble pc 21) (cond (Nat.ble pc 18) (cond (Nat.beq pc 18) (some (22, 1, 13, [8], 21)) none) (cond (Nat.beq pc 21) (some (1, 0, 2, [], 22)) none)) (cond (Nat.ble pc 22) (cond (Nat.beq pc 22) (some (2, 0, 0, [], 23)) none) (cond (Nat.ble pc 23) (cond (Nat.beq pc 23) (some (22, 1, 13, [8], 26)) none) (cond (Nat.beq pc 26) (some (1, 0, 2, [], 27)) none)))) (cond (Nat.ble pc 30) (cond (Nat.ble pc 27) (cond (Nat.beq pc 27) (some (0, 1294, 0, [], 30)) none) (cond (Nat.beq pc 30) (some (6, 0, 0, [], 31)) none)) (cond (Nat.ble pc 31) (cond (Nat.beq pc 31) (some (25, 0, 0, [], 32)) none) (cond (Nat.ble pc 32) (cond (Nat.beq pc 32) (some (26, 0, 0, [], 33)) none) (cond (Nat.beq pc 33) (some (5, 1, 2, [], 36)) none)))))) (cond (Nat.ble pc 51) (cond (Nat.ble pc 44) (cond (Nat.ble pc 39) (cond (Nat.ble pc 36) (cond (Nat.beq pc 36) (some (15, 0, 10, [], 39)) none) (cond (Nat.beq pc 39) (some (2, 0, 0, [], 40)) none)) (cond (Nat.ble pc 40) (cond (Nat.beq pc 40) (some (0, 4, 0, [], 41)) none) (cond (Nat.ble pc 41) (cond (Nat.beq pc 41) (some (23, 2, 43, [8], 44)) none) (cond (Nat.beq pc 44) (some (2, 0, 1, [], 45)) none)))) (cond (Nat.ble pc 46) (cond (Nat.ble pc 45) (cond (Nat.beq pc 45) (some (0, 0, 0, [], 46)) none) (cond (Nat.beq pc 46) (some (2, 0, 0, [], 47)) none)) (cond (Nat.ble pc 47) (cond (Nat.beq pc 47) (some (22, 1, 13, [8], 50)) none) (cond (Nat.ble pc 50) (cond (Nat.beq pc 50) (some (2, 0, 0, [], 51)) none) (cond (Nat.beq pc 51) (some (21, 2, 43, [8], 54)) none))))) (cond (Nat.ble pc 62) (cond (Nat.ble pc 57) (cond (Nat.ble pc 54) (cond (Nat.beq pc 54) (some (0, 1294, 0, [], 57)) none) (cond (Nat.beq pc 57) (some (8, 0, 0, [], 58)) none)) (cond (Nat.ble pc 58) (cond (Nat.beq pc 58) (some (40, 47, 105, [], 61)) none) (cond (Nat.ble pc 61) (cond (Nat.beq pc 61) (some (2, 0, 0, [], 62)) none) (cond (Nat.beq pc 62) (some (12, 0, 0, [], 63)) none)))) (cond (Nat.ble pc 66) (cond (Nat.ble pc 63) (cond (Nat.beq pc 63) (some (21, 2, 43, [8], 66)) none) (cond (Nat.beq pc 66) (some (0, 1, 0, [], 67)) none)) (cond (Nat.ble pc 67) (cond (Nat.beq pc 67) (some (6, 0, 0, [], 68)) none) (cond (Nat.ble pc 68) (cond (Nat.beq pc 68) (some (23, 2, 43, [8], 71)) none) (cond (Nat.beq pc 71) (some (44, 0, 0, [], 72)) none))))))) none
def qc107 (pc : Nat) : Option qX := cond (Nat.ble pc 13) (cond (Nat.ble pc 6) (cond (Nat.ble pc 1) (cond (Nat.ble pc 0) (cond (Nat.beq pc 0) (some (1, 0, 1, [], 1)) none) (cond (Nat.beq pc 1) (some (0, 0, 0, [], 2)) none)) (cond (Nat.ble pc 2) (cond (Nat.beq pc 2) (some (2, 0, 0, [], 3)) none) (cond (Nat.ble pc 3) (cond (Nat.beq pc 3) (some (22, 0, 7, [8], 6)) none) (cond (Nat.beq pc 6) (some (0, 1, 0, [], 7)) none)))) (cond (Nat.ble pc 8) (cond (Nat.ble pc 7) (cond (Nat.beq pc 7) (some (25, 0, 0, [], 8)) none) (cond (Nat.beq pc 8) (some (0, 1, 0, [], 9)) none)) (cond (Nat.ble pc 9) (cond (Nat.beq pc 9) (some (7, 0, 0, [], 10)) none) (cond (Nat.ble pc 10) (cond (Nat.beq pc 10) (some (40, 51, 104, [], 13)) none) (cond (Nat.beq pc 13) (some (42, 0, 0, [], 14)) none))))) none
def qc108 (pc : Nat) : Option qX := cond (Nat.ble pc 13) (cond (Nat.ble pc 6) (cond (Nat.ble pc 1) (cond (Nat.ble pc 0) (cond (Nat.beq pc 0) (some (1, 0, 1, [], 1)) none) (cond (Nat.beq pc 1) (some (0, 0, 0, [], 2)) none)) (cond (Nat.ble pc 2) (cond (Nat.beq pc 2) (some (2, 0, 0, [], 3)) none) (cond (Nat.ble pc 3) (cond (Nat.beq pc 3) (some (22, 0, 7, [8], 6)) none) (cond (Nat.beq pc 6) (some (0, 2, 0, [], 7)) none)))) (cond (Nat.ble pc 8) (cond (Nat.ble pc 7) (cond (Nat.beq pc 7) (some (25, 0, 0, [], 8)) none) (cond (Nat.beq pc 8) (some (0, 1, 0, [], 9)) none)) (cond (Nat.ble pc 9) (cond (Nat.beq pc 9) (some (7, 0, 0, [], 10)) none) (cond (Nat.ble pc 10) (cond (Nat.beq pc 10) (some (40, 51, 104, [], 13)) none) (cond (Nat.beq pc 13) (some (42, 0, 0, [], 14)) none))))) none
def qc109 (pc : Nat) : Option qX := cond (Nat.ble pc 13) (cond (Nat.ble pc 7) (cond (Nat.ble pc 1) (cond (Nat.ble pc 0) (cond (Nat.beq pc 0) (some (2, 0, 0, [], 1)) none) (cond (Nat.beq pc 1) (some (22, 0, 7, [8], 4)) none)) (cond (Nat.ble pc 4) (cond (Nat.beq pc 4) (some (0, 964, 0, [], 7)) none) (cond (Nat.beq pc 7) (some (0, 11, 0, [], 9)) none))) (cond (Nat.ble pc 10) (cond (Nat.ble pc 9) (cond (Nat.beq pc 9) (some (1, 0, 1, [], 10)) none) (cond (Nat.beq pc 10) (some (8, 0, 0, [], 11)) none)) (cond (Nat.ble pc 11) (cond (Nat.beq pc 11) (some (6, 0, 0, [], 12)) none) (cond (Nat.ble pc 12) (cond (Nat.beq pc 12) (some (25, 0, 0, [], 13)) none) (cond (Nat.beq pc 13) (some (41, 0, 0, [], 14)) none))))) none
def qc110 (pc : Nat) : Option qX := cond (Nat.ble pc 31) (cond (Nat.ble pc 10) (cond (Nat.ble pc 3) (cond (Nat.ble pc 1) (cond (Nat.ble pc 0) (cond (Nat.beq pc 0) (some (1, 0, 1, [], 1)) none) (cond (Nat.beq pc 1) (some (0, 0, 0, [], 2)) none)) (cond (Nat.ble pc 2) (cond (Nat.beq pc 2) (some (2, 0, 0, [], 3)) none) (cond (Nat.beq pc 3) (some (22, 0, 7, [8], 6)) none))) (cond (Nat.ble pc 7) (cond (Nat.ble pc 6) (cond (Nat.beq pc 6) (some (0, 0, 0, [], 7)) none) (cond (Nat.beq pc 7) (some (25, 0, 0, [], 8)) none)) (cond (Nat.ble pc 8) (cond (Nat.beq pc 8) (some (0, 1, 0, [], 9)) none) (cond (Nat.ble pc 9) (cond (Nat.beq pc 9) (some (7, 0, 0, [], 10)) none) (cond (Nat.beq pc 10) (some (40, 51, 104, [], 13)) none))))) (cond (Nat.ble pc 21) (cond (Nat.ble pc 16) (cond (Nat.ble pc 13) (cond (Nat.beq pc 13) (some (17, 0, 30, [], 16)) none) (cond (Nat.beq pc 16) (some (2, 0, 0, [], 17)) none)) (cond (Nat.ble pc 17) (cond (Nat.beq pc 17) (some (1, 0, 1, [], 18)) none) (cond (Nat.ble pc 18) (cond (Nat.beq pc 18) (some (40, 55, 109, [], 21)) none) (cond (Nat.beq pc 21) (some (0, (-9), 0, [], 23)) none)))) (cond (Nat.ble pc 26) (cond (Nat.ble pc 23) (cond (Nat.beq pc 23) (some (16, 0, 30, [], 26)) none) (cond (Nat.beq pc 26) (some (0, 1, 0, [], 27)) none)) (cond (Nat.ble pc 27) (cond (Nat.beq pc 27) (some (15, 0, 31, [], 30)) none) (cond (Nat.ble pc 30) (cond (Nat.beq pc 30) (some (0, 0, 0, [], 31)) none) (cond (Nat.beq pc 31) (some (42, 0, 0, [], 32)) none)))))) none
def qc111 (pc : Nat) : Option qX := cond (Nat.ble pc 17) (cond (Nat.ble pc 10) (cond (Nat.ble pc 4) (cond (Nat.ble pc 0) (cond (Nat.beq pc 0) (some (2, 0, 0, [], 1)) none) (cond (Nat.ble pc 1) (cond (Nat.beq pc 1) (some (22, 0, 7, [8], 4)) none) (cond (Nat.beq pc 4) (some (0, 964, 0, [], 7)) none))) (cond (Nat.ble pc 7) (cond (Nat.beq pc 7) (some (0, 11, 0, [], 9)) none) (cond (Nat.ble pc 9) (cond (Nat.beq pc 9) (some (1, 0, 1, [], 10)) none) (cond (Nat.beq pc 10) (some (8, 0, 0, [], 11)) none)))) (cond (Nat.ble pc 13) (cond (Nat.ble pc 11) (cond (Nat.beq pc 11) (some (6, 0, 0, [], 12)) none) (cond (Nat.ble pc 12) (cond (Nat.beq pc 12) (some (0, 1, 0, [], 13)) none) (cond (Nat.beq pc 13) (some (6, 0, 0, [], 14)) none))) (cond (Nat.ble pc 15) (cond (Nat.ble pc 14) (cond (Nat.beq pc 14) (some (1, 0, 2, [], 15)) none) (cond (Nat.beq pc 15) (some (6, 0, 0, [], 16)) none)) (cond (Nat.ble pc 16) (cond (Nat.beq pc 16) (some (25, 0, 0, [], 17)) none) (cond (Nat.beq pc 17) (some (41, 0, 0, [], 18)) none))))) none
def qc112 (pc : Nat) : Option qX := cond (Nat.ble pc 10) (cond (Nat.ble pc 5) (cond (Nat.ble pc 1) (cond (Nat.ble pc 0) (cond (Nat.beq pc 0) (some (2, 0, 0, [], 1)) none) (cond (Nat.beq pc 1) (some (22, 0, 7, [8], 4)) none)) (cond (Nat.ble pc 4) (cond (Nat.beq pc 4) (some (0, 4, 0, [], 5)) none) (cond (Nat.beq pc 5) (some (0, 2, 0, [], 6)) none))) (cond (Nat.ble pc 7) (cond (Nat.ble pc 6) (cond (Nat.beq pc 6) (some (1, 0, 1, [], 7)) none) (cond (Nat.beq pc 7) (some (8, 0, 0, [], 8)) none)) (cond (Nat.ble pc 8) (cond (Nat.beq pc 8) (some (6, 0, 0, [], 9)) none) (cond (Nat.ble pc 9) (cond (Nat.beq pc 9) (some (25, 0, 0, [], 10)) none) (cond (Nat.beq pc 10) (some (41, 0, 0, [], 11)) none))))) none
def qc113 (pc : Nat) : Option qX := cond (Nat.ble pc 12) (cond (Nat.ble pc 6) (cond (Nat.ble pc 1) (cond (Nat.ble pc 0) (cond (Nat.beq pc 0) (some (2, 0, 0, [], 1)) none) (cond (Nat.beq pc 1) (some (22, 0, 7, [8], 4)) none)) (cond (Nat.ble pc 4) (cond (Nat.beq pc 4) (some (0, 4, 0, [], 5)) none) (cond (Nat.ble pc 5) (cond (Nat.beq pc 5) (some (0, 2, 0, [], 6)) none) (cond (Nat.beq pc 6) (some (1, 0, 1, [], 7)) none)))) (cond (Nat.ble pc 9) (cond (Nat.ble pc 7) (cond (Nat.beq pc 7) (some (8, 0, 0, [], 8)) none) (cond (Nat.ble pc 8) (cond (Nat.beq pc 8) (some (6, 0, 0, [], 9)) none) (cond (Nat.beq pc 9) (some (0, 1, 0, [], 10)) none))) (cond (Nat.ble pc 10) (cond (Nat.beq pc 10) (some (6, 0, 0, [], 11)) none) (cond (Nat.ble pc 11) (cond (Nat.beq pc 11) (some (25, 0, 0, [], 12)) none) (cond (Nat.beq pc 12) (some (41, 0, 0, [], 13)) none))))) none
def qc114 (pc : Nat) : Option qX := cond (Nat.ble pc 12) (cond (Nat.ble pc 6) (cond (Nat.ble pc 1) (cond (Nat.ble pc 0) (cond (Nat.beq pc 0) (some (2, 0, 0, [], 1)) none) (cond (Nat.beq pc 1) (some (22, 0, 7, [8], 4)) none)) (cond (Nat.ble pc 4) (cond (Nat.beq pc 4) (some (0, 124, 0, [], 6)) none) (cond (Nat.beq pc 6) (some (0, 21, 0, [], 8)) none))) (cond (Nat.ble pc 9) (cond (Nat.ble pc 8) (cond (Nat.beq pc 8) (some (1, 0, 1, [], 9)) none) (cond (Nat.beq pc 9) (some (8, 0, 0, [], 10)) none)) (cond (Nat.ble pc 10) (cond (Nat.beq pc 10) (some (6, 0, 0, [], 11)) none) (cond (Nat.ble pc 11) (cond (Nat.beq pc 11) (some (25, 0, 0, [], 12)) none) (cond (Nat.beq pc 12) (some (41, 0, 0, [], 13)) none))))) none
def qc115 (pc : Nat) : Option qX := cond (Nat.ble pc 16) (cond (Nat.ble pc 9) (cond (Nat.ble pc 4) (cond (Nat.ble pc 0) (cond (Nat.beq pc 0) (some (2, 0, 0, [], 1)) none) (cond (Nat.ble pc 1) (cond (Nat.beq pc 1) (some (22, 0, 7, [8], 4)) none) (cond (Nat.beq pc 4) (some (0, 124, 0, [], 6)) none))) (cond (Nat.ble pc 6) (cond (Nat.beq pc 6) (some (0, 21, 0, [], 8)) none) (cond (Nat.ble pc 8) (cond (Nat.beq pc 8) (some (1, 0, 1, [], 9)) none) (cond (Nat.beq pc 9) (some (8, 0, 0, [], 10)) none)))) (cond (Nat.ble pc 12) (cond (Nat.ble pc 10) (cond (Nat.beq pc 10) (some (6, 0, 0, [], 11)) none) (cond (Nat.ble pc 11) (cond (Nat.beq pc 11) (some (0, 1, 0, [], 12)) none) (cond (Nat.beq pc 12) (some (6, 0, 0, [], 13)) none))) (cond (Nat.ble pc 14) (cond (Nat.ble pc 13) (cond (Nat.beq pc 13) (some (1, 0, 2, [], 14)) none) (cond (Nat.beq pc 14) (some (6, 0, 0, [], 15)) none)) (cond (Nat.ble pc 15) (cond (Nat.beq pc 15) (some (25, 0, 0, [], 16)) none) (cond (Nat.beq pc 16) (some (41, 0, 0, [], 17)) none))))) none
def qc116 (pc : Nat) : Option qX := cond (Nat.ble pc 39) (cond (Nat.ble pc 15) (cond (Nat.ble pc 5) (cond (Nat.ble pc 2) (cond (Nat.ble pc 0) (cond (Nat.beq pc 0) (some (0, 0, 0, [], 1)) none) (cond (Nat.ble pc 1) (cond (Nat.beq pc 1) (some (3, 0, 2, [], 2)) none) (cond (Nat.beq pc 2) (some (0, 0, 0, [], 3)) none))) (cond (Nat.ble pc 3) (cond (Nat.beq pc 3) (some (3, 0, 3, [], 4)) none) (cond (Nat.ble pc 4) (cond (Nat.beq pc 4) (some (1, 0, 3, [], 5)) none) (cond (Nat.beq pc 5) (some (2, 0, 0, [], 6)) none)))) (cond (Nat.ble pc 10) (cond (Nat.ble pc 6) (cond (Nat.beq pc 6) (some (1, 0, 1, [], 7)) none) (cond (Nat.ble pc 7) (cond (Nat.beq pc 7) (some (40, 59, 114, [], 10)) none) (cond (Nat.beq pc 10) (some (16, 3, 38, [], 13)) none))) (cond (Nat.ble pc 13) (cond (Nat.beq pc 13) (some (1, 0, 2, [], 14)) none) (cond (Nat.ble pc 14) (cond (Nat.beq pc 14) (some (2, 0, 0, [], 15)) none) (cond (Nat.beq pc 15) (some (1, 0, 1, [], 16)) none))))) (cond (Nat.ble pc 26) (cond (Nat.ble pc 20) (cond (Nat.ble pc 16) (cond (Nat.beq pc 16) (some (1, 0, 3, [], 17)) none) (cond (Nat.ble pc 17) (cond (Nat.beq pc 17) (some (40, 62, 115, [], 20)) none) (cond (Nat.beq pc 20) (some (0, 100, 0, [], 22)) none))) (cond (Nat.ble pc 22) (cond (Nat.beq pc 22) (some (16, 3, 29, [], 25)) none) (cond (Nat.ble pc 25) (cond (Nat.beq pc 25) (some (0, 1, 0, [], 26)) none) (cond (Nat.beq pc 26) (some (15, 0, 30, [], 29)) none)))) (cond (Nat.ble pc 31) (cond (Nat.ble pc 29) (cond (Nat.beq pc 29) (some (0, 0, 0, [], 30)) none) (cond (Nat.ble pc 30) (cond (Nat.beq pc 30) (some (6, 0, 0, [], 31)) none) (cond (Nat.beq pc 31) (some (3, 0, 2, [], 32)) none))) (cond (Nat.ble pc 35) (cond (Nat.ble pc 32) (cond (Nat.beq pc 32) (some (5, 1, 3, [], 35)) none) (cond (Nat.beq pc 35) (some (15, 0, 4, [], 38)) none)) (cond (Nat.ble pc 38) (cond (Nat.beq pc 38) (some (1, 0, 2, [], 39)) none) (cond (Nat.beq pc 39) (some (41, 0, 0, [], 40)) none)))))) none
def qc117 (pc : Nat) : Option qX := cond (Nat.ble pc 11) (cond (Nat.ble pc 5) (cond (Nat.ble pc 1) (cond (Nat.ble pc 0) (cond (Nat.beq pc 0) (some (2, 0, 0, [], 1)) none) (cond (Nat.beq pc 1) (some (1, 0, 1, [], 2)) none)) (cond (Nat.ble pc 2) (cond (Nat.beq pc 2) (some (40, 59, 114, [], 5)) none) (cond (Nat.beq pc 5) (some (2, 0, 0, [], 6)) none))) (cond (Nat.ble pc 7) (cond (Nat.ble pc 6) (cond (Nat.beq pc 6) (some (1, 0, 1, [], 7)) none) (cond (Nat.beq pc 7) (some (40, 66, 116, [], 10)) none)) (cond (Nat.ble pc 10) (cond (Nat.beq pc 10) (some (7, 0, 0, [], 11)) none) (cond (Nat.beq pc 11) (some (41, 0, 0, [], 12)) none)))) none
def qc118 (pc : Nat) : Option qX := cond (Nat.ble pc 56) (cond (Nat.ble pc 26) (cond (Nat.ble pc 9) (cond (Nat.ble pc 3) (cond (Nat.ble pc 1) (cond (Nat.ble pc 0) (cond (Nat.beq pc 0) (some (0, 0, 0, [], 1)) none) (cond (Nat.beq pc 1) (some (3, 0, 3, [], 2)) none)) (cond (Nat.ble pc 2) (cond (Nat.beq pc 2) (some (0, 0, 0, [], 3)) none) (cond (Nat.beq pc 3) (some (3, 0, 4, [], 5)) none))) (cond (Nat.ble pc 7) (cond (Nat.ble pc 5) (cond (Nat.beq pc 5) (some (1, 0, 4, [], 7)) none) (cond (Nat.beq pc 7) (some (2, 0, 0, [], 8)) none)) (cond (Nat.ble pc 8) (cond (Nat.beq pc 8) (some (1, 0, 1, [], 9)) none) (cond (Nat.beq pc 9) (some (40, 59, 114, [], 12)) none)))) (cond (Nat.ble pc 17) (cond (Nat.ble pc 15) (cond (Nat.ble pc 12) (cond (Nat.beq pc 12) (some (16, 3, 54, [], 15)) none) (cond (Nat.beq pc 15) (some (2, 0, 0, [], 16)) none)) (cond (Nat.ble pc 16) (cond (Nat.beq pc 16) (some (1, 0, 1, [], 17)) none) (cond (Nat.beq pc 17) (some (1, 0, 4, [], 19)) none))) (cond (Nat.ble pc 22) (cond (Nat.ble pc 19) (cond (Nat.beq pc 19) (some (40, 62, 115, [], 22)) none) (cond (Nat.beq pc 22) (some (1, 0, 2, [], 23)) none)) (cond (Nat.ble pc 23) (cond (Nat.beq pc 23) (some (16, 1, 28, [], 26)) none) (cond (Nat.beq pc 26) (some (1, 0, 3, [], 27)) none))))) (cond (Nat.ble pc 38) (cond (Nat.ble pc 30) (cond (Nat.ble pc 28) (cond (Nat.ble pc 27) (cond (Nat.beq pc 27) (some (41, 0, 0, [], 28)) none) (cond (Nat.beq pc 28) (some (1, 0, 3, [], 29)) none)) (cond (Nat.ble pc 29) (cond (Nat.beq pc 29) (some (2, 0, 0, [], 30)) none) (cond (Nat.beq pc 30) (some (1, 0, 1, [], 31)) none))) (cond (Nat.ble pc 33) (cond (Nat.ble pc 31) (cond (Nat.beq pc 31) (some (1, 0, 4, [], 33)) none) (cond (Nat.beq pc 33) (some (40, 62, 115, [], 36)) none)) (cond (Nat.ble pc 36) (cond (Nat.beq pc 36) (some (0, 100, 0, [], 38)) none) (cond (Nat.beq pc 38) (some (16, 3, 45, [], 41)) none)))) (cond (Nat.ble pc 46) (cond (Nat.ble pc 42) (cond (Nat.ble pc 41) (cond (Nat.beq pc 41) (some (0, 1, 0, [], 42)) none) (cond (Nat.beq pc 42) (some (15, 0, 46, [], 45)) none)) (cond (Nat.ble pc 45) (cond (Nat.beq pc 45) (some (0, 0, 0, [], 46)) none) (cond (Nat.beq pc 46) (some (6, 0, 0, [], 47)) none))) (cond (Nat.ble pc 48) (cond (Nat.ble pc 47) (cond (Nat.beq pc 47) (some (3, 0, 3, [], 48)) none) (cond (Nat.beq pc 48) (some (5, 1, 4, [], 51)) none)) (cond (Nat.ble pc 51) (cond (Nat.beq pc 51) (some (15, 0, 5, [], 54)) none) (cond (Nat.ble pc 54) (cond (Nat.beq pc 54) (some (0, (-9), 0, [], 56)) none) (cond (Nat.beq pc 56) (some (41, 0, 0, [], 57)) none))))))) none
def qc119 (pc : Nat) : Option qX := cond (Nat.ble pc 46) (cond (Nat.ble pc 20) (cond (Nat.ble pc 7) (cond (Nat.ble pc 2) (cond (Nat.ble pc 0) (cond (Nat.beq pc 0) (some (0, 0, 0, [], 1)) none) (cond (Nat.ble pc 1) (cond (Nat.beq pc 1) (some (3, 0, 3, [], 2)) none) (cond (Nat.beq pc 2) (some (0, 0, 0, [], 3)) none))) (cond (Nat.ble pc 3) (cond (Nat.beq pc 3) (some (3, 0, 4, [], 5)) none) (cond (Nat.ble pc 5) (cond (Nat.beq pc 5) (some (1, 0, 4, [], 7)) none) (cond (Nat.beq pc 7) (some (2, 0, 0, [], 8)) none)))) (cond (Nat.ble pc 12) (cond (Nat.ble pc 8) (cond (Nat.beq pc 8) (some (1, 0, 1, [], 9)) none) (cond (Nat.ble pc 9) (cond (Nat.beq pc 9) (some (40, 59, 114, [], 12)) none) (cond (Nat.beq pc 12) (some (16, 3, 45, [], 15)) none))) (cond (Nat.ble pc 16) (cond (Nat.ble pc 15) (cond (Nat.beq pc 15) (some (1, 0, 3, [], 16)) none) (cond (Nat.beq pc 16) (some (17, 1, 33, [], 19)) none)) (cond (Nat.ble pc 19) (cond (Nat.beq pc 19) (some (2, 0, 0, [], 20)) none) (cond (Nat.beq pc 20) (some (1, 0, 1, [], 21)) none))))) (cond (Nat.ble pc 33) (cond (Nat.ble pc 26) (cond (Nat.ble pc 21) (cond (Nat.beq pc 21) (some (1, 0, 4, [], 23)) none) (cond (Nat.ble pc 23) (cond (Nat.beq pc 23) (some (40, 62, 115, [], 26)) none) (cond (Nat.beq pc 26) (some (0, 100, 0, [], 28)) none))) (cond (Nat.ble pc 29) (cond (Nat.ble pc 28) (cond (Nat.beq pc 28) (some (1, 0, 2, [], 29)) none) (cond (Nat.beq pc 29) (some (6, 0, 0, [], 30)) none)) (cond (Nat.ble pc 30) (cond (Nat.beq pc 30) (some (16, 1, 37, [], 33)) none) (cond (Nat.beq pc 33) (some (0, 1, 0, [], 34)) none)))) (cond (Nat.ble pc 38) (cond (Nat.ble pc 34) (cond (Nat.beq pc 34) (some (15, 0, 38, [], 37)) none) (cond (Nat.ble pc 37) (cond (Nat.beq pc 37) (some (0, 0, 0, [], 38)) none) (cond (Nat.beq pc 38) (some (3, 0, 3, [], 39)) none))) (cond (Nat.ble pc 42) (cond (Nat.ble pc 39) (cond (Nat.beq pc 39) (some (5, 1, 4, [], 42)) none) (cond (Nat.beq pc 42) (some (15, 0, 5, [], 45)) none)) (cond (Nat.ble pc 45) (cond (Nat.beq pc 45) (some (1, 0, 3, [], 46)) none) (cond (Nat.beq pc 46) (some (42, 0, 0, [], 47)) none)))))) none
def qc120 (pc : Nat) : Option qX := cond (Nat.ble pc 38) (cond (Nat.ble pc 15) (cond (Nat.ble pc 5) (cond (Nat.ble pc 2) (cond (Nat.ble pc 0) (cond (Nat.beq pc 0) (some (0, 0, 0, [], 1)) none) (cond (Nat.ble pc 1) (cond (Nat.beq pc 1) (some (3, 0, 2, [], 2)) none) (cond (Nat.beq pc 2) (some (0, 0, 0, [], 3)) none))) (cond (Nat.ble pc 3) (cond (Nat.beq pc 3) (some (3, 0, 3, [], 4)) none) (cond (Nat.ble pc 4) (cond (Nat.beq pc 4) (some (1, 0, 3, [], 5)) none) (cond (Nat.beq pc 5) (some (2, 0, 0, [], 6)) none)))) (cond (Nat.ble pc 10) (cond (Nat.ble pc 6) (cond (Nat.beq pc 6) (some (22, 0, 7, [8], 9)) none) (cond (Nat.ble pc 9) (cond (Nat.beq pc 9) (some (0, 0, 0, [], 10)) none) (cond (Nat.beq pc 10) (some (25, 0, 0, [], 11)) none))) (cond (Nat.ble pc 11) (cond (Nat.beq pc 11) (some (16, 3, 37, [], 14)) none) (cond (Nat.ble pc 14) (cond (Nat.beq pc 14) (some (1, 0, 2, [], 15)) none) (cond (Nat.beq pc 15) (some (2, 0, 0, [], 16)) none))))) (cond (Nat.ble pc 25) (cond (Nat.ble pc 20) (cond (Nat.ble pc 16) (cond (Nat.beq pc 16) (some (1, 0, 3, [], 17)) none) (cond (Nat.ble pc 17) (cond (Nat.beq pc 17) (some (40, 55, 109, [], 20)) none) (cond (Nat.beq pc 20) (some (1, 0, 1, [], 21)) none))) (cond (Nat.ble pc 21) (cond (Nat.beq pc 21) (some (16, 1, 28, [], 24)) none) (cond (Nat.ble pc 24) (cond (Nat.beq pc 24) (some (0, 1, 0, [], 25)) none) (cond (Nat.beq pc 25) (some (15, 0, 29, [], 28)) none)))) (cond (Nat.ble pc 30) (cond (Nat.ble pc 28) (cond (Nat.beq pc 28) (some (0, 0, 0, [], 29)) none) (cond (Nat.ble pc 29) (cond (Nat.beq pc 29) (some (6, 0, 0, [], 30)) none) (cond (Nat.beq pc 30) (some (3, 0, 2, [], 31)) none))) (cond (Nat.ble pc 34) (cond (Nat.ble pc 31) (cond (Nat.beq pc 31) (some (5, 1, 3, [], 34)) none) (cond (Nat.beq pc 34) (some (15, 0, 4, [], 37)) none)) (cond (Nat.ble pc 37) (cond (Nat.beq pc 37) (some (1, 0, 2, [], 38)) none) (cond (Nat.beq pc 38) (some (41, 0, 0, [], 39)) none)))))) none
def qc121 (pc : Nat) : Option qX := cond (Nat.ble pc 14) (cond (Nat.ble pc 5) (cond (Nat.ble pc 1) (cond (Nat.ble pc 0) (cond (Nat.beq pc 0) (some (2, 0, 0, [], 1)) none) (cond (Nat.beq pc 1) (some (1, 0, 1, [], 2)) none)) (cond (Nat.ble pc 2) (cond (Nat.beq pc 2) (some (40, 69, 120, [], 5)) none) (cond (Nat.beq pc 5) (some (1, 0, 2, [], 6)) none))) (cond (Nat.ble pc 9) (cond (Nat.ble pc 6) (cond (Nat.beq pc 6) (some (16, 2, 13, [], 9)) none) (cond (Nat.beq pc 9) (some (0, 1, 0, [], 10)) none)) (cond (Nat.ble pc 10) (cond (Nat.beq pc 10) (some (15, 0, 14, [], 13)) none) (cond (Nat.ble pc 13) (cond (Nat.beq pc 13) (some (0, 0, 0, [], 14)) none) (cond (Nat.beq pc 14) (some (42, 0, 0, [], 15)) none))))) none
def qc122 (pc : Nat) : Option qX := cond (Nat.ble pc 38) (cond (Nat.ble pc 15) (cond (Nat.ble pc 5) (cond (Nat.ble pc 2) (cond (Nat.ble pc 0) (cond (Nat.beq pc 0) (some (0, 0, 0, [], 1)) none) (cond (Nat.ble pc 1) (cond (Nat.beq pc 1) (some (3, 0, 2, [], 2)) none) (cond (Nat.beq pc 2) (some (0, 0, 0, [], 3)) none))) (cond (Nat.ble pc 3) (cond (Nat.beq pc 3) (some (3, 0, 3, [], 4)) none) (cond (Nat.ble pc 4) (cond (Nat.beq pc 4) (some (1, 0, 3, [], 5)) none) (cond (Nat.beq pc 5) (some (2, 0, 0, [], 6)) none)))) (cond (Nat.ble pc 10) (cond (Nat.ble pc 6) (cond (Nat.beq pc 6) (some (22, 0, 7, [8], 9)) none) (cond (Nat.ble pc 9) (cond (Nat.beq pc 9) (some (0, 2, 0, [], 10)) none) (cond (Nat.beq pc 10) (some (25, 0, 0, [], 11)) none))) (cond (Nat.ble pc 11) (cond (Nat.beq pc 11) (some (16, 3, 37, [], 14)) none) (cond (Nat.ble pc 14) (cond (Nat.beq pc 14) (some (1, 0, 2, [], 15)) none) (cond (Nat.beq pc 15) (some (2, 0, 0, [], 16)) none))))) (cond (Nat.ble pc 25) (cond (Nat.ble pc 18) (cond (Nat.ble pc 16) (cond (Nat.beq pc 16) (some (1, 0, 3, [], 17)) none) (cond (Nat.ble pc 17) (cond (Nat.beq pc 17) (some (1, 0, 1, [], 18)) none) (cond (Nat.beq pc 18) (some (40, 72, 121, [], 21)) none))) (cond (Nat.ble pc 21) (cond (Nat.beq pc 21) (some (17, 0, 28, [], 24)) none) (cond (Nat.ble pc 24) (cond (Nat.beq pc 24) (some (0, 1, 0, [], 25)) none) (cond (Nat.beq pc 25) (some (15, 0, 29, [], 28)) none)))) (cond (Nat.ble pc 30) (cond (Nat.ble pc 28) (cond (Nat.beq pc 28) (some (0, 0, 0, [], 29)) none) (cond (Nat.ble pc 29) (cond (Nat.beq pc 29) (some (6, 0, 0, [], 30)) none) (cond (Nat.beq pc 30) (some (3, 0, 2, [], 31)) none))) (cond (Nat.ble pc 34) (cond (Nat.ble pc 31) (cond (Nat.beq pc 31) (some (5, 1, 3, [], 34)) none) (cond (Nat.beq pc 34) (some (15, 0, 4, [], 37)) none)) (cond (Nat.ble pc 37) (cond (Nat.beq pc 37) (some (1, 0, 2, [], 38)) none) (cond (Nat.beq pc 38) (some (41, 0, 0, [], 39)) none)))))) none
def qc123 (pc : Nat) : Option qX := cond (Nat.ble pc 39) (cond (Nat.ble pc 15) (cond (Nat.ble pc 5) (cond (Nat.ble pc 2) (cond (Nat.ble pc 0) (cond (Nat.beq pc 0) (some (0, 0, 0, [], 1)) none) (cond (Nat.ble pc 1) (cond (Nat.beq pc 1) (some (3, 0, 1, [], 2)) none) (cond (Nat.beq pc 2) (some (0, 0, 0, [], 3)) none))) (cond (Nat.ble pc 3) (cond (Nat.beq pc 3) (some (3, 0, 2, [], 4)) none) (cond (Nat.ble pc 4) (cond (Nat.beq pc 4) (some (1, 0, 2, [], 5)) none) (cond (Nat.beq pc 5) (some (2, 0, 0, [], 6)) none)))) (cond (Nat.ble pc 10) (cond (Nat.ble pc 6) (cond (Nat.beq pc 6) (some (22, 0, 7, [8], 9)) none) (cond (Nat.ble pc 9) (cond (Nat.beq pc 9) (some (0, 0, 0, [], 10)) none) (cond (Nat.beq pc 10) (some (25, 0, 0, [], 11)) none))) (cond (Nat.ble pc 11) (cond (Nat.beq pc 11) (some (16, 3, 38, [], 14)) none) (cond (Nat.ble pc 14) (cond (Nat.beq pc 14) (some (1, 0, 1, [], 15)) none) (cond (Nat.beq pc 15) (some (2, 0, 0, [], 16)) none))))) (cond (Nat.ble pc 26) (cond (Nat.ble pc 20) (cond (Nat.ble pc 16) (cond (Nat.beq pc 16) (some (1, 0, 2, [], 17)) none) (cond (Nat.ble pc 17) (cond (Nat.beq pc 17) (some (40, 55, 109, [], 20)) none) (cond (Nat.beq pc 20) (some (0, (-9), 0, [], 22)) none))) (cond (Nat.ble pc 22) (cond (Nat.beq pc 22) (some (16, 0, 29, [], 25)) none) (cond (Nat.ble pc 25) (cond (Nat.beq pc 25) (some (0, 1, 0, [], 26)) none) (cond (Nat.beq pc 26) (some (15, 0, 30, [], 29)) none)))) (cond (Nat.ble pc 31) (cond (Nat.ble pc 29) (cond (Nat.beq pc 29) (some (0, 0, 0, [], 30)) none) (cond (Nat.ble pc 30) (cond (Nat.beq pc 30) (some (6, 0, 0, [], 31)) none) (cond (Nat.beq pc 31) (some (3, 0, 1, [], 32)) none))) (cond (Nat.ble pc 35) (cond (Nat.ble pc 32) (cond (Nat.beq pc 32) (some (5, 1, 2, [], 35)) none) (cond (Nat.beq pc 35) (some (15, 0, 4, [], 38)) none)) (cond (Nat.ble pc 38) (cond (Nat.beq pc 38) (some (1, 0, 1, [], 39)) none) (cond (Nat.beq pc 39) (some (41, 0, 0, [], 40)) none)))))) none
def qc124 (pc : Nat) : Option qX := cond (Nat.ble pc 20) (cond (Nat.ble pc 9) (cond (Nat.ble pc 4) (cond (Nat.ble pc 0) (cond (Nat.beq pc 0) (some (2, 0, 0, [], 1)) none) (cond (Nat.ble pc 1) (cond (Nat.beq pc 1) (some (22, 6, 22, [8], 4)) none) (cond (Nat.beq pc 4) (some (2, 0, 0, [], 5)) none))) (cond (Nat.ble pc 5) (cond (Nat.beq pc 5) (some (21, 7, 76, [8], 8)) none) (cond (Nat.ble pc 8) (cond (Nat.beq pc 8) (some (1, 0, 1, [], 9)) none) (cond (Nat.beq pc 9) (some (26, 0, 0, [], 10)) none)))) (cond (Nat.ble pc 12) (cond (Nat.ble pc 10) (cond (Nat.beq pc 10) (some (2, 0, 0, [], 11)) none) (cond (Nat.ble pc 11) (cond (Nat.beq pc 11) (some (12, 0, 0, [], 12)) none) (cond (Nat.beq pc 12) (some (21, 7, 76, [8], 15)) none))) (cond (Nat.ble pc 16) (cond (Nat.ble pc 15) (cond (Nat.beq pc 15) (some (0, 1, 0, [], 16)) none) (cond (Nat.beq pc 16) (some (6, 0, 0, [], 17)) none)) (cond (Nat.ble pc 17) (cond (Nat.beq pc 17) (some (23, 7, 76, [8], 20)) none) (cond (Nat.beq pc 20) (some (44, 0, 0, [], 21)) none))))) none
def qc125 (pc : Nat) : Option qX := cond (Nat.ble pc 48) (cond (Nat.ble pc 24) (cond (Nat.ble pc 10) (cond (Nat.ble pc 3) (cond (Nat.ble pc 0) (cond (Nat.beq pc 0) (some (1, 0, 1, [], 1)) none) (cond (Nat.ble pc 1) (cond (Nat.beq pc 1) (some (0, 99, 0, [], 3)) none) (cond (Nat.beq pc 3) (some (16, 5, 17, [], 6)) none))) (cond (Nat.ble pc 7) (cond (Nat.ble pc 6) (cond (Nat.beq pc 6) (some (2, 0, 0, [], 7)) none) (cond (Nat.beq pc 7) (some (0, 48, 0, [], 9)) none)) (cond (Nat.ble pc 9) (cond (Nat.beq pc 9) (some (1, 0, 1, [], 10)) none) (cond (Nat.beq pc 10) (some (0, 100, 0, [], 12)) none)))) (cond (Nat.ble pc 17) (cond (Nat.ble pc 13) (cond (Nat.ble pc 12) (cond (Nat.beq pc 12) (some (9, 0, 0, [], 13)) none) (cond (Nat.beq pc 13) (some (6, 0, 0, [], 14)) none)) (cond (Nat.ble pc 14) (cond (Nat.beq pc 14) (some (40, 79, 124, [], 17)) none) (cond (Nat.beq pc 17) (some (1, 0, 1, [], 18)) none))) (cond (Nat.ble pc 20) (cond (Nat.ble pc 18) (cond (Nat.beq pc 18) (some (0, 9, 0, [], 20)) none) (cond (Nat.beq pc 20) (some (16, 5, 37, [], 23)) none)) (cond (Nat.ble pc 23) (cond (Nat.beq pc 23) (some (2, 0, 0, [], 24)) none) (cond (Nat.beq pc 24) (some (0, 48, 0, [], 26)) none))))) (cond (Nat.ble pc 34) (cond (Nat.ble pc 29) (cond (Nat.ble pc 26) (cond (Nat.beq pc 26) (some (1, 0, 1, [], 27)) none) (cond (Nat.ble pc 27) (cond (Nat.beq pc 27) (some (0, 10, 0, [], 29)) none) (cond (Nat.beq pc 29) (some (9, 0, 0, [], 30)) none))) (cond (Nat.ble pc 32) (cond (Nat.ble pc 30) (cond (Nat.beq pc 30) (some (0, 10, 0, [], 32)) none) (cond (Nat.beq pc 32) (some (10, 0, 0, [], 33)) none)) (cond (Nat.ble pc 33) (cond (Nat.beq pc 33) (some (6, 0, 0, [], 34)) none) (cond (Nat.beq pc 34) (some (40, 79, 124, [], 37)) none)))) (cond (Nat.ble pc 41) (cond (Nat.ble pc 38) (cond (Nat.ble pc 37) (cond (Nat.beq pc 37) (some (2, 0, 0, [], 38)) none) (cond (Nat.beq pc 38) (some (0, 48, 0, [], 40)) none)) (cond (Nat.ble pc 40) (cond (Nat.beq pc 40) (some (1, 0, 1, [], 41)) none) (cond (Nat.beq pc 41) (some (0, 10, 0, [], 43)) none))) (cond (Nat.ble pc 44) (cond (Nat.ble pc 43) (cond (Nat.beq pc 43) (some (10, 0, 0, [], 44)) none) (cond (Nat.beq pc 44) (some (6, 0, 0, [], 45)) none)) (cond (Nat.ble pc 45) (cond (Nat.beq pc 45) (some (40, 79, 124, [], 48)) none) (cond (Nat.beq pc 48) (some (44, 0, 0, [], 49)) none)))))) none
def qc126 (pc : Nat) : Option qX := cond (Nat.ble pc 199) (cond (Nat.ble pc 90) (cond (Nat.ble pc 40) (cond (Nat.ble pc 16) (cond (Nat.ble pc 7) (cond (Nat.ble pc 2) (cond (Nat.ble pc 0) (cond (Nat.beq pc 0) (some (2, 0, 0, [], 1)) none) (cond (Nat.ble pc 1) (cond (Nat.beq pc 1) (some (0, 0, 0, [], 2)) none) (cond (Nat.beq pc 2) (some (23, 7, 76, [8], 5)) none))) (cond (Nat.ble pc 5) (cond (Nat.beq pc 5) (some (0, 0, 0, [], 6)) none) (cond (Nat.ble pc 6) (cond (Nat.beq pc 6) (some (3, 0, 3, [], 7)) none) (cond (Nat.beq pc 7) (some (2, 0, 0, [], 8)) none)))) (cond (Nat.ble pc 12) (cond (Nat.ble pc 8) (cond (Nat.beq pc 8) (some (22, 8, 25, [8], 11)) none) (cond (Nat.ble pc 11) (cond (Nat.beq pc 11) (some (0, 0, 0, [], 12)) none) (cond (Nat.beq pc 12) (some (0, (-9), 0, [], 14)) none))) (cond (Nat.ble pc 14) (cond (Nat.beq pc 14) (some (26, 0, 0, [], 15)) none) (cond (Nat.ble pc 15) (cond (Nat.beq pc 15) (some (0, 0, 0, [], 16)) none) (cond (Nat.beq pc 16) (some (3, 0, 4, [], 18)) none))))) (cond (Nat.ble pc 27) (cond (Nat.ble pc 21) (cond (Nat.ble pc 18) (cond (Nat.beq pc 18) (some (0, 1, 0, [], 19)) none) (cond (Nat.ble pc 19) (cond (Nat.beq pc 19) (some (3, 0, 5, [], 21)) none) (cond (Nat.beq pc 21) (some (2, 0, 0, [], 22)) none))) (cond (Nat.ble pc 22) (cond (Nat.beq pc 22) (some (0, 123, 0, [], 24)) none) (cond (Nat.ble pc 24) (cond (Nat.beq pc 24) (some (40, 79, 124, [], 27)) none) (cond (Nat.beq pc 27) (some (0, 0, 0, [], 28)) none)))) (cond (Nat.ble pc 32) (cond (Nat.ble pc 28) (cond (Nat.beq pc 28) (some (3, 0, 6, [], 30)) none) (cond (Nat.ble pc 30) (cond (Nat.beq pc 30) (some (1, 0, 6, [], 32)) none) (cond (Nat.beq pc 32) (some (2, 0, 0, [], 33)) none))) (cond (Nat.ble pc 34) (cond (Nat.ble pc 33) (cond (Nat.beq pc 33) (some (1, 0, 1, [], 34)) none) (cond (Nat.beq pc 34) (some (40, 59, 114, [], 37)) none)) (cond (Nat.ble pc 37) (cond (Nat.beq pc 37) (some (16, 3, 179, [], 40)) none) (cond (Nat.beq pc 40) (some (2, 0, 0, [], 41)) none)))))) (cond (Nat.ble pc 61) (cond (Nat.ble pc 50) (cond (Nat.ble pc 44) (cond (Nat.ble pc 41) (cond (Nat.beq pc 41) (some (1, 0, 1, [], 42)) none) (cond (Nat.ble pc 42) (cond (Nat.beq pc 42) (some (1, 0, 6, [], 44)) none) (cond (Nat.beq pc 44) (some (40, 62, 115, [], 47)) none))) (cond (Nat.ble pc 47) (cond (Nat.beq pc 47) (some (0, 100, 0, [], 49)) none) (cond (Nat.ble pc 49) (cond (Nat.beq pc 49) (some (10, 0, 0, [], 50)) none) (cond (Nat.beq pc 50) (some (3, 0, 7, [], 52)) none)))) (cond (Nat.ble pc 56) (cond (Nat.ble pc 52) (cond (Nat.beq pc 52) (some (2, 0, 0, [], 53)) none) (cond (Nat.ble pc 53) (cond (Nat.beq pc 53) (some (22, 8, 25, [8], 56)) none) (cond (Nat.beq pc 56) (some (1, 0, 3, [], 57)) none))) (cond (Nat.ble pc 58) (cond (Nat.ble pc 57) (cond (Nat.beq pc 57) (some (25, 0, 0, [], 58)) none) (cond (Nat.beq pc 58) (some (2, 0, 0, [], 59)) none)) (cond (Nat.ble pc 59) (cond (Nat.beq pc 59) (some (1, 0, 7, [], 61)) none) (cond (Nat.beq pc 61) (some (40, 83, 113, [], 64)) none))))) (cond (Nat.ble pc 76) (cond (Nat.ble pc 68) (cond (Nat.ble pc 64) (cond (Nat.beq pc 64) (some (16, 0, 82, [], 67)) none) (cond (Nat.ble pc 67) (cond (Nat.beq pc 67) (some (2, 0, 0, [], 68)) none) (cond (Nat.beq pc 68) (some (0, 125, 0, [], 70)) none))) (cond (Nat.ble pc 70) (cond (Nat.beq pc 70) (some (40, 79, 124, [], 73)) none) (cond (Nat.ble pc 73) (cond (Nat.beq pc 73) (some (5, (-1), 3, [], 76)) none) (cond (Nat.beq pc 76) (some (0, 0, 0, [], 77)) none)))) (cond (Nat.ble pc 82) (cond (Nat.ble pc 77) (cond (Nat.beq pc 77) (some (3, 0, 5, [], 79)) none) (cond (Nat.ble pc 79) (cond (Nat.beq pc 79) (some (15, 0, 52, [], 82)) none) (cond (Nat.beq pc 82) (some (1, 0, 5, [], 84)) none))) (cond (Nat.ble pc 87) (cond (Nat.ble pc 84) (cond (Nat.beq pc 84) (some (17, 1, 93, [], 87)) none) (cond (Nat.beq pc 87) (some (2, 0, 0, [], 88)) none)) (cond (Nat.ble pc 88) (cond (Nat.beq pc 88) (some (0, 44, 0, [], 90)) none) (cond (Nat.beq pc 90) (some (40, 79, 124, [], 93)) none))))))) (cond (Nat.ble pc 143) (cond (Nat.ble pc 116) (cond (Nat.ble pc 103) (cond (Nat.ble pc 95) (cond (Nat.ble pc 93) (cond (Nat.beq pc 93) (some (2, 0, 0, [], 94)) none) (cond (Nat.ble pc 94) (cond (Nat.beq pc 94) (some (2, 0, 0, [], 95)) none) (cond (Nat.beq pc 95) (some (1, 0, 7, [], 97)) none))) (cond (Nat.ble pc 97) (cond (Nat.beq pc 97) (some (40, 86, 112, [], 100)) none) (cond (Nat.ble pc 100) (cond (Nat.beq pc 100) (some (40, 79, 124, [], 103)) none) (cond (Nat.beq pc 103) (some (2, 0, 0, [], 104)) none)))) (cond (Nat.ble pc 109) (cond (Nat.ble pc 104) (cond (Nat.beq pc 104) (some (0, 58, 0, [], 106)) none) (cond (Nat.ble pc 106) (cond (Nat.beq pc 106) (some (40, 79, 124, [], 109)) none) (cond (Nat.beq pc 109) (some (2, 0, 0, [], 110)) none))) (cond (Nat.ble pc 111) (cond (Nat.ble pc 110) (cond (Nat.beq pc 110) (some (1, 0, 1, [], 111)) none) (cond (Nat.beq pc 111) (some (1, 0, 6, [], 113)) none)) (cond (Nat.ble pc 113) (cond (Nat.beq pc 113) (some (40, 62, 115, [], 116)) none) (cond (Nat.beq pc 116) (some (0, 100, 0, [], 118)) none))))) (cond (Nat.ble pc 128) (cond (Nat.ble pc 122) (cond (Nat.ble pc 118) (cond (Nat.beq pc 118) (some (16, 2, 125, [], 121)) none) (cond (Nat.ble pc 121) (cond (Nat.beq pc 121) (some (0, 1, 0, [], 122)) none) (cond (Nat.beq pc 122) (some (15, 0, 126, [], 125)) none))) (cond (Nat.ble pc 125) (cond (Nat.beq pc 125) (some (0, 0, 0, [], 126)) none) (cond (Nat.ble pc 126) (cond (Nat.beq pc 126) (some (3, 0, 5, [], 128)) none) (cond (Nat.beq pc 128) (some (1, 0, 5, [], 130)) none)))) (cond (Nat.ble pc 134) (cond (Nat.ble pc 130) (cond (Nat.beq pc 130) (some (17, 0, 153, [], 133)) none) (cond (Nat.ble pc 133) (cond (Nat.beq pc 133) (some (2, 0, 0, [], 134)) none) (cond (Nat.beq pc 134) (some (0, 123, 0, [], 136)) none))) (cond (Nat.ble pc 139) (cond (Nat.ble pc 136) (cond (Nat.beq pc 136) (some (40, 79, 124, [], 139)) none) (cond (Nat.beq pc 139) (some (5, 1, 3, [], 142)) none)) (cond (Nat.ble pc 142) (cond (Nat.beq pc 142) (some (2, 0, 0, [], 143)) none) (cond (Nat.beq pc 143) (some (22, 8, 25, [8], 146)) none)))))) (cond (Nat.ble pc 167) (cond (Nat.ble pc 154) (cond (Nat.ble pc 149) (cond (Nat.ble pc 146) (cond (Nat.beq pc 146) (some (1, 0, 3, [], 147)) none) (cond (Nat.ble pc 147) (cond (Nat.beq pc 147) (some (1, 0, 7, [], 149)) none) (cond (Nat.beq pc 149) (some (26, 0, 0, [], 150)) none))) (cond (Nat.ble pc 150) (cond (Nat.beq pc 150) (some (15, 0, 173, [], 153)) none) (cond (Nat.ble pc 153) (cond (Nat.beq pc 153) (some (1, 0, 2, [], 154)) none) (cond (Nat.beq pc 154) (some (0, (-9), 0, [], 156)) none)))) (cond (Nat.ble pc 160) (cond (Nat.ble pc 156) (cond (Nat.beq pc 156) (some (16, 0, 170, [], 159)) none) (cond (Nat.ble pc 159) (cond (Nat.beq pc 159) (some (2, 0, 0, [], 160)) none) (cond (Nat.beq pc 160) (some (2, 0, 0, [], 161)) none))) (cond (Nat.ble pc 162) (cond (Nat.ble pc 161) (cond (Nat.beq pc 161) (some (1, 0, 2, [], 162)) none) (cond (Nat.beq pc 162) (some (1, 0, 4, [], 164)) none)) (cond (Nat.ble pc 164) (cond (Nat.beq pc 164) (some (40, 89, 111, [], 167)) none) (cond (Nat.beq pc 167) (some (40, 92, 125, [], 170)) none))))) (cond (Nat.ble pc 182) (cond (Nat.ble pc 176) (cond (Nat.ble pc 170) (cond (Nat.beq pc 170) (some (5, 1, 4, [], 173)) none) (cond (Nat.ble pc 173) (cond (Nat.beq pc 173) (some (5, 1, 6, [], 176)) none) (cond (Nat.beq pc 176) (some (15, 0, 30, [], 179)) none))) (cond (Nat.ble pc 179) (cond (Nat.beq pc 179) (some (1, 0, 3, [], 180)) none) (cond (Nat.ble pc 180) (cond (Nat.beq pc 180) (some (3, 0, 6, [], 182)) none) (cond (Nat.beq pc 182) (some (1, 0, 6, [], 184)) none)))) (cond (Nat.ble pc 188) (cond (Nat.ble pc 184) (cond (Nat.beq pc 184) (some (17, 2, 199, [], 187)) none) (cond (Nat.ble pc 187) (cond (Nat.beq pc 187) (some (2, 0, 0, [], 188)) none) (cond (Nat.beq pc 188) (some (0, 125, 0, [], 190)) none))) (cond (Nat.ble pc 193) (cond (Nat.ble pc 190) (cond (Nat.beq pc 190) (some (40, 79, 124, [], 193)) none) (cond (Nat.beq pc 193) (some (5, (-1), 6, [], 196)) none)) (cond (Nat.ble pc 196) (cond (Nat.beq pc 196) (some (15, 0, 182, [], 199)) none) (cond (Nat.beq pc 199) (some (44, 0, 0, [], 200)) none)))))))) none
def qc127 (pc : Nat) : Option qX := cond (Nat.ble pc 57) (cond (Nat.ble pc 26) (cond (Nat.ble pc 9) (cond (Nat.ble pc 3) (cond (Nat.ble pc 1) (cond (Nat.ble pc 0) (cond (Nat.beq pc 0) (some (0, 0, 0, [], 1)) none) (cond (Nat.beq pc 1) (some (3, 0, 2, [], 2)) none)) (cond (Nat.ble pc 2) (cond (Nat.beq pc 2) (some (0, 0, 0, [], 3)) none) (cond (Nat.beq pc 3) (some (3, 0, 3, [], 4)) none))) (cond (Nat.ble pc 5) (cond (Nat.ble pc 4) (cond (Nat.beq pc 4) (some (1, 0, 3, [], 5)) none) (cond (Nat.beq pc 5) (some (2, 0, 0, [], 6)) none)) (cond (Nat.ble pc 6) (cond (Nat.beq pc 6) (some (21, 12, 95, [8], 9)) none) (cond (Nat.beq pc 9) (some (16, 3, 56, [], 12)) none)))) (cond (Nat.ble pc 17) (cond (Nat.ble pc 13) (cond (Nat.ble pc 12) (cond (Nat.beq pc 12) (some (1, 0, 2, [], 13)) none) (cond (Nat.beq pc 13) (some (17, 1, 44, [], 16)) none)) (cond (Nat.ble pc 16) (cond (Nat.beq pc 16) (some (2, 0, 0, [], 17)) none) (cond (Nat.beq pc 17) (some (22, 9, 28, [8], 20)) none))) (cond (Nat.ble pc 21) (cond (Nat.ble pc 20) (cond (Nat.beq pc 20) (some (1, 0, 3, [], 21)) none) (cond (Nat.beq pc 21) (some (25, 0, 0, [], 22)) none)) (cond (Nat.ble pc 22) (cond (Nat.beq pc 22) (some (1, 0, 1, [], 23)) none) (cond (Nat.ble pc 23) (cond (Nat.beq pc 23) (some (16, 1, 48, [], 26)) none) (cond (Nat.beq pc 26) (some (2, 0, 0, [], 27)) none)))))) (cond (Nat.ble pc 40) (cond (Nat.ble pc 32) (cond (Nat.ble pc 30) (cond (Nat.ble pc 27) (cond (Nat.beq pc 27) (some (22, 10, 31, [8], 30)) none) (cond (Nat.beq pc 30) (some (1, 0, 3, [], 31)) none)) (cond (Nat.ble pc 31) (cond (Nat.beq pc 31) (some (25, 0, 0, [], 32)) none) (cond (Nat.beq pc 32) (some (2, 0, 0, [], 33)) none))) (cond (Nat.ble pc 36) (cond (Nat.ble pc 33) (cond (Nat.beq pc 33) (some (22, 13, 37, [8], 36)) none) (cond (Nat.beq pc 36) (some (2, 0, 0, [], 37)) none)) (cond (Nat.ble pc 37) (cond (Nat.beq pc 37) (some (21, 14, 98, [8], 40)) none) (cond (Nat.beq pc 40) (some (25, 0, 0, [], 41)) none)))) (cond (Nat.ble pc 48) (cond (Nat.ble pc 44) (cond (Nat.ble pc 41) (cond (Nat.beq pc 41) (some (16, 1, 48, [], 44)) none) (cond (Nat.beq pc 44) (some (0, 1, 0, [], 45)) none)) (cond (Nat.ble pc 45) (cond (Nat.beq pc 45) (some (15, 0, 49, [], 48)) none) (cond (Nat.beq pc 48) (some (0, 0, 0, [], 49)) none))) (cond (Nat.ble pc 50) (cond (Nat.ble pc 49) (cond (Nat.beq pc 49) (some (3, 0, 2, [], 50)) none) (cond (Nat.beq pc 50) (some (5, 1, 3, [], 53)) none)) (cond (Nat.ble pc 53) (cond (Nat.beq pc 53) (some (15, 0, 4, [], 56)) none) (cond (Nat.ble pc 56) (cond (Nat.beq pc 56) (some (1, 0, 2, [], 57)) none) (cond (Nat.beq pc 57) (some (42, 0, 0, [], 58)) none))))))) none
def qc128 (pc : Nat) : Option qX := cond (Nat.ble pc 96) (cond (Nat.ble pc 49) (cond (Nat.ble pc 23) (cond (Nat.ble pc 8) (cond (Nat.ble pc 2) (cond (Nat.ble pc 0) (cond (Nat.beq pc 0) (some (0, 0, 0, [], 1)) none) (cond (Nat.ble pc 1) (cond (Nat.beq pc 1) (some (3, 0, 1, [], 2)) none) (cond (Nat.beq pc 2) (some (0, 0, 0, [], 3)) none))) (cond (Nat.ble pc 4) (cond (Nat.ble pc 3) (cond (Nat.beq pc 3) (some (3, 0, 2, [], 4)) none) (cond (Nat.beq pc 4) (some (2, 0, 0, [], 5)) none)) (cond (Nat.ble pc 5) (cond (Nat.beq pc 5) (some (21, 15, 101, [8], 8)) none) (cond (Nat.beq pc 8) (some (2, 0, 0, [], 9)) none)))) (cond (Nat.ble pc 15) (cond (Nat.ble pc 9) (cond (Nat.beq pc 9) (some (21, 5, 104, [8], 12)) none) (cond (Nat.ble pc 12) (cond (Nat.beq pc 12) (some (16, 3, 83, [], 15)) none) (cond (Nat.beq pc 15) (some (2, 0, 0, [], 16)) none))) (cond (Nat.ble pc 19) (cond (Nat.ble pc 16) (cond (Nat.beq pc 16) (some (22, 4, 19, [8], 19)) none) (cond (Nat.beq pc 19) (some (2, 0, 0, [], 20)) none)) (cond (Nat.ble pc 20) (cond (Nat.beq pc 20) (some (21, 15, 101, [8], 23)) none) (cond (Nat.beq pc 23) (some (25, 0, 0, [], 24)) none))))) (cond (Nat.ble pc 36) (cond (Nat.ble pc 28) (cond (Nat.ble pc 24) (cond (Nat.beq pc 24) (some (0, 48, 0, [], 26)) none) (cond (Nat.ble pc 26) (cond (Nat.beq pc 26) (some (0, 57, 0, [], 28)) none) (cond (Nat.beq pc 28) (some (40, 51, 104, [], 31)) none))) (cond (Nat.ble pc 34) (cond (Nat.ble pc 31) (cond (Nat.beq pc 31) (some (17, 0, 83, [], 34)) none) (cond (Nat.beq pc 34) (some (1, 0, 2, [], 35)) none)) (cond (Nat.ble pc 35) (cond (Nat.beq pc 35) (some (0, 3, 0, [], 36)) none) (cond (Nat.beq pc 36) (some (16, 0, 47, [], 39)) none)))) (cond (Nat.ble pc 43) (cond (Nat.ble pc 39) (cond (Nat.beq pc 39) (some (1, 0, 2, [], 40)) none) (cond (Nat.ble pc 40) (cond (Nat.beq pc 40) (some (17, 5, 49, [], 43)) none) (cond (Nat.beq pc 43) (some (1, 0, 1, [], 44)) none))) (cond (Nat.ble pc 47) (cond (Nat.ble pc 44) (cond (Nat.beq pc 44) (some (17, 1, 49, [], 47)) none) (cond (Nat.beq pc 47) (some (0, 0, 0, [], 48)) none)) (cond (Nat.ble pc 48) (cond (Nat.beq pc 48) (some (42, 0, 0, [], 49)) none) (cond (Nat.beq pc 49) (some (0, 10, 0, [], 51)) none)))))) (cond (Nat.ble pc 69) (cond (Nat.ble pc 61) (cond (Nat.ble pc 53) (cond (Nat.ble pc 51) (cond (Nat.beq pc 51) (some (1, 0, 1, [], 52)) none) (cond (Nat.ble pc 52) (cond (Nat.beq pc 52) (some (8, 0, 0, [], 53)) none) (cond (Nat.beq pc 53) (some (2, 0, 0, [], 54)) none))) (cond (Nat.ble pc 57) (cond (Nat.ble pc 54) (cond (Nat.beq pc 54) (some (22, 4, 19, [8], 57)) none) (cond (Nat.beq pc 57) (some (2, 0, 0, [], 58)) none)) (cond (Nat.ble pc 58) (cond (Nat.beq pc 58) (some (21, 15, 101, [8], 61)) none) (cond (Nat.beq pc 61) (some (25, 0, 0, [], 62)) none)))) (cond (Nat.ble pc 65) (cond (Nat.ble pc 62) (cond (Nat.beq pc 62) (some (6, 0, 0, [], 63)) none) (cond (Nat.ble pc 63) (cond (Nat.beq pc 63) (some (0, 48, 0, [], 65)) none) (cond (Nat.beq pc 65) (some (7, 0, 0, [], 66)) none))) (cond (Nat.ble pc 67) (cond (Nat.ble pc 66) (cond (Nat.beq pc 66) (some (3, 0, 1, [], 67)) none) (cond (Nat.beq pc 67) (some (2, 0, 0, [], 68)) none)) (cond (Nat.ble pc 68) (cond (Nat.beq pc 68) (some (12, 0, 0, [], 69)) none) (cond (Nat.beq pc 69) (some (21, 15, 101, [8], 72)) none))))) (cond (Nat.ble pc 84) (cond (Nat.ble pc 74) (cond (Nat.ble pc 72) (cond (Nat.beq pc 72) (some (0, 1, 0, [], 73)) none) (cond (Nat.ble pc 73) (cond (Nat.beq pc 73) (some (6, 0, 0, [], 74)) none) (cond (Nat.beq pc 74) (some (23, 15, 101, [8], 77)) none))) (cond (Nat.ble pc 80) (cond (Nat.ble pc 77) (cond (Nat.beq pc 77) (some (5, 1, 2, [], 80)) none) (cond (Nat.beq pc 80) (some (15, 0, 4, [], 83)) none)) (cond (Nat.ble pc 83) (cond (Nat.beq pc 83) (some (2, 0, 0, [], 84)) none) (cond (Nat.beq pc 84) (some (22, 11, 34, [8], 87)) none)))) (cond (Nat.ble pc 92) (cond (Nat.ble pc 88) (cond (Nat.ble pc 87) (cond (Nat.beq pc 87) (some (2, 0, 0, [], 88)) none) (cond (Nat.beq pc 88) (some (21, 12, 95, [8], 91)) none)) (cond (Nat.ble pc 91) (cond (Nat.beq pc 91) (some (0, 1, 0, [], 92)) none) (cond (Nat.beq pc 92) (some (7, 0, 0, [], 93)) none))) (cond (Nat.ble pc 94) (cond (Nat.ble pc 93) (cond (Nat.beq pc 93) (some (1, 0, 1, [], 94)) none) (cond (Nat.beq pc 94) (some (26, 0, 0, [], 95)) none)) (cond (Nat.ble pc 95) (cond (Nat.beq pc 95) (some (0, 1, 0, [], 96)) none) (cond (Nat.beq pc 96) (some (42, 0, 0, [], 97)) none))))))) none
def qc129 (pc : Nat) : Option qX := cond (Nat.ble pc 40) (cond (Nat.ble pc 16) (cond (Nat.ble pc 5) (cond (Nat.ble pc 2) (cond (Nat.ble pc 0) (cond (Nat.beq pc 0) (some (0, 0, 0, [], 1)) none) (cond (Nat.ble pc 1) (cond (Nat.beq pc 1) (some (3, 0, 1, [], 2)) none) (cond (Nat.beq pc 2) (some (0, 0, 0, [], 3)) none))) (cond (Nat.ble pc 3) (cond (Nat.beq pc 3) (some (3, 0, 2, [], 4)) none) (cond (Nat.ble pc 4) (cond (Nat.beq pc 4) (some (1, 0, 2, [], 5)) none) (cond (Nat.beq pc 5) (some (2, 0, 0, [], 6)) none)))) (cond (Nat.ble pc 10) (cond (Nat.ble pc 6) (cond (Nat.beq pc 6) (some (21, 12, 95, [8], 9)) none) (cond (Nat.ble pc 9) (cond (Nat.beq pc 9) (some (0, 1, 0, [], 10)) none) (cond (Nat.beq pc 10) (some (7, 0, 0, [], 11)) none))) (cond (Nat.ble pc 14) (cond (Nat.ble pc 11) (cond (Nat.beq pc 11) (some (16, 3, 39, [], 14)) none) (cond (Nat.beq pc 14) (some (1, 0, 1, [], 15)) none)) (cond (Nat.ble pc 15) (cond (Nat.beq pc 15) (some (2, 0, 0, [], 16)) none) (cond (Nat.beq pc 16) (some (22, 11, 34, [8], 19)) none))))) (cond (Nat.ble pc 27) (cond (Nat.ble pc 21) (cond (Nat.ble pc 19) (cond (Nat.beq pc 19) (some (1, 0, 2, [], 20)) none) (cond (Nat.ble pc 20) (cond (Nat.beq pc 20) (some (25, 0, 0, [], 21)) none) (cond (Nat.beq pc 21) (some (0, (-9), 0, [], 23)) none))) (cond (Nat.ble pc 23) (cond (Nat.beq pc 23) (some (16, 0, 30, [], 26)) none) (cond (Nat.ble pc 26) (cond (Nat.beq pc 26) (some (0, 1, 0, [], 27)) none) (cond (Nat.beq pc 27) (some (15, 0, 31, [], 30)) none)))) (cond (Nat.ble pc 32) (cond (Nat.ble pc 30) (cond (Nat.beq pc 30) (some (0, 0, 0, [], 31)) none) (cond (Nat.ble pc 31) (cond (Nat.beq pc 31) (some (6, 0, 0, [], 32)) none) (cond (Nat.beq pc 32) (some (3, 0, 1, [], 33)) none))) (cond (Nat.ble pc 36) (cond (Nat.ble pc 33) (cond (Nat.beq pc 33) (some (5, 1, 2, [], 36)) none) (cond (Nat.beq pc 36) (some (15, 0, 4, [], 39)) none)) (cond (Nat.ble pc 39) (cond (Nat.beq pc 39) (some (1, 0, 1, [], 40)) none) (cond (Nat.beq pc 40) (some (41, 0, 0, [], 41)) none)))))) none
def qc130 (pc : Nat) : Option qX := cond (Nat.ble pc 185) (cond (Nat.ble pc 91) (cond (Nat.ble pc 44) (cond (Nat.ble pc 22) (cond (Nat.ble pc 10) (cond (Nat.ble pc 3) (cond (Nat.ble pc 0) (cond (Nat.beq pc 0) (some (1, 0, 1, [], 1)) none) (cond (Nat.ble pc 1) (cond (Nat.beq pc 1) (some (0, 123, 0, [], 3)) none) (cond (Nat.beq pc 3) (some (16, 1, 73, [], 6)) none))) (cond (Nat.ble pc 6) (cond (Nat.beq pc 6) (some (2, 0, 0, [], 7)) none) (cond (Nat.ble pc 7) (cond (Nat.beq pc 7) (some (21, 16, 107, [8], 10)) none) (cond (Nat.beq pc 10) (some (17, 0, 29, [], 13)) none)))) (cond (Nat.ble pc 17) (cond (Nat.ble pc 13) (cond (Nat.beq pc 13) (some (2, 0, 0, [], 14)) none) (cond (Nat.ble pc 14) (cond (Nat.beq pc 14) (some (21, 16, 107, [8], 17)) none) (cond (Nat.beq pc 17) (some (0, 4, 0, [], 18)) none))) (cond (Nat.ble pc 18) (cond (Nat.beq pc 18) (some (16, 1, 73, [], 21)) none) (cond (Nat.ble pc 21) (cond (Nat.beq pc 21) (some (2, 0, 0, [], 22)) none) (cond (Nat.beq pc 22) (some (21, 14, 98, [8], 25)) none))))) (cond (Nat.ble pc 34) (cond (Nat.ble pc 29) (cond (Nat.ble pc 25) (cond (Nat.beq pc 25) (some (0, 4, 0, [], 26)) none) (cond (Nat.ble pc 26) (cond (Nat.beq pc 26) (some (16, 3, 73, [], 29)) none) (cond (Nat.beq pc 29) (some (2, 0, 0, [], 30)) none))) (cond (Nat.ble pc 30) (cond (Nat.beq pc 30) (some (12, 0, 0, [], 31)) none) (cond (Nat.ble pc 31) (cond (Nat.beq pc 31) (some (21, 14, 98, [8], 34)) none) (cond (Nat.beq pc 34) (some (0, 1, 0, [], 35)) none)))) (cond (Nat.ble pc 39) (cond (Nat.ble pc 35) (cond (Nat.beq pc 35) (some (6, 0, 0, [], 36)) none) (cond (Nat.ble pc 36) (cond (Nat.beq pc 36) (some (23, 14, 98, [8], 39)) none) (cond (Nat.beq pc 39) (some (2, 0, 0, [], 40)) none))) (cond (Nat.ble pc 40) (cond (Nat.beq pc 40) (some (22, 13, 37, [8], 43)) none) (cond (Nat.ble pc 43) (cond (Nat.beq pc 43) (some (2, 0, 0, [], 44)) none) (cond (Nat.beq pc 44) (some (21, 14, 98, [8], 47)) none)))))) (cond (Nat.ble pc 67) (cond (Nat.ble pc 59) (cond (Nat.ble pc 51) (cond (Nat.ble pc 47) (cond (Nat.beq pc 47) (some (2, 0, 0, [], 48)) none) (cond (Nat.ble pc 48) (cond (Nat.beq pc 48) (some (21, 16, 107, [8], 51)) none) (cond (Nat.beq pc 51) (some (17, 1, 59, [], 54)) none))) (cond (Nat.ble pc 54) (cond (Nat.beq pc 54) (some (0, (-9), 0, [], 56)) none) (cond (Nat.ble pc 56) (cond (Nat.beq pc 56) (some (15, 0, 65, [], 59)) none) (cond (Nat.beq pc 59) (some (2, 0, 0, [], 60)) none)))) (cond (Nat.ble pc 64) (cond (Nat.ble pc 60) (cond (Nat.beq pc 60) (some (21, 12, 95, [8], 63)) none) (cond (Nat.ble pc 63) (cond (Nat.beq pc 63) (some (0, 1, 0, [], 64)) none) (cond (Nat.beq pc 64) (some (7, 0, 0, [], 65)) none))) (cond (Nat.ble pc 65) (cond (Nat.beq pc 65) (some (26, 0, 0, [], 66)) none) (cond (Nat.ble pc 66) (cond (Nat.beq pc 66) (some (2, 0, 0, [], 67)) none) (cond (Nat.beq pc 67) (some (0, 1, 0, [], 68)) none))))) (cond (Nat.ble pc 76) (cond (Nat.ble pc 72) (cond (Nat.ble pc 68) (cond (Nat.beq pc 68) (some (23, 16, 107, [8], 71)) none) (cond (Nat.ble pc 71) (cond (Nat.beq pc 71) (some (0, 1, 0, [], 72)) none) (cond (Nat.beq pc 72) (some (42, 0, 0, [], 73)) none))) (cond (Nat.ble pc 73) (cond (Nat.beq pc 73) (some (1, 0, 1, [], 74)) none) (cond (Nat.ble pc 74) (cond (Nat.beq pc 74) (some (0, 125, 0, [], 76)) none) (cond (Nat.beq pc 76) (some (16, 1, 124, [], 79)) none)))) (cond (Nat.ble pc 83) (cond (Nat.ble pc 79) (cond (Nat.beq pc 79) (some (2, 0, 0, [], 80)) none) (cond (Nat.ble pc 80) (cond (Nat.beq pc 80) (some (21, 16, 107, [8], 83)) none) (cond (Nat.beq pc 83) (some (0, 1, 0, [], 84)) none))) (cond (Nat.ble pc 87) (cond (Nat.ble pc 84) (cond (Nat.beq pc 84) (some (16, 0, 95, [], 87)) none) (cond (Nat.beq pc 87) (some (2, 0, 0, [], 88)) none)) (cond (Nat.ble pc 88) (cond (Nat.beq pc 88) (some (21, 16, 107, [8], 91)) none) (cond (Nat.beq pc 91) (some (0, 5, 0, [], 92)) none))))))) (cond (Nat.ble pc 138) (cond (Nat.ble pc 113) (cond (Nat.ble pc 101) (cond (Nat.ble pc 96) (cond (Nat.ble pc 92) (cond (Nat.beq pc 92) (some (16, 1, 124, [], 95)) none) (cond (Nat.ble pc 95) (cond (Nat.beq pc 95) (some (2, 0, 0, [], 96)) none) (cond (Nat.beq pc 96) (some (12, 0, 0, [], 97)) none))) (cond (Nat.ble pc 97) (cond (Nat.beq pc 97) (some (21, 14, 98, [8], 100)) none) (cond (Nat.ble pc 100) (cond (Nat.beq pc 100) (some (0, 1, 0, [], 101)) none) (cond (Nat.beq pc 101) (some (7, 0, 0, [], 102)) none)))) (cond (Nat.ble pc 106) (cond (Nat.ble pc 102) (cond (Nat.beq pc 102) (some (23, 14, 98, [8], 105)) none) (cond (Nat.ble pc 105) (cond (Nat.beq pc 105) (some (2, 0, 0, [], 106)) none) (cond (Nat.beq pc 106) (some (2, 0, 0, [], 107)) none))) (cond (Nat.ble pc 107) (cond (Nat.beq pc 107) (some (21, 14, 98, [8], 110)) none) (cond (Nat.ble pc 110) (cond (Nat.beq pc 110) (some (17, 1, 118, [], 113)) none) (cond (Nat.beq pc 113) (some (0, 6, 0, [], 115)) none))))) (cond (Nat.ble pc 124) (cond (Nat.ble pc 119) (cond (Nat.ble pc 115) (cond (Nat.beq pc 115) (some (15, 0, 119, [], 118)) none) (cond (Nat.ble pc 118) (cond (Nat.beq pc 118) (some (0, 5, 0, [], 119)) none) (cond (Nat.beq pc 119) (some (23, 16, 107, [8], 122)) none))) (cond (Nat.ble pc 122) (cond (Nat.beq pc 122) (some (0, 1, 0, [], 123)) none) (cond (Nat.ble pc 123) (cond (Nat.beq pc 123) (some (42, 0, 0, [], 124)) none) (cond (Nat.beq pc 124) (some (1, 0, 1, [], 125)) none)))) (cond (Nat.ble pc 130) (cond (Nat.ble pc 125) (cond (Nat.beq pc 125) (some (0, 44, 0, [], 127)) none) (cond (Nat.ble pc 127) (cond (Nat.beq pc 127) (some (16, 1, 138, [], 130)) none) (cond (Nat.beq pc 130) (some (2, 0, 0, [], 131)) none))) (cond (Nat.ble pc 134) (cond (Nat.ble pc 131) (cond (Nat.beq pc 131) (some (21, 16, 107, [8], 134)) none) (cond (Nat.beq pc 134) (some (0, 5, 0, [], 135)) none)) (cond (Nat.ble pc 135) (cond (Nat.beq pc 135) (some (16, 0, 152, [], 138)) none) (cond (Nat.beq pc 138) (some (1, 0, 1, [], 139)) none)))))) (cond (Nat.ble pc 159) (cond (Nat.ble pc 149) (cond (Nat.ble pc 144) (cond (Nat.ble pc 139) (cond (Nat.beq pc 139) (some (0, 58, 0, [], 141)) none) (cond (Nat.ble pc 141) (cond (Nat.beq pc 141) (some (16, 1, 156, [], 144)) none) (cond (Nat.beq pc 144) (some (2, 0, 0, [], 145)) none))) (cond (Nat.ble pc 145) (cond (Nat.beq pc 145) (some (21, 16, 107, [8], 148)) none) (cond (Nat.ble pc 148) (cond (Nat.beq pc 148) (some (0, 3, 0, [], 149)) none) (cond (Nat.beq pc 149) (some (16, 1, 156, [], 152)) none)))) (cond (Nat.ble pc 156) (cond (Nat.ble pc 152) (cond (Nat.beq pc 152) (some (0, 1, 0, [], 153)) none) (cond (Nat.ble pc 153) (cond (Nat.beq pc 153) (some (15, 0, 157, [], 156)) none) (cond (Nat.beq pc 156) (some (0, 0, 0, [], 157)) none))) (cond (Nat.ble pc 157) (cond (Nat.beq pc 157) (some (3, 0, 2, [], 158)) none) (cond (Nat.ble pc 158) (cond (Nat.beq pc 158) (some (2, 0, 0, [], 159)) none) (cond (Nat.beq pc 159) (some (1, 0, 2, [], 160)) none))))) (cond (Nat.ble pc 170) (cond (Nat.ble pc 164) (cond (Nat.ble pc 160) (cond (Nat.beq pc 160) (some (17, 0, 177, [], 163)) none) (cond (Nat.ble pc 163) (cond (Nat.beq pc 163) (some (1, 0, 1, [], 164)) none) (cond (Nat.beq pc 164) (some (0, 44, 0, [], 166)) none))) (cond (Nat.ble pc 166) (cond (Nat.beq pc 166) (some (16, 1, 173, [], 169)) none) (cond (Nat.ble pc 169) (cond (Nat.beq pc 169) (some (0, 2, 0, [], 170)) none) (cond (Nat.beq pc 170) (some (15, 0, 181, [], 173)) none)))) (cond (Nat.ble pc 177) (cond (Nat.ble pc 173) (cond (Nat.beq pc 173) (some (0, 4, 0, [], 174)) none) (cond (Nat.ble pc 174) (cond (Nat.beq pc 174) (some (15, 0, 181, [], 177)) none) (cond (Nat.beq pc 177) (some (2, 0, 0, [], 178)) none))) (cond (Nat.ble pc 181) (cond (Nat.ble pc 178) (cond (Nat.beq pc 178) (some (21, 16, 107, [8], 181)) none) (cond (Nat.beq pc 181) (some (23, 16, 107, [8], 184)) none)) (cond (Nat.ble pc 184) (cond (Nat.beq pc 184) (some (1, 0, 2, [], 185)) none) (cond (Nat.beq pc 185) (some (42, 0, 0, [], 186)) none)))))))) none
def qc131 (pc : Nat) : Option qX := cond (Nat.ble pc 54) (cond (Nat.ble pc 27) (cond (Nat.ble pc 11) (cond (Nat.ble pc 5) (cond (Nat.ble pc 1) (cond (Nat.ble pc 0) (cond (Nat.beq pc 0) (some (2, 0, 0, [], 1)) none) (cond (Nat.beq pc 1) (some (22, 9, 28, [8], 4)) none)) (cond (Nat.ble pc 4) (cond (Nat.beq pc 4) (some (2, 0, 0, [], 5)) none) (cond (Nat.beq pc 5) (some (21, 12, 95, [8], 8)) none))) (cond (Nat.ble pc 9) (cond (Nat.ble pc 8) (cond (Nat.beq pc 8) (some (1, 0, 1, [], 9)) none) (cond (Nat.beq pc 9) (some (26, 0, 0, [], 10)) none)) (cond (Nat.ble pc 10) (cond (Nat.beq pc 10) (some (2, 0, 0, [], 11)) none) (cond (Nat.beq pc 11) (some (22, 10, 31, [8], 14)) none)))) (cond (Nat.ble pc 19) (cond (Nat.ble pc 15) (cond (Nat.ble pc 14) (cond (Nat.beq pc 14) (some (2, 0, 0, [], 15)) none) (cond (Nat.beq pc 15) (some (21, 12, 95, [8], 18)) none)) (cond (Nat.ble pc 18) (cond (Nat.beq pc 18) (some (2, 0, 0, [], 19)) none) (cond (Nat.beq pc 19) (some (22, 13, 37, [8], 22)) none))) (cond (Nat.ble pc 23) (cond (Nat.ble pc 22) (cond (Nat.beq pc 22) (some (2, 0, 0, [], 23)) none) (cond (Nat.beq pc 23) (some (21, 14, 98, [8], 26)) none)) (cond (Nat.ble pc 26) (cond (Nat.beq pc 26) (some (25, 0, 0, [], 27)) none) (cond (Nat.beq pc 27) (some (26, 0, 0, [], 28)) none))))) (cond (Nat.ble pc 40) (cond (Nat.ble pc 33) (cond (Nat.ble pc 29) (cond (Nat.ble pc 28) (cond (Nat.beq pc 28) (some (2, 0, 0, [], 29)) none) (cond (Nat.beq pc 29) (some (22, 11, 34, [8], 32)) none)) (cond (Nat.ble pc 32) (cond (Nat.beq pc 32) (some (2, 0, 0, [], 33)) none) (cond (Nat.beq pc 33) (some (21, 12, 95, [8], 36)) none))) (cond (Nat.ble pc 38) (cond (Nat.ble pc 36) (cond (Nat.beq pc 36) (some (0, (-9), 0, [], 38)) none) (cond (Nat.beq pc 38) (some (26, 0, 0, [], 39)) none)) (cond (Nat.ble pc 39) (cond (Nat.beq pc 39) (some (2, 0, 0, [], 40)) none) (cond (Nat.beq pc 40) (some (12, 0, 0, [], 41)) none)))) (cond (Nat.ble pc 46) (cond (Nat.ble pc 44) (cond (Nat.ble pc 41) (cond (Nat.beq pc 41) (some (21, 12, 95, [8], 44)) none) (cond (Nat.beq pc 44) (some (0, 1, 0, [], 45)) none)) (cond (Nat.ble pc 45) (cond (Nat.beq pc 45) (some (6, 0, 0, [], 46)) none) (cond (Nat.beq pc 46) (some (23, 12, 95, [8], 49)) none))) (cond (Nat.ble pc 50) (cond (Nat.ble pc 49) (cond (Nat.beq pc 49) (some (2, 0, 0, [], 50)) none) (cond (Nat.beq pc 50) (some (0, 3, 0, [], 51)) none)) (cond (Nat.ble pc 51) (cond (Nat.beq pc 51) (some (23, 16, 107, [8], 54)) none) (cond (Nat.beq pc 54) (some (44, 0, 0, [], 55)) none)))))) none
def qc132 (pc : Nat) : Option qX := cond (Nat.ble pc 195) (cond (Nat.ble pc 91) (cond (Nat.ble pc 42) (cond (Nat.ble pc 17) (cond (Nat.ble pc 7) (cond (Nat.ble pc 2) (cond (Nat.ble pc 0) (cond (Nat.beq pc 0) (some (2, 0, 0, [], 1)) none) (cond (Nat.ble pc 1) (cond (Nat.beq pc 1) (some (0, 0, 0, [], 2)) none) (cond (Nat.beq pc 2) (some (23, 15, 101, [8], 5)) none))) (cond (Nat.ble pc 5) (cond (Nat.beq pc 5) (some (2, 0, 0, [], 6)) none) (cond (Nat.ble pc 6) (cond (Nat.beq pc 6) (some (0, 0, 0, [], 7)) none) (cond (Nat.beq pc 7) (some (23, 12, 95, [8], 10)) none)))) (cond (Nat.ble pc 12) (cond (Nat.ble pc 10) (cond (Nat.beq pc 10) (some (2, 0, 0, [], 11)) none) (cond (Nat.ble pc 11) (cond (Nat.beq pc 11) (some (0, 0, 0, [], 12)) none) (cond (Nat.beq pc 12) (some (23, 14, 98, [8], 15)) none))) (cond (Nat.ble pc 15) (cond (Nat.beq pc 15) (some (2, 0, 0, [], 16)) none) (cond (Nat.ble pc 16) (cond (Nat.beq pc 16) (some (0, 0, 0, [], 17)) none) (cond (Nat.beq pc 17) (some (23, 16, 107, [8], 20)) none))))) (cond (Nat.ble pc 31) (cond (Nat.ble pc 24) (cond (Nat.ble pc 20) (cond (Nat.beq pc 20) (some (2, 0, 0, [], 21)) none) (cond (Nat.ble pc 21) (cond (Nat.beq pc 21) (some (21, 15, 101, [8], 24)) none) (cond (Nat.beq pc 24) (some (2, 0, 0, [], 25)) none))) (cond (Nat.ble pc 25) (cond (Nat.beq pc 25) (some (21, 5, 104, [8], 28)) none) (cond (Nat.ble pc 28) (cond (Nat.beq pc 28) (some (16, 3, 177, [], 31)) none) (cond (Nat.beq pc 31) (some (2, 0, 0, [], 32)) none)))) (cond (Nat.ble pc 36) (cond (Nat.ble pc 32) (cond (Nat.beq pc 32) (some (22, 4, 19, [8], 35)) none) (cond (Nat.ble pc 35) (cond (Nat.beq pc 35) (some (2, 0, 0, [], 36)) none) (cond (Nat.beq pc 36) (some (21, 15, 101, [8], 39)) none))) (cond (Nat.ble pc 40) (cond (Nat.ble pc 39) (cond (Nat.beq pc 39) (some (25, 0, 0, [], 40)) none) (cond (Nat.beq pc 40) (some (3, 0, 1, [], 41)) none)) (cond (Nat.ble pc 41) (cond (Nat.beq pc 41) (some (1, 0, 1, [], 42)) none) (cond (Nat.beq pc 42) (some (0, 97, 0, [], 44)) none)))))) (cond (Nat.ble pc 68) (cond (Nat.ble pc 56) (cond (Nat.ble pc 49) (cond (Nat.ble pc 44) (cond (Nat.beq pc 44) (some (0, 122, 0, [], 46)) none) (cond (Nat.ble pc 46) (cond (Nat.beq pc 46) (some (40, 51, 104, [], 49)) none) (cond (Nat.beq pc 49) (some (17, 0, 94, [], 52)) none))) (cond (Nat.ble pc 52) (cond (Nat.beq pc 52) (some (2, 0, 0, [], 53)) none) (cond (Nat.ble pc 53) (cond (Nat.beq pc 53) (some (21, 16, 107, [8], 56)) none) (cond (Nat.beq pc 56) (some (0, 1, 0, [], 57)) none)))) (cond (Nat.ble pc 61) (cond (Nat.ble pc 57) (cond (Nat.beq pc 57) (some (16, 0, 68, [], 60)) none) (cond (Nat.ble pc 60) (cond (Nat.beq pc 60) (some (2, 0, 0, [], 61)) none) (cond (Nat.beq pc 61) (some (21, 16, 107, [8], 64)) none))) (cond (Nat.ble pc 64) (cond (Nat.beq pc 64) (some (0, 2, 0, [], 65)) none) (cond (Nat.ble pc 65) (cond (Nat.beq pc 65) (some (16, 1, 94, [], 68)) none) (cond (Nat.beq pc 68) (some (2, 0, 0, [], 69)) none))))) (cond (Nat.ble pc 78) (cond (Nat.ble pc 73) (cond (Nat.ble pc 69) (cond (Nat.beq pc 69) (some (1, 0, 1, [], 70)) none) (cond (Nat.ble pc 70) (cond (Nat.beq pc 70) (some (40, 110, 127, [], 73)) none) (cond (Nat.beq pc 73) (some (17, 1, 94, [], 76)) none))) (cond (Nat.ble pc 76) (cond (Nat.beq pc 76) (some (2, 0, 0, [], 77)) none) (cond (Nat.ble pc 77) (cond (Nat.beq pc 77) (some (1, 0, 1, [], 78)) none) (cond (Nat.beq pc 78) (some (40, 114, 131, [], 81)) none)))) (cond (Nat.ble pc 83) (cond (Nat.ble pc 81) (cond (Nat.beq pc 81) (some (2, 0, 0, [], 82)) none) (cond (Nat.ble pc 82) (cond (Nat.beq pc 82) (some (12, 0, 0, [], 83)) none) (cond (Nat.beq pc 83) (some (21, 15, 101, [8], 86)) none))) (cond (Nat.ble pc 87) (cond (Nat.ble pc 86) (cond (Nat.beq pc 86) (some (0, 1, 0, [], 87)) none) (cond (Nat.beq pc 87) (some (6, 0, 0, [], 88)) none)) (cond (Nat.ble pc 88) (cond (Nat.beq pc 88) (some (23, 15, 101, [8], 91)) none) (cond (Nat.beq pc 91) (some (15, 0, 174, [], 94)) none))))))) (cond (Nat.ble pc 143) (cond (Nat.ble pc 117) (cond (Nat.ble pc 105) (cond (Nat.ble pc 97) (cond (Nat.ble pc 94) (cond (Nat.beq pc 94) (some (1, 0, 1, [], 95)) none) (cond (Nat.ble pc 95) (cond (Nat.beq pc 95) (some (0, 48, 0, [], 97)) none) (cond (Nat.beq pc 97) (some (0, 57, 0, [], 99)) none))) (cond (Nat.ble pc 99) (cond (Nat.beq pc 99) (some (40, 51, 104, [], 102)) none) (cond (Nat.ble pc 102) (cond (Nat.beq pc 102) (some (17, 0, 142, [], 105)) none) (cond (Nat.beq pc 105) (some (2, 0, 0, [], 106)) none)))) (cond (Nat.ble pc 110) (cond (Nat.ble pc 106) (cond (Nat.beq pc 106) (some (21, 16, 107, [8], 109)) none) (cond (Nat.ble pc 109) (cond (Nat.beq pc 109) (some (0, 4, 0, [], 110)) none) (cond (Nat.beq pc 110) (some (16, 1, 142, [], 113)) none))) (cond (Nat.ble pc 113) (cond (Nat.beq pc 113) (some (2, 0, 0, [], 114)) none) (cond (Nat.ble pc 114) (cond (Nat.beq pc 114) (some (40, 117, 129, [], 117)) none) (cond (Nat.beq pc 117) (some (0, 10, 0, [], 119)) none))))) (cond (Nat.ble pc 130) (cond (Nat.ble pc 123) (cond (Nat.ble pc 119) (cond (Nat.beq pc 119) (some (16, 3, 142, [], 122)) none) (cond (Nat.ble pc 122) (cond (Nat.beq pc 122) (some (2, 0, 0, [], 123)) none) (cond (Nat.beq pc 123) (some (40, 121, 128, [], 126)) none))) (cond (Nat.ble pc 126) (cond (Nat.beq pc 126) (some (17, 1, 134, [], 129)) none) (cond (Nat.ble pc 129) (cond (Nat.beq pc 129) (some (2, 0, 0, [], 130)) none) (cond (Nat.beq pc 130) (some (21, 15, 101, [8], 133)) none)))) (cond (Nat.ble pc 135) (cond (Nat.ble pc 133) (cond (Nat.beq pc 133) (some (41, 0, 0, [], 134)) none) (cond (Nat.ble pc 134) (cond (Nat.beq pc 134) (some (2, 0, 0, [], 135)) none) (cond (Nat.beq pc 135) (some (0, 5, 0, [], 136)) none))) (cond (Nat.ble pc 139) (cond (Nat.ble pc 136) (cond (Nat.beq pc 136) (some (23, 16, 107, [8], 139)) none) (cond (Nat.beq pc 139) (some (15, 0, 174, [], 142)) none)) (cond (Nat.ble pc 142) (cond (Nat.beq pc 142) (some (1, 0, 1, [], 143)) none) (cond (Nat.beq pc 143) (some (0, 32, 0, [], 145)) none)))))) (cond (Nat.ble pc 166) (cond (Nat.ble pc 156) (cond (Nat.ble pc 149) (cond (Nat.ble pc 145) (cond (Nat.beq pc 145) (some (16, 0, 156, [], 148)) none) (cond (Nat.ble pc 148) (cond (Nat.beq pc 148) (some (2, 0, 0, [], 149)) none) (cond (Nat.beq pc 149) (some (1, 0, 1, [], 150)) none))) (cond (Nat.ble pc 150) (cond (Nat.beq pc 150) (some (40, 125, 130, [], 153)) none) (cond (Nat.ble pc 153) (cond (Nat.beq pc 153) (some (17, 0, 169, [], 156)) none) (cond (Nat.beq pc 156) (some (2, 0, 0, [], 157)) none)))) (cond (Nat.ble pc 161) (cond (Nat.ble pc 157) (cond (Nat.beq pc 157) (some (12, 0, 0, [], 158)) none) (cond (Nat.ble pc 158) (cond (Nat.beq pc 158) (some (21, 15, 101, [8], 161)) none) (cond (Nat.beq pc 161) (some (0, 1, 0, [], 162)) none))) (cond (Nat.ble pc 162) (cond (Nat.beq pc 162) (some (6, 0, 0, [], 163)) none) (cond (Nat.ble pc 163) (cond (Nat.beq pc 163) (some (23, 15, 101, [8], 166)) none) (cond (Nat.beq pc 166) (some (15, 0, 174, [], 169)) none))))) (cond (Nat.ble pc 178) (cond (Nat.ble pc 173) (cond (Nat.ble pc 169) (cond (Nat.beq pc 169) (some (2, 0, 0, [], 170)) none) (cond (Nat.ble pc 170) (cond (Nat.beq pc 170) (some (21, 15, 101, [8], 173)) none) (cond (Nat.beq pc 173) (some (41, 0, 0, [], 174)) none))) (cond (Nat.ble pc 174) (cond (Nat.beq pc 174) (some (15, 0, 20, [], 177)) none) (cond (Nat.ble pc 177) (cond (Nat.beq pc 177) (some (2, 0, 0, [], 178)) none) (cond (Nat.beq pc 178) (some (21, 16, 107, [8], 181)) none)))) (cond (Nat.ble pc 186) (cond (Nat.ble pc 181) (cond (Nat.beq pc 181) (some (0, 6, 0, [], 183)) none) (cond (Nat.ble pc 183) (cond (Nat.beq pc 183) (some (16, 1, 191, [], 186)) none) (cond (Nat.beq pc 186) (some (0, (-9), 0, [], 188)) none))) (cond (Nat.ble pc 191) (cond (Nat.ble pc 188) (cond (Nat.beq pc 188) (some (15, 0, 195, [], 191)) none) (cond (Nat.beq pc 191) (some (2, 0, 0, [], 192)) none)) (cond (Nat.ble pc 192) (cond (Nat.beq pc 192) (some (21, 5, 104, [8], 195)) none) (cond (Nat.beq pc 195) (some (41, 0, 0, [], 196)) none)))))))) none
def qc133 (pc : Nat) : Option qX := cond (Nat.ble pc 40) (cond (Nat.ble pc 17) (cond (Nat.ble pc 7) (cond (Nat.ble pc 2) (cond (Nat.ble pc 0) (cond (Nat.beq pc 0) (some (0, 0, 0, [], 1)) none) (cond (Nat.ble pc 1) (cond (Nat.beq pc 1) (some (3, 0, 3, [], 2)) none) (cond (Nat.beq pc 2) (some (1, 0, 3, [], 3)) none))) (cond (Nat.ble pc 3) (cond (Nat.beq pc 3) (some (2, 0, 0, [], 4)) none) (cond (Nat.ble pc 4) (cond (Nat.beq pc 4) (some (22, 0, 7, [8], 7)) none) (cond (Nat.beq pc 7) (some (0, 1, 0, [], 8)) none)))) (cond (Nat.ble pc 12) (cond (Nat.ble pc 8) (cond (Nat.beq pc 8) (some (25, 0, 0, [], 9)) none) (cond (Nat.ble pc 9) (cond (Nat.beq pc 9) (some (16, 3, 38, [], 12)) none) (cond (Nat.beq pc 12) (some (2, 0, 0, [], 13)) none))) (cond (Nat.ble pc 13) (cond (Nat.beq pc 13) (some (1, 0, 3, [], 14)) none) (cond (Nat.ble pc 14) (cond (Nat.beq pc 14) (some (40, 86, 112, [], 17)) none) (cond (Nat.beq pc 17) (some (1, 0, 1, [], 18)) none))))) (cond (Nat.ble pc 27) (cond (Nat.ble pc 22) (cond (Nat.ble pc 18) (cond (Nat.beq pc 18) (some (16, 1, 32, [], 21)) none) (cond (Nat.ble pc 21) (cond (Nat.beq pc 21) (some (2, 0, 0, [], 22)) none) (cond (Nat.beq pc 22) (some (1, 0, 3, [], 23)) none))) (cond (Nat.ble pc 23) (cond (Nat.beq pc 23) (some (40, 83, 113, [], 26)) none) (cond (Nat.ble pc 26) (cond (Nat.beq pc 26) (some (1, 0, 2, [], 27)) none) (cond (Nat.beq pc 27) (some (16, 1, 32, [], 30)) none)))) (cond (Nat.ble pc 32) (cond (Nat.ble pc 30) (cond (Nat.beq pc 30) (some (1, 0, 3, [], 31)) none) (cond (Nat.ble pc 31) (cond (Nat.beq pc 31) (some (41, 0, 0, [], 32)) none) (cond (Nat.beq pc 32) (some (5, 1, 3, [], 35)) none))) (cond (Nat.ble pc 35) (cond (Nat.beq pc 35) (some (15, 0, 2, [], 38)) none) (cond (Nat.ble pc 38) (cond (Nat.beq pc 38) (some (0, (-9), 0, [], 40)) none) (cond (Nat.beq pc 40) (some (41, 0, 0, [], 41)) none)))))) none
def qc134 (pc : Nat) : Option qX := cond (Nat.ble pc 158) (cond (Nat.ble pc 85) (cond (Nat.ble pc 44) (cond (Nat.ble pc 19) (cond (Nat.ble pc 9) (cond (Nat.ble pc 2) (cond (Nat.ble pc 0) (cond (Nat.beq pc 0) (some (2, 0, 0, [], 1)) none) (cond (Nat.ble pc 1) (cond (Nat.beq pc 1) (some (2, 0, 0, [], 2)) none) (cond (Nat.beq pc 2) (some (21, 12, 95, [8], 5)) none))) (cond (Nat.ble pc 5) (cond (Nat.beq pc 5) (some (23, 18, 128, [8], 8)) none) (cond (Nat.ble pc 8) (cond (Nat.beq pc 8) (some (0, 0, 0, [], 9)) none) (cond (Nat.beq pc 9) (some (3, 0, 1, [], 10)) none)))) (cond (Nat.ble pc 12) (cond (Nat.ble pc 10) (cond (Nat.beq pc 10) (some (1, 0, 1, [], 11)) none) (cond (Nat.ble pc 11) (cond (Nat.beq pc 11) (some (2, 0, 0, [], 12)) none) (cond (Nat.beq pc 12) (some (21, 12, 95, [8], 15)) none))) (cond (Nat.ble pc 15) (cond (Nat.beq pc 15) (some (16, 3, 157, [], 18)) none) (cond (Nat.ble pc 18) (cond (Nat.beq pc 18) (some (2, 0, 0, [], 19)) none) (cond (Nat.beq pc 19) (some (22, 10, 31, [8], 22)) none))))) (cond (Nat.ble pc 31) (cond (Nat.ble pc 24) (cond (Nat.ble pc 22) (cond (Nat.beq pc 22) (some (1, 0, 1, [], 23)) none) (cond (Nat.ble pc 23) (cond (Nat.beq pc 23) (some (25, 0, 0, [], 24)) none) (cond (Nat.beq pc 24) (some (0, (-9), 0, [], 26)) none))) (cond (Nat.ble pc 26) (cond (Nat.beq pc 26) (some (16, 1, 34, [], 29)) none) (cond (Nat.ble pc 29) (cond (Nat.beq pc 29) (some (0, (-9), 0, [], 31)) none) (cond (Nat.beq pc 31) (some (15, 0, 48, [], 34)) none)))) (cond (Nat.ble pc 38) (cond (Nat.ble pc 34) (cond (Nat.beq pc 34) (some (2, 0, 0, [], 35)) none) (cond (Nat.ble pc 35) (cond (Nat.beq pc 35) (some (22, 17, 40, [8], 38)) none) (cond (Nat.beq pc 38) (some (2, 0, 0, [], 39)) none))) (cond (Nat.ble pc 42) (cond (Nat.ble pc 39) (cond (Nat.beq pc 39) (some (22, 10, 31, [8], 42)) none) (cond (Nat.beq pc 42) (some (1, 0, 1, [], 43)) none)) (cond (Nat.ble pc 43) (cond (Nat.beq pc 43) (some (25, 0, 0, [], 44)) none) (cond (Nat.beq pc 44) (some (25, 0, 0, [], 45)) none)))))) (cond (Nat.ble pc 62) (cond (Nat.ble pc 51) (cond (Nat.ble pc 48) (cond (Nat.ble pc 45) (cond (Nat.beq pc 45) (some (0, 100, 0, [], 47)) none) (cond (Nat.ble pc 47) (cond (Nat.beq pc 47) (some (10, 0, 0, [], 48)) none) (cond (Nat.beq pc 48) (some (3, 0, 2, [], 49)) none))) (cond (Nat.ble pc 49) (cond (Nat.beq pc 49) (some (2, 0, 0, [], 50)) none) (cond (Nat.ble pc 50) (cond (Nat.beq pc 50) (some (2, 0, 0, [], 51)) none) (cond (Nat.beq pc 51) (some (22, 9, 28, [8], 54)) none)))) (cond (Nat.ble pc 56) (cond (Nat.ble pc 54) (cond (Nat.beq pc 54) (some (1, 0, 1, [], 55)) none) (cond (Nat.ble pc 55) (cond (Nat.beq pc 55) (some (25, 0, 0, [], 56)) none) (cond (Nat.beq pc 56) (some (1, 0, 2, [], 57)) none))) (cond (Nat.ble pc 60) (cond (Nat.ble pc 57) (cond (Nat.beq pc 57) (some (40, 131, 133, [], 60)) none) (cond (Nat.beq pc 60) (some (3, 0, 3, [], 61)) none)) (cond (Nat.ble pc 61) (cond (Nat.beq pc 61) (some (1, 0, 3, [], 62)) none) (cond (Nat.beq pc 62) (some (0, (-9), 0, [], 64)) none))))) (cond (Nat.ble pc 73) (cond (Nat.ble pc 68) (cond (Nat.ble pc 64) (cond (Nat.beq pc 64) (some (16, 1, 126, [], 67)) none) (cond (Nat.ble pc 67) (cond (Nat.beq pc 67) (some (2, 0, 0, [], 68)) none) (cond (Nat.beq pc 68) (some (22, 0, 7, [8], 71)) none))) (cond (Nat.ble pc 71) (cond (Nat.beq pc 71) (some (0, 1, 0, [], 72)) none) (cond (Nat.ble pc 72) (cond (Nat.beq pc 72) (some (25, 0, 0, [], 73)) none) (cond (Nat.beq pc 73) (some (0, 60, 0, [], 75)) none)))) (cond (Nat.ble pc 79) (cond (Nat.ble pc 75) (cond (Nat.beq pc 75) (some (16, 1, 80, [], 78)) none) (cond (Nat.ble pc 78) (cond (Nat.beq pc 78) (some (0, 0, 0, [], 79)) none) (cond (Nat.beq pc 79) (some (42, 0, 0, [], 80)) none))) (cond (Nat.ble pc 81) (cond (Nat.ble pc 80) (cond (Nat.beq pc 80) (some (2, 0, 0, [], 81)) none) (cond (Nat.beq pc 81) (some (22, 0, 7, [8], 84)) none)) (cond (Nat.ble pc 84) (cond (Nat.beq pc 84) (some (0, 1, 0, [], 85)) none) (cond (Nat.beq pc 85) (some (25, 0, 0, [], 86)) none))))))) (cond (Nat.ble pc 116) (cond (Nat.ble pc 101) (cond (Nat.ble pc 93) (cond (Nat.ble pc 88) (cond (Nat.ble pc 86) (cond (Nat.beq pc 86) (some (3, 0, 3, [], 87)) none) (cond (Nat.ble pc 87) (cond (Nat.beq pc 87) (some (2, 0, 0, [], 88)) none) (cond (Nat.beq pc 88) (some (22, 0, 7, [8], 91)) none))) (cond (Nat.ble pc 91) (cond (Nat.beq pc 91) (some (0, 4, 0, [], 92)) none) (cond (Nat.ble pc 92) (cond (Nat.beq pc 92) (some (0, 2, 0, [], 93)) none) (cond (Nat.beq pc 93) (some (1, 0, 3, [], 94)) none)))) (cond (Nat.ble pc 96) (cond (Nat.ble pc 94) (cond (Nat.beq pc 94) (some (8, 0, 0, [], 95)) none) (cond (Nat.ble pc 95) (cond (Nat.beq pc 95) (some (6, 0, 0, [], 96)) none) (cond (Nat.beq pc 96) (some (2, 0, 0, [], 97)) none))) (cond (Nat.ble pc 97) (cond (Nat.beq pc 97) (some (22, 9, 28, [8], 100)) none) (cond (Nat.ble pc 100) (cond (Nat.beq pc 100) (some (1, 0, 1, [], 101)) none) (cond (Nat.beq pc 101) (some (25, 0, 0, [], 102)) none))))) (cond (Nat.ble pc 109) (cond (Nat.ble pc 104) (cond (Nat.ble pc 102) (cond (Nat.beq pc 102) (some (26, 0, 0, [], 103)) none) (cond (Nat.ble pc 103) (cond (Nat.beq pc 103) (some (2, 0, 0, [], 104)) none) (cond (Nat.beq pc 104) (some (22, 0, 7, [8], 107)) none))) (cond (Nat.ble pc 107) (cond (Nat.beq pc 107) (some (0, 4, 0, [], 108)) none) (cond (Nat.ble pc 108) (cond (Nat.beq pc 108) (some (0, 2, 0, [], 109)) none) (cond (Nat.beq pc 109) (some (1, 0, 3, [], 110)) none)))) (cond (Nat.ble pc 112) (cond (Nat.ble pc 110) (cond (Nat.beq pc 110) (some (8, 0, 0, [], 111)) none) (cond (Nat.ble pc 111) (cond (Nat.beq pc 111) (some (6, 0, 0, [], 112)) none) (cond (Nat.beq pc 112) (some (0, 1, 0, [], 113)) none))) (cond (Nat.ble pc 114) (cond (Nat.ble pc 113) (cond (Nat.beq pc 113) (some (6, 0, 0, [], 114)) none) (cond (Nat.beq pc 114) (some (1, 0, 2, [], 115)) none)) (cond (Nat.ble pc 115) (cond (Nat.beq pc 115) (some (26, 0, 0, [], 116)) none) (cond (Nat.beq pc 116) (some (2, 0, 0, [], 117)) none)))))) (cond (Nat.ble pc 135) (cond (Nat.ble pc 124) (cond (Nat.ble pc 121) (cond (Nat.ble pc 117) (cond (Nat.beq pc 117) (some (22, 0, 7, [8], 120)) none) (cond (Nat.ble pc 120) (cond (Nat.beq pc 120) (some (0, 1, 0, [], 121)) none) (cond (Nat.beq pc 121) (some (13, 0, 0, [], 122)) none))) (cond (Nat.ble pc 122) (cond (Nat.beq pc 122) (some (25, 0, 0, [], 123)) none) (cond (Nat.ble pc 123) (cond (Nat.beq pc 123) (some (0, 1, 0, [], 124)) none) (cond (Nat.beq pc 124) (some (6, 0, 0, [], 125)) none)))) (cond (Nat.ble pc 127) (cond (Nat.ble pc 125) (cond (Nat.beq pc 125) (some (26, 0, 0, [], 126)) none) (cond (Nat.ble pc 126) (cond (Nat.beq pc 126) (some (2, 0, 0, [], 127)) none) (cond (Nat.beq pc 127) (some (22, 17, 40, [8], 130)) none))) (cond (Nat.ble pc 131) (cond (Nat.ble pc 130) (cond (Nat.beq pc 130) (some (1, 0, 1, [], 131)) none) (cond (Nat.beq pc 131) (some (2, 0, 0, [], 132)) none)) (cond (Nat.ble pc 132) (cond (Nat.beq pc 132) (some (22, 11, 34, [8], 135)) none) (cond (Nat.beq pc 135) (some (1, 0, 1, [], 136)) none))))) (cond (Nat.ble pc 145) (cond (Nat.ble pc 139) (cond (Nat.ble pc 136) (cond (Nat.beq pc 136) (some (25, 0, 0, [], 137)) none) (cond (Nat.ble pc 137) (cond (Nat.beq pc 137) (some (0, (-9), 0, [], 139)) none) (cond (Nat.beq pc 139) (some (16, 1, 149, [], 142)) none))) (cond (Nat.ble pc 142) (cond (Nat.beq pc 142) (some (0, 100, 0, [], 144)) none) (cond (Nat.ble pc 144) (cond (Nat.beq pc 144) (some (1, 0, 3, [], 145)) none) (cond (Nat.beq pc 145) (some (6, 0, 0, [], 146)) none)))) (cond (Nat.ble pc 150) (cond (Nat.ble pc 146) (cond (Nat.beq pc 146) (some (15, 0, 150, [], 149)) none) (cond (Nat.ble pc 149) (cond (Nat.beq pc 149) (some (1, 0, 3, [], 150)) none) (cond (Nat.beq pc 150) (some (26, 0, 0, [], 151)) none))) (cond (Nat.ble pc 154) (cond (Nat.ble pc 151) (cond (Nat.beq pc 151) (some (5, 1, 1, [], 154)) none) (cond (Nat.beq pc 154) (some (15, 0, 10, [], 157)) none)) (cond (Nat.ble pc 157) (cond (Nat.beq pc 157) (some (0, 1, 0, [], 158)) none) (cond (Nat.beq pc 158) (some (42, 0, 0, [], 159)) none)))))))) none
def qc135 (pc : Nat) : Option qX := cond (Nat.ble pc 60) (cond (Nat.ble pc 28) (cond (Nat.ble pc 13) (cond (Nat.ble pc 5) (cond (Nat.ble pc 1) (cond (Nat.ble pc 0) (cond (Nat.beq pc 0) (some (2, 0, 0, [], 1)) none) (cond (Nat.beq pc 1) (some (1, 0, 1, [], 2)) none)) (cond (Nat.ble pc 2) (cond (Nat.beq pc 2) (some (40, 59, 114, [], 5)) none) (cond (Nat.beq pc 5) (some (2, 0, 0, [], 6)) none))) (cond (Nat.ble pc 9) (cond (Nat.ble pc 6) (cond (Nat.beq pc 6) (some (21, 18, 128, [8], 9)) none) (cond (Nat.beq pc 9) (some (16, 1, 16, [], 12)) none)) (cond (Nat.ble pc 12) (cond (Nat.beq pc 12) (some (0, 1, 0, [], 13)) none) (cond (Nat.beq pc 13) (some (15, 0, 17, [], 16)) none)))) (cond (Nat.ble pc 19) (cond (Nat.ble pc 17) (cond (Nat.ble pc 16) (cond (Nat.beq pc 16) (some (0, 0, 0, [], 17)) none) (cond (Nat.beq pc 17) (some (3, 0, 2, [], 18)) none)) (cond (Nat.ble pc 18) (cond (Nat.beq pc 18) (some (0, 0, 0, [], 19)) none) (cond (Nat.beq pc 19) (some (3, 0, 3, [], 20)) none))) (cond (Nat.ble pc 21) (cond (Nat.ble pc 20) (cond (Nat.beq pc 20) (some (1, 0, 3, [], 21)) none) (cond (Nat.beq pc 21) (some (2, 0, 0, [], 22)) none)) (cond (Nat.ble pc 22) (cond (Nat.beq pc 22) (some (21, 18, 128, [8], 25)) none) (cond (Nat.ble pc 25) (cond (Nat.beq pc 25) (some (16, 3, 59, [], 28)) none) (cond (Nat.beq pc 28) (some (1, 0, 2, [], 29)) none)))))) (cond (Nat.ble pc 43) (cond (Nat.ble pc 34) (cond (Nat.ble pc 32) (cond (Nat.ble pc 29) (cond (Nat.beq pc 29) (some (17, 0, 59, [], 32)) none) (cond (Nat.beq pc 32) (some (2, 0, 0, [], 33)) none)) (cond (Nat.ble pc 33) (cond (Nat.beq pc 33) (some (1, 0, 1, [], 34)) none) (cond (Nat.beq pc 34) (some (1, 0, 3, [], 35)) none))) (cond (Nat.ble pc 38) (cond (Nat.ble pc 35) (cond (Nat.beq pc 35) (some (40, 62, 115, [], 38)) none) (cond (Nat.beq pc 38) (some (2, 0, 0, [], 39)) none)) (cond (Nat.ble pc 39) (cond (Nat.beq pc 39) (some (22, 17, 40, [8], 42)) none) (cond (Nat.ble pc 42) (cond (Nat.beq pc 42) (some (1, 0, 3, [], 43)) none) (cond (Nat.beq pc 43) (some (25, 0, 0, [], 44)) none))))) (cond (Nat.ble pc 51) (cond (Nat.ble pc 47) (cond (Nat.ble pc 44) (cond (Nat.beq pc 44) (some (16, 1, 51, [], 47)) none) (cond (Nat.beq pc 47) (some (0, 1, 0, [], 48)) none)) (cond (Nat.ble pc 48) (cond (Nat.beq pc 48) (some (15, 0, 52, [], 51)) none) (cond (Nat.beq pc 51) (some (0, 0, 0, [], 52)) none))) (cond (Nat.ble pc 53) (cond (Nat.ble pc 52) (cond (Nat.beq pc 52) (some (3, 0, 2, [], 53)) none) (cond (Nat.beq pc 53) (some (5, 1, 3, [], 56)) none)) (cond (Nat.ble pc 56) (cond (Nat.beq pc 56) (some (15, 0, 20, [], 59)) none) (cond (Nat.ble pc 59) (cond (Nat.beq pc 59) (some (1, 0, 2, [], 60)) none) (cond (Nat.beq pc 60) (some (42, 0, 0, [], 61)) none))))))) none
def qc136 (pc : Nat) : Option qX := cond (Nat.ble pc 114) (cond (Nat.ble pc 59) (cond (Nat.ble pc 29) (cond (Nat.ble pc 12) (cond (Nat.ble pc 3) (cond (Nat.ble pc 1) (cond (Nat.ble pc 0) (cond (Nat.beq pc 0) (some (0, 0, 0, [], 1)) none) (cond (Nat.beq pc 1) (some (3, 0, 1, [], 2)) none)) (cond (Nat.ble pc 2) (cond (Nat.beq pc 2) (some (1, 0, 1, [], 3)) none) (cond (Nat.beq pc 3) (some (2, 0, 0, [], 4)) none))) (cond (Nat.ble pc 7) (cond (Nat.ble pc 4) (cond (Nat.beq pc 4) (some (22, 0, 7, [8], 7)) none) (cond (Nat.beq pc 7) (some (0, 2, 0, [], 8)) none)) (cond (Nat.ble pc 8) (cond (Nat.beq pc 8) (some (25, 0, 0, [], 9)) none) (cond (Nat.ble pc 9) (cond (Nat.beq pc 9) (some (16, 3, 28, [], 12)) none) (cond (Nat.beq pc 12) (some (2, 0, 0, [], 13)) none))))) (cond (Nat.ble pc 20) (cond (Nat.ble pc 14) (cond (Nat.ble pc 13) (cond (Nat.beq pc 13) (some (1, 0, 1, [], 14)) none) (cond (Nat.beq pc 14) (some (40, 134, 135, [], 17)) none)) (cond (Nat.ble pc 17) (cond (Nat.beq pc 17) (some (17, 0, 22, [], 20)) none) (cond (Nat.beq pc 20) (some (1, 0, 1, [], 21)) none))) (cond (Nat.ble pc 22) (cond (Nat.ble pc 21) (cond (Nat.beq pc 21) (some (41, 0, 0, [], 22)) none) (cond (Nat.beq pc 22) (some (5, 1, 1, [], 25)) none)) (cond (Nat.ble pc 25) (cond (Nat.beq pc 25) (some (15, 0, 2, [], 28)) none) (cond (Nat.ble pc 28) (cond (Nat.beq pc 28) (some (2, 0, 0, [], 29)) none) (cond (Nat.beq pc 29) (some (22, 0, 7, [8], 32)) none)))))) (cond (Nat.ble pc 46) (cond (Nat.ble pc 36) (cond (Nat.ble pc 33) (cond (Nat.ble pc 32) (cond (Nat.beq pc 32) (some (0, 2, 0, [], 33)) none) (cond (Nat.beq pc 33) (some (25, 0, 0, [], 34)) none)) (cond (Nat.ble pc 34) (cond (Nat.beq pc 34) (some (0, 40, 0, [], 36)) none) (cond (Nat.beq pc 36) (some (16, 1, 42, [], 39)) none))) (cond (Nat.ble pc 41) (cond (Nat.ble pc 39) (cond (Nat.beq pc 39) (some (0, (-9), 0, [], 41)) none) (cond (Nat.beq pc 41) (some (41, 0, 0, [], 42)) none)) (cond (Nat.ble pc 42) (cond (Nat.beq pc 42) (some (2, 0, 0, [], 43)) none) (cond (Nat.ble pc 43) (cond (Nat.beq pc 43) (some (22, 0, 7, [8], 46)) none) (cond (Nat.beq pc 46) (some (0, 2, 0, [], 47)) none))))) (cond (Nat.ble pc 50) (cond (Nat.ble pc 48) (cond (Nat.ble pc 47) (cond (Nat.beq pc 47) (some (25, 0, 0, [], 48)) none) (cond (Nat.beq pc 48) (some (3, 0, 1, [], 49)) none)) (cond (Nat.ble pc 49) (cond (Nat.beq pc 49) (some (2, 0, 0, [], 50)) none) (cond (Nat.beq pc 50) (some (22, 0, 7, [8], 53)) none))) (cond (Nat.ble pc 55) (cond (Nat.ble pc 53) (cond (Nat.beq pc 53) (some (0, 124, 0, [], 55)) none) (cond (Nat.beq pc 55) (some (0, 21, 0, [], 57)) none)) (cond (Nat.ble pc 57) (cond (Nat.beq pc 57) (some (1, 0, 1, [], 58)) none) (cond (Nat.ble pc 58) (cond (Nat.beq pc 58) (some (8, 0, 0, [], 59)) none) (cond (Nat.beq pc 59) (some (6, 0, 0, [], 60)) none))))))) (cond (Nat.ble pc 87) (cond (Nat.ble pc 72) (cond (Nat.ble pc 65) (cond (Nat.ble pc 61) (cond (Nat.ble pc 60) (cond (Nat.beq pc 60) (some (2, 0, 0, [], 61)) none) (cond (Nat.beq pc 61) (some (21, 18, 128, [8], 64)) none)) (cond (Nat.ble pc 64) (cond (Nat.beq pc 64) (some (26, 0, 0, [], 65)) none) (cond (Nat.beq pc 65) (some (0, 0, 0, [], 66)) none))) (cond (Nat.ble pc 67) (cond (Nat.ble pc 66) (cond (Nat.beq pc 66) (some (3, 0, 2, [], 67)) none) (cond (Nat.beq pc 67) (some (1, 0, 2, [], 68)) none)) (cond (Nat.ble pc 68) (cond (Nat.beq pc 68) (some (2, 0, 0, [], 69)) none) (cond (Nat.ble pc 69) (cond (Nat.beq pc 69) (some (21, 18, 128, [8], 72)) none) (cond (Nat.beq pc 72) (some (16, 3, 103, [], 75)) none))))) (cond (Nat.ble pc 81) (cond (Nat.ble pc 76) (cond (Nat.ble pc 75) (cond (Nat.beq pc 75) (some (2, 0, 0, [], 76)) none) (cond (Nat.beq pc 76) (some (22, 0, 7, [8], 79)) none)) (cond (Nat.ble pc 79) (cond (Nat.beq pc 79) (some (0, 124, 0, [], 81)) none) (cond (Nat.beq pc 81) (some (0, 21, 0, [], 83)) none))) (cond (Nat.ble pc 84) (cond (Nat.ble pc 83) (cond (Nat.beq pc 83) (some (1, 0, 1, [], 84)) none) (cond (Nat.beq pc 84) (some (8, 0, 0, [], 85)) none)) (cond (Nat.ble pc 85) (cond (Nat.beq pc 85) (some (6, 0, 0, [], 86)) none) (cond (Nat.ble pc 86) (cond (Nat.beq pc 86) (some (0, 1, 0, [], 87)) none) (cond (Nat.beq pc 87) (some (6, 0, 0, [], 88)) none)))))) (cond (Nat.ble pc 100) (cond (Nat.ble pc 91) (cond (Nat.ble pc 89) (cond (Nat.ble pc 88) (cond (Nat.beq pc 88) (some (1, 0, 2, [], 89)) none) (cond (Nat.beq pc 89) (some (6, 0, 0, [], 90)) none)) (cond (Nat.ble pc 90) (cond (Nat.beq pc 90) (some (2, 0, 0, [], 91)) none) (cond (Nat.beq pc 91) (some (22, 17, 40, [8], 94)) none))) (cond (Nat.ble pc 95) (cond (Nat.ble pc 94) (cond (Nat.beq pc 94) (some (1, 0, 2, [], 95)) none) (cond (Nat.beq pc 95) (some (25, 0, 0, [], 96)) none)) (cond (Nat.ble pc 96) (cond (Nat.beq pc 96) (some (26, 0, 0, [], 97)) none) (cond (Nat.ble pc 97) (cond (Nat.beq pc 97) (some (5, 1, 2, [], 100)) none) (cond (Nat.beq pc 100) (some (15, 0, 67, [], 103)) none))))) (cond (Nat.ble pc 109) (cond (Nat.ble pc 104) (cond (Nat.ble pc 103) (cond (Nat.beq pc 103) (some (2, 0, 0, [], 104)) none) (cond (Nat.beq pc 104) (some (22, 0, 7, [8], 107)) none)) (cond (Nat.ble pc 107) (cond (Nat.beq pc 107) (some (0, 2, 0, [], 108)) none) (cond (Nat.ble pc 108) (cond (Nat.beq pc 108) (some (13, 0, 0, [], 109)) none) (cond (Nat.beq pc 109) (some (25, 0, 0, [], 110)) none)))) (cond (Nat.ble pc 111) (cond (Nat.ble pc 110) (cond (Nat.beq pc 110) (some (0, 1, 0, [], 111)) none) (cond (Nat.beq pc 111) (some (6, 0, 0, [], 112)) none)) (cond (Nat.ble pc 112) (cond (Nat.beq pc 112) (some (26, 0, 0, [], 113)) none) (cond (Nat.ble pc 113) (cond (Nat.beq pc 113) (some (1, 0, 1, [], 114)) none) (cond (Nat.beq pc 114) (some (41, 0, 0, [], 115)) none)))))))) none
def qc137 (pc : Nat) : Option qX := cond (Nat.ble pc 49) (cond (Nat.ble pc 25) (cond (Nat.ble pc 12) (cond (Nat.ble pc 2) (cond (Nat.ble pc 0) (cond (Nat.beq pc 0) (some (1, 0, 1, [], 1)) none) (cond (Nat.ble pc 1) (cond (Nat.beq pc 1) (some (0, 1, 0, [], 2)) none) (cond (Nat.beq pc 2) (some (0, 255, 0, [], 5)) none))) (cond (Nat.ble pc 8) (cond (Nat.ble pc 5) (cond (Nat.beq pc 5) (some (40, 51, 104, [], 8)) none) (cond (Nat.beq pc 8) (some (17, 1, 13, [], 11)) none)) (cond (Nat.ble pc 11) (cond (Nat.beq pc 11) (some (0, (-1), 0, [], 12)) none) (cond (Nat.beq pc 12) (some (41, 0, 0, [], 13)) none)))) (cond (Nat.ble pc 17) (cond (Nat.ble pc 13) (cond (Nat.beq pc 13) (some (2, 0, 0, [], 14)) none) (cond (Nat.ble pc 14) (cond (Nat.beq pc 14) (some (21, 5, 104, [8], 17)) none) (cond (Nat.beq pc 17) (some (0, 80, 0, [], 19)) none))) (cond (Nat.ble pc 22) (cond (Nat.ble pc 19) (cond (Nat.beq pc 19) (some (16, 1, 25, [], 22)) none) (cond (Nat.beq pc 22) (some (0, (-3), 0, [], 24)) none)) (cond (Nat.ble pc 24) (cond (Nat.beq pc 24) (some (41, 0, 0, [], 25)) none) (cond (Nat.beq pc 25) (some (2, 0, 0, [], 26)) none))))) (cond (Nat.ble pc 36) (cond (Nat.ble pc 30) (cond (Nat.ble pc 26) (cond (Nat.beq pc 26) (some (22, 4, 19, [8], 29)) none) (cond (Nat.ble pc 29) (cond (Nat.beq pc 29) (some (2, 0, 0, [], 30)) none) (cond (Nat.beq pc 30) (some (21, 5, 104, [8], 33)) none))) (cond (Nat.ble pc 34) (cond (Nat.ble pc 33) (cond (Nat.beq pc 33) (some (1, 0, 1, [], 34)) none) (cond (Nat.beq pc 34) (some (26, 0, 0, [], 35)) none)) (cond (Nat.ble pc 35) (cond (Nat.beq pc 35) (some (2, 0, 0, [], 36)) none) (cond (Nat.beq pc 36) (some (12, 0, 0, [], 37)) none)))) (cond (Nat.ble pc 41) (cond (Nat.ble pc 37) (cond (Nat.beq pc 37) (some (21, 5, 104, [8], 40)) none) (cond (Nat.ble pc 40) (cond (Nat.beq pc 40) (some (0, 1, 0, [], 41)) none) (cond (Nat.beq pc 41) (some (6, 0, 0, [], 42)) none))) (cond (Nat.ble pc 45) (cond (Nat.ble pc 42) (cond (Nat.beq pc 42) (some (23, 5, 104, [8], 45)) none) (cond (Nat.beq pc 45) (some (2, 0, 0, [], 46)) none)) (cond (Nat.ble pc 46) (cond (Nat.beq pc 46) (some (21, 5, 104, [8], 49)) none) (cond (Nat.beq pc 49) (some (41, 0, 0, [], 50)) none)))))) none
def qc138 (pc : Nat) : Option qX := cond (Nat.ble pc 11) (cond (Nat.ble pc 5) (cond (Nat.ble pc 1) (cond (Nat.ble pc 0) (cond (Nat.beq pc 0) (some (2, 0, 0, [], 1)) none) (cond (Nat.beq pc 1) (some (21, 5, 104, [8], 4)) none)) (cond (Nat.ble pc 4) (cond (Nat.beq pc 4) (some (3, 0, 1, [], 5)) none) (cond (Nat.beq pc 5) (some (2, 0, 0, [], 6)) none))) (cond (Nat.ble pc 7) (cond (Nat.ble pc 6) (cond (Nat.beq pc 6) (some (0, 0, 0, [], 7)) none) (cond (Nat.beq pc 7) (some (23, 5, 104, [8], 10)) none)) (cond (Nat.ble pc 10) (cond (Nat.beq pc 10) (some (1, 0, 1, [], 11)) none) (cond (Nat.beq pc 11) (some (41, 0, 0, [], 12)) none)))) none
def qc139 (pc : Nat) : Option qX := cond (Nat.ble pc 186) (cond (Nat.ble pc 95) (cond (Nat.ble pc 45) (cond (Nat.ble pc 21) (cond (Nat.ble pc 8) (cond (Nat.ble pc 4) (cond (Nat.ble pc 0) (cond (Nat.beq pc 0) (some (2, 0, 0, [], 1)) none) (cond (Nat.ble pc 1) (cond (Nat.beq pc 1) (some (40, 137, 132, [], 4)) none) (cond (Nat.beq pc 4) (some (3, 0, 1, [], 5)) none))) (cond (Nat.ble pc 5) (cond (Nat.beq pc 5) (some (1, 0, 1, [], 6)) none) (cond (Nat.ble pc 6) (cond (Nat.beq pc 6) (some (0, (-9), 0, [], 8)) none) (cond (Nat.beq pc 8) (some (16, 0, 17, [], 11)) none)))) (cond (Nat.ble pc 15) (cond (Nat.ble pc 11) (cond (Nat.beq pc 11) (some (0, (-1000), 0, [], 14)) none) (cond (Nat.ble pc 14) (cond (Nat.beq pc 14) (some (1, 0, 1, [], 15)) none) (cond (Nat.beq pc 15) (some (7, 0, 0, [], 16)) none))) (cond (Nat.ble pc 17) (cond (Nat.ble pc 16) (cond (Nat.beq pc 16) (some (41, 0, 0, [], 17)) none) (cond (Nat.beq pc 17) (some (2, 0, 0, [], 18)) none)) (cond (Nat.ble pc 18) (cond (Nat.beq pc 18) (some (22, 0, 7, [8], 21)) none) (cond (Nat.beq pc 21) (some (0, 0, 0, [], 22)) none))))) (cond (Nat.ble pc 31) (cond (Nat.ble pc 26) (cond (Nat.ble pc 22) (cond (Nat.beq pc 22) (some (2, 0, 0, [], 23)) none) (cond (Nat.ble pc 23) (cond (Nat.beq pc 23) (some (22, 3, 16, [8], 26)) none) (cond (Nat.beq pc 26) (some (0, 0, 0, [], 27)) none))) (cond (Nat.ble pc 27) (cond (Nat.beq pc 27) (some (40, 47, 105, [], 30)) none) (cond (Nat.ble pc 30) (cond (Nat.beq pc 30) (some (2, 0, 0, [], 31)) none) (cond (Nat.beq pc 31) (some (22, 0, 7, [8], 34)) none)))) (cond (Nat.ble pc 36) (cond (Nat.ble pc 34) (cond (Nat.beq pc 34) (some (0, 0, 0, [], 35)) none) (cond (Nat.ble pc 35) (cond (Nat.beq pc 35) (some (25, 0, 0, [], 36)) none) (cond (Nat.beq pc 36) (some (0, 30, 0, [], 38)) none))) (cond (Nat.ble pc 41) (cond (Nat.ble pc 38) (cond (Nat.beq pc 38) (some (16, 3, 55, [], 41)) none) (cond (Nat.beq pc 41) (some (2, 0, 0, [], 42)) none)) (cond (Nat.ble pc 42) (cond (Nat.beq pc 42) (some (40, 140, 134, [], 45)) none) (cond (Nat.beq pc 45) (some (17, 0, 55, [], 48)) none)))))) (cond (Nat.ble pc 70) (cond (Nat.ble pc 58) (cond (Nat.ble pc 52) (cond (Nat.ble pc 48) (cond (Nat.beq pc 48) (some (2, 0, 0, [], 49)) none) (cond (Nat.ble pc 49) (cond (Nat.beq pc 49) (some (40, 143, 136, [], 52)) none) (cond (Nat.beq pc 52) (some (15, 0, 57, [], 55)) none))) (cond (Nat.ble pc 55) (cond (Nat.beq pc 55) (some (0, (-9), 0, [], 57)) none) (cond (Nat.ble pc 57) (cond (Nat.beq pc 57) (some (3, 0, 2, [], 58)) none) (cond (Nat.beq pc 58) (some (1, 0, 2, [], 59)) none)))) (cond (Nat.ble pc 64) (cond (Nat.ble pc 59) (cond (Nat.beq pc 59) (some (0, (-9), 0, [], 61)) none) (cond (Nat.ble pc 61) (cond (Nat.beq pc 61) (some (16, 1, 80, [], 64)) none) (cond (Nat.beq pc 64) (some (2, 0, 0, [], 65)) none))) (cond (Nat.ble pc 68) (cond (Nat.ble pc 65) (cond (Nat.beq pc 65) (some (22, 3, 16, [8], 68)) none) (cond (Nat.beq pc 68) (some (0, 0, 0, [], 69)) none)) (cond (Nat.ble pc 69) (cond (Nat.beq pc 69) (some (2, 0, 0, [], 70)) none) (cond (Nat.beq pc 70) (some (22, 0, 7, [8], 73)) none))))) (cond (Nat.ble pc 82) (cond (Nat.ble pc 77) (cond (Nat.ble pc 73) (cond (Nat.beq pc 73) (some (0, 0, 0, [], 74)) none) (cond (Nat.ble pc 74) (cond (Nat.beq pc 74) (some (40, 47, 105, [], 77)) none) (cond (Nat.beq pc 77) (some (0, (-3), 0, [], 79)) none))) (cond (Nat.ble pc 80) (cond (Nat.ble pc 79) (cond (Nat.beq pc 79) (some (41, 0, 0, [], 80)) none) (cond (Nat.beq pc 80) (some (2, 0, 0, [], 81)) none)) (cond (Nat.ble pc 81) (cond (Nat.beq pc 81) (some (2, 0, 0, [], 82)) none) (cond (Nat.beq pc 82) (some (22, 3, 16, [8], 85)) none)))) (cond (Nat.ble pc 89) (cond (Nat.ble pc 85) (cond (Nat.beq pc 85) (some (40, 146, 106, [], 88)) none) (cond (Nat.ble pc 88) (cond (Nat.beq pc 88) (some (2, 0, 0, [], 89)) none) (cond (Nat.beq pc 89) (some (22, 0, 7, [8], 92)) none))) (cond (Nat.ble pc 93) (cond (Nat.ble pc 92) (cond (Nat.beq pc 92) (some (0, 0, 0, [], 93)) none) (cond (Nat.beq pc 93) (some (25, 0, 0, [], 94)) none)) (cond (Nat.ble pc 94) (cond (Nat.beq pc 94) (some (3, 0, 3, [], 95)) none) (cond (Nat.beq pc 95) (some (2, 0, 0, [], 96)) none))))))) (cond (Nat.ble pc 145) (cond (Nat.ble pc 115) (cond (Nat.ble pc 106) (cond (Nat.ble pc 102) (cond (Nat.ble pc 96) (cond (Nat.beq pc 96) (some (22, 0, 7, [8], 99)) none) (cond (Nat.ble pc 99) (cond (Nat.beq pc 99) (some (0, 964, 0, [], 102)) none) (cond (Nat.beq pc 102) (some (0, 11, 0, [], 104)) none))) (cond (Nat.ble pc 104) (cond (Nat.beq pc 104) (some (1, 0, 3, [], 105)) none) (cond (Nat.ble pc 105) (cond (Nat.beq pc 105) (some (8, 0, 0, [], 106)) none) (cond (Nat.beq pc 106) (some (6, 0, 0, [], 107)) none)))) (cond (Nat.ble pc 109) (cond (Nat.ble pc 107) (cond (Nat.beq pc 107) (some (1, 0, 2, [], 108)) none) (cond (Nat.ble pc 108) (cond (Nat.beq pc 108) (some (26, 0, 0, [], 109)) none) (cond (Nat.beq pc 109) (some (0, 0, 0, [], 110)) none))) (cond (Nat.ble pc 112) (cond (Nat.ble pc 110) (cond (Nat.beq pc 110) (some (3, 0, 4, [], 112)) none) (cond (Nat.beq pc 112) (some (0, 0, 0, [], 113)) none)) (cond (Nat.ble pc 113) (cond (Nat.beq pc 113) (some (3, 0, 5, [], 115)) none) (cond (Nat.beq pc 115) (some (1, 0, 5, [], 117)) none))))) (cond (Nat.ble pc 130) (cond (Nat.ble pc 121) (cond (Nat.ble pc 117) (cond (Nat.beq pc 117) (some (2, 0, 0, [], 118)) none) (cond (Nat.ble pc 118) (cond (Nat.beq pc 118) (some (21, 12, 95, [8], 121)) none) (cond (Nat.beq pc 121) (some (16, 3, 170, [], 124)) none))) (cond (Nat.ble pc 125) (cond (Nat.ble pc 124) (cond (Nat.beq pc 124) (some (2, 0, 0, [], 125)) none) (cond (Nat.beq pc 125) (some (22, 11, 34, [8], 128)) none)) (cond (Nat.ble pc 128) (cond (Nat.beq pc 128) (some (1, 0, 5, [], 130)) none) (cond (Nat.beq pc 130) (some (25, 0, 0, [], 131)) none)))) (cond (Nat.ble pc 136) (cond (Nat.ble pc 131) (cond (Nat.beq pc 131) (some (0, (-9), 0, [], 133)) none) (cond (Nat.ble pc 133) (cond (Nat.beq pc 133) (some (16, 0, 164, [], 136)) none) (cond (Nat.beq pc 136) (some (2, 0, 0, [], 137)) none))) (cond (Nat.ble pc 140) (cond (Nat.ble pc 137) (cond (Nat.beq pc 137) (some (22, 0, 7, [8], 140)) none) (cond (Nat.beq pc 140) (some (0, 964, 0, [], 143)) none)) (cond (Nat.ble pc 143) (cond (Nat.beq pc 143) (some (0, 11, 0, [], 145)) none) (cond (Nat.beq pc 145) (some (1, 0, 3, [], 146)) none)))))) (cond (Nat.ble pc 164) (cond (Nat.ble pc 152) (cond (Nat.ble pc 148) (cond (Nat.ble pc 146) (cond (Nat.beq pc 146) (some (8, 0, 0, [], 147)) none) (cond (Nat.ble pc 147) (cond (Nat.beq pc 147) (some (6, 0, 0, [], 148)) none) (cond (Nat.beq pc 148) (some (0, 1, 0, [], 149)) none))) (cond (Nat.ble pc 149) (cond (Nat.beq pc 149) (some (6, 0, 0, [], 150)) none) (cond (Nat.ble pc 150) (cond (Nat.beq pc 150) (some (1, 0, 4, [], 152)) none) (cond (Nat.beq pc 152) (some (6, 0, 0, [], 153)) none)))) (cond (Nat.ble pc 157) (cond (Nat.ble pc 153) (cond (Nat.beq pc 153) (some (2, 0, 0, [], 154)) none) (cond (Nat.ble pc 154) (cond (Nat.beq pc 154) (some (22, 11, 34, [8], 157)) none) (cond (Nat.beq pc 157) (some (1, 0, 5, [], 159)) none))) (cond (Nat.ble pc 160) (cond (Nat.ble pc 159) (cond (Nat.beq pc 159) (some (25, 0, 0, [], 160)) none) (cond (Nat.beq pc 160) (some (26, 0, 0, [], 161)) none)) (cond (Nat.ble pc 161) (cond (Nat.beq pc 161) (some (5, 1, 4, [], 164)) none) (cond (Nat.beq pc 164) (some (5, 1, 5, [], 167)) none))))) (cond (Nat.ble pc 177) (cond (Nat.ble pc 171) (cond (Nat.ble pc 167) (cond (Nat.beq pc 167) (some (15, 0, 115, [], 170)) none) (cond (Nat.ble pc 170) (cond (Nat.beq pc 170) (some (2, 0, 0, [], 171)) none) (cond (Nat.beq pc 171) (some (22, 0, 7, [8], 174)) none))) (cond (Nat.ble pc 175) (cond (Nat.ble pc 174) (cond (Nat.beq pc 174) (some (0, 0, 0, [], 175)) none) (cond (Nat.beq pc 175) (some (13, 0, 0, [], 176)) none)) (cond (Nat.ble pc 176) (cond (Nat.beq pc 176) (some (25, 0, 0, [], 177)) none) (cond (Nat.beq pc 177) (some (0, 1, 0, [], 178)) none)))) (cond (Nat.ble pc 180) (cond (Nat.ble pc 178) (cond (Nat.beq pc 178) (some (6, 0, 0, [], 179)) none) (cond (Nat.ble pc 179) (cond (Nat.beq pc 179) (some (26, 0, 0, [], 180)) none) (cond (Nat.beq pc 180) (some (2, 0, 0, [], 181)) none))) (cond (Nat.ble pc 182) (cond (Nat.ble pc 181) (cond (Nat.beq pc 181) (some (0, 0, 0, [], 182)) none) (cond (Nat.beq pc 182) (some (23, 5, 104, [8], 185)) none)) (cond (Nat.ble pc 185) (cond (Nat.beq pc 185) (some (1, 0, 3, [], 186)) none) (cond (Nat.beq pc 186) (some (41, 0, 0, [], 187)) none)))))))) none
def qc140 (pc : Nat) : Option qX := cond (Nat.ble pc 37) (cond (Nat.ble pc 18) (cond (Nat.ble pc 8) (cond (Nat.ble pc 1) (cond (Nat.ble pc 0) (cond (Nat.beq pc 0) (some (2, 0, 0, [], 1)) none) (cond (Nat.beq pc 1) (some (1, 0, 1, [], 2)) none)) (cond (Nat.ble pc 2) (cond (Nat.beq pc 2) (some (40, 150, 110, [], 5)) none) (cond (Nat.ble pc 5) (cond (Nat.beq pc 5) (some (17, 1, 10, [], 8)) none) (cond (Nat.beq pc 8) (some (0, (-1), 0, [], 9)) none)))) (cond (Nat.ble pc 11) (cond (Nat.ble pc 9) (cond (Nat.beq pc 9) (some (41, 0, 0, [], 10)) none) (cond (Nat.ble pc 10) (cond (Nat.beq pc 10) (some (2, 0, 0, [], 11)) none) (cond (Nat.beq pc 11) (some (2, 0, 0, [], 12)) none))) (cond (Nat.ble pc 12) (cond (Nat.beq pc 12) (some (22, 0, 7, [8], 15)) none) (cond (Nat.ble pc 15) (cond (Nat.beq pc 15) (some (40, 146, 106, [], 18)) none) (cond (Nat.beq pc 18) (some (2, 0, 0, [], 19)) none))))) (cond (Nat.ble pc 28) (cond (Nat.ble pc 22) (cond (Nat.ble pc 19) (cond (Nat.beq pc 19) (some (22, 0, 7, [8], 22)) none) (cond (Nat.beq pc 22) (some (0, 964, 0, [], 25)) none)) (cond (Nat.ble pc 25) (cond (Nat.beq pc 25) (some (0, 11, 0, [], 27)) none) (cond (Nat.ble pc 27) (cond (Nat.beq pc 27) (some (1, 0, 1, [], 28)) none) (cond (Nat.beq pc 28) (some (8, 0, 0, [], 29)) none)))) (cond (Nat.ble pc 32) (cond (Nat.ble pc 29) (cond (Nat.beq pc 29) (some (6, 0, 0, [], 30)) none) (cond (Nat.ble pc 30) (cond (Nat.beq pc 30) (some (0, (-9), 0, [], 32)) none) (cond (Nat.beq pc 32) (some (26, 0, 0, [], 33)) none))) (cond (Nat.ble pc 33) (cond (Nat.beq pc 33) (some (2, 0, 0, [], 34)) none) (cond (Nat.ble pc 34) (cond (Nat.beq pc 34) (some (40, 153, 123, [], 37)) none) (cond (Nat.beq pc 37) (some (41, 0, 0, [], 38)) none)))))) none
def qc141 (pc : Nat) : Option qX := cond (Nat.ble pc 89) (cond (Nat.ble pc 45) (cond (Nat.ble pc 21) (cond (Nat.ble pc 9) (cond (Nat.ble pc 2) (cond (Nat.ble pc 0) (cond (Nat.beq pc 0) (some (2, 0, 0, [], 1)) none) (cond (Nat.ble pc 1) (cond (Nat.beq pc 1) (some (1, 0, 1, [], 2)) none) (cond (Nat.beq pc 2) (some (40, 150, 110, [], 5)) none))) (cond (Nat.ble pc 5) (cond (Nat.beq pc 5) (some (17, 0, 27, [], 8)) none) (cond (Nat.ble pc 8) (cond (Nat.beq pc 8) (some (2, 0, 0, [], 9)) none) (cond (Nat.beq pc 9) (some (1, 0, 2, [], 10)) none)))) (cond (Nat.ble pc 16) (cond (Nat.ble pc 10) (cond (Nat.beq pc 10) (some (40, 156, 107, [], 13)) none) (cond (Nat.ble pc 13) (cond (Nat.beq pc 13) (some (17, 0, 27, [], 16)) none) (cond (Nat.beq pc 16) (some (1, 0, 3, [], 17)) none))) (cond (Nat.ble pc 17) (cond (Nat.beq pc 17) (some (0, 0, 0, [], 18)) none) (cond (Nat.ble pc 18) (cond (Nat.beq pc 18) (some (0, 999, 0, [], 21)) none) (cond (Nat.beq pc 21) (some (40, 51, 104, [], 24)) none))))) (cond (Nat.ble pc 31) (cond (Nat.ble pc 28) (cond (Nat.ble pc 24) (cond (Nat.beq pc 24) (some (17, 1, 29, [], 27)) none) (cond (Nat.ble pc 27) (cond (Nat.beq pc 27) (some (0, (-1), 0, [], 28)) none) (cond (Nat.beq pc 28) (some (41, 0, 0, [], 29)) none))) (cond (Nat.ble pc 29) (cond (Nat.beq pc 29) (some (2, 0, 0, [], 30)) none) (cond (Nat.ble pc 30) (cond (Nat.beq pc 30) (some (2, 0, 0, [], 31)) none) (cond (Nat.beq pc 31) (some (1, 0, 1, [], 32)) none)))) (cond (Nat.ble pc 36) (cond (Nat.ble pc 32) (cond (Nat.beq pc 32) (some (40, 55, 109, [], 35)) none) (cond (Nat.ble pc 35) (cond (Nat.beq pc 35) (some (1, 0, 2, [], 36)) none) (cond (Nat.beq pc 36) (some (40, 159, 118, [], 39)) none))) (cond (Nat.ble pc 41) (cond (Nat.ble pc 39) (cond (Nat.beq pc 39) (some (3, 0, 4, [], 41)) none) (cond (Nat.beq pc 41) (some (1, 0, 4, [], 43)) none)) (cond (Nat.ble pc 43) (cond (Nat.beq pc 43) (some (0, (-9), 0, [], 45)) none) (cond (Nat.beq pc 45) (some (16, 1, 51, [], 48)) none)))))) (cond (Nat.ble pc 69) (cond (Nat.ble pc 56) (cond (Nat.ble pc 51) (cond (Nat.ble pc 48) (cond (Nat.beq pc 48) (some (0, (-2), 0, [], 50)) none) (cond (Nat.ble pc 50) (cond (Nat.beq pc 50) (some (41, 0, 0, [], 51)) none) (cond (Nat.beq pc 51) (some (2, 0, 0, [], 52)) none))) (cond (Nat.ble pc 52) (cond (Nat.beq pc 52) (some (2, 0, 0, [], 53)) none) (cond (Nat.ble pc 53) (cond (Nat.beq pc 53) (some (22, 0, 7, [8], 56)) none) (cond (Nat.beq pc 56) (some (40, 146, 106, [], 59)) none)))) (cond (Nat.ble pc 61) (cond (Nat.ble pc 59) (cond (Nat.beq pc 59) (some (2, 0, 0, [], 60)) none) (cond (Nat.ble pc 60) (cond (Nat.beq pc 60) (some (1, 0, 1, [], 61)) none) (cond (Nat.beq pc 61) (some (1, 0, 4, [], 63)) none))) (cond (Nat.ble pc 66) (cond (Nat.ble pc 63) (cond (Nat.beq pc 63) (some (40, 89, 111, [], 66)) none) (cond (Nat.beq pc 66) (some (3, 0, 5, [], 68)) none)) (cond (Nat.ble pc 68) (cond (Nat.beq pc 68) (some (2, 0, 0, [], 69)) none) (cond (Nat.beq pc 69) (some (22, 0, 7, [8], 72)) none))))) (cond (Nat.ble pc 80) (cond (Nat.ble pc 77) (cond (Nat.ble pc 72) (cond (Nat.beq pc 72) (some (0, 964, 0, [], 75)) none) (cond (Nat.ble pc 75) (cond (Nat.beq pc 75) (some (0, 11, 0, [], 77)) none) (cond (Nat.beq pc 77) (some (1, 0, 1, [], 78)) none))) (cond (Nat.ble pc 78) (cond (Nat.beq pc 78) (some (8, 0, 0, [], 79)) none) (cond (Nat.ble pc 79) (cond (Nat.beq pc 79) (some (6, 0, 0, [], 80)) none) (cond (Nat.beq pc 80) (some (0, 1, 0, [], 81)) none)))) (cond (Nat.ble pc 84) (cond (Nat.ble pc 81) (cond (Nat.beq pc 81) (some (6, 0, 0, [], 82)) none) (cond (Nat.ble pc 82) (cond (Nat.beq pc 82) (some (1, 0, 4, [], 84)) none) (cond (Nat.beq pc 84) (some (6, 0, 0, [], 85)) none))) (cond (Nat.ble pc 86) (cond (Nat.ble pc 85) (cond (Nat.beq pc 85) (some (1, 0, 3, [], 86)) none) (cond (Nat.beq pc 86) (some (26, 0, 0, [], 87)) none)) (cond (Nat.ble pc 87) (cond (Nat.beq pc 87) (some (1, 0, 5, [], 89)) none) (cond (Nat.beq pc 89) (some (41, 0, 0, [], 90)) none))))))) none
def qc142 (pc : Nat) : Option qX := cond (Nat.ble pc 32) (cond (Nat.ble pc 14) (cond (Nat.ble pc 5) (cond (Nat.ble pc 1) (cond (Nat.ble pc 0) (cond (Nat.beq pc 0) (some (1, 0, 1, [], 1)) none) (cond (Nat.beq pc 1) (some (3, 0, 3, [], 2)) none)) (cond (Nat.ble pc 2) (cond (Nat.beq pc 2) (some (1, 0, 3, [], 3)) none) (cond (Nat.ble pc 3) (cond (Nat.beq pc 3) (some (0, (-9), 0, [], 5)) none) (cond (Nat.beq pc 5) (some (16, 0, 22, [], 8)) none)))) (cond (Nat.ble pc 9) (cond (Nat.ble pc 8) (cond (Nat.beq pc 8) (some (1, 0, 3, [], 9)) none) (cond (Nat.beq pc 9) (some (1, 0, 2, [], 10)) none)) (cond (Nat.ble pc 10) (cond (Nat.beq pc 10) (some (16, 0, 22, [], 13)) none) (cond (Nat.ble pc 13) (cond (Nat.beq pc 13) (some (2, 0, 0, [], 14)) none) (cond (Nat.beq pc 14) (some (1, 0, 3, [], 15)) none))))) (cond (Nat.ble pc 23) (cond (Nat.ble pc 18) (cond (Nat.ble pc 15) (cond (Nat.beq pc 15) (some (40, 83, 113, [], 18)) none) (cond (Nat.beq pc 18) (some (3, 0, 3, [], 19)) none)) (cond (Nat.ble pc 19) (cond (Nat.beq pc 19) (some (15, 0, 2, [], 22)) none) (cond (Nat.ble pc 22) (cond (Nat.beq pc 22) (some (1, 0, 3, [], 23)) none) (cond (Nat.beq pc 23) (some (1, 0, 2, [], 24)) none)))) (cond (Nat.ble pc 27) (cond (Nat.ble pc 24) (cond (Nat.beq pc 24) (some (16, 1, 31, [], 27)) none) (cond (Nat.beq pc 27) (some (0, 1, 0, [], 28)) none)) (cond (Nat.ble pc 28) (cond (Nat.beq pc 28) (some (15, 0, 32, [], 31)) none) (cond (Nat.ble pc 31) (cond (Nat.beq pc 31) (some (0, 0, 0, [], 32)) none) (cond (Nat.beq pc 32) (some (42, 0, 0, [], 33)) none)))))) none
def qc143 (pc : Nat) : Option qX := cond (Nat.ble pc 249) (cond (Nat.ble pc 122) (cond (Nat.ble pc 57) (cond (Nat.ble pc 26) (cond (Nat.ble pc 13) (cond (Nat.ble pc 5) (cond (Nat.ble pc 1) (cond (Nat.ble pc 0) (cond (Nat.beq pc 0) (some (2, 0, 0, [], 1)) none) (cond (Nat.beq pc 1) (some (1, 0, 1, [], 2)) none)) (cond (Nat.ble pc 2) (cond (Nat.beq pc 2) (some (40, 150, 110, [], 5)) none) (cond (Nat.beq pc 5) (some (17, 0, 16, [], 8)) none))) (cond (Nat.ble pc 9) (cond (Nat.ble pc 8) (cond (Nat.beq pc 8) (some (2, 0, 0, [], 9)) none) (cond (Nat.beq pc 9) (some (1, 0, 2, [], 10)) none)) (cond (Nat.ble pc 10) (cond (Nat.beq pc 10) (some (40, 156, 107, [], 13)) none) (cond (Nat.beq pc 13) (some (17, 1, 18, [], 16)) none)))) (cond (Nat.ble pc 19) (cond (Nat.ble pc 17) (cond (Nat.ble pc 16) (cond (Nat.beq pc 16) (some (0, (-1), 0, [], 17)) none) (cond (Nat.beq pc 17) (some (41, 0, 0, [], 18)) none)) (cond (Nat.ble pc 18) (cond (Nat.beq pc 18) (some (2, 0, 0, [], 19)) none) (cond (Nat.beq pc 19) (some (1, 0, 1, [], 20)) none))) (cond (Nat.ble pc 23) (cond (Nat.ble pc 20) (cond (Nat.beq pc 20) (some (40, 55, 109, [], 23)) none) (cond (Nat.beq pc 23) (some (3, 0, 3, [], 24)) none)) (cond (Nat.ble pc 24) (cond (Nat.beq pc 24) (some (2, 0, 0, [], 25)) none) (cond (Nat.ble pc 25) (cond (Nat.beq pc 25) (some (1, 0, 3, [], 26)) none) (cond (Nat.beq pc 26) (some (1, 0, 2, [], 27)) none)))))) (cond (Nat.ble pc 41) (cond (Nat.ble pc 35) (cond (Nat.ble pc 30) (cond (Nat.ble pc 27) (cond (Nat.beq pc 27) (some (40, 159, 118, [], 30)) none) (cond (Nat.beq pc 30) (some (0, (-9), 0, [], 32)) none)) (cond (Nat.ble pc 32) (cond (Nat.beq pc 32) (some (16, 1, 47, [], 35)) none) (cond (Nat.beq pc 35) (some (2, 0, 0, [], 36)) none))) (cond (Nat.ble pc 37) (cond (Nat.ble pc 36) (cond (Nat.beq pc 36) (some (1, 0, 3, [], 37)) none) (cond (Nat.beq pc 37) (some (1, 0, 2, [], 38)) none)) (cond (Nat.ble pc 38) (cond (Nat.beq pc 38) (some (40, 162, 119, [], 41)) none) (cond (Nat.beq pc 41) (some (17, 1, 47, [], 44)) none)))) (cond (Nat.ble pc 48) (cond (Nat.ble pc 46) (cond (Nat.ble pc 44) (cond (Nat.beq pc 44) (some (0, (-2), 0, [], 46)) none) (cond (Nat.beq pc 46) (some (41, 0, 0, [], 47)) none)) (cond (Nat.ble pc 47) (cond (Nat.beq pc 47) (some (2, 0, 0, [], 48)) none) (cond (Nat.beq pc 48) (some (22, 0, 7, [8], 51)) none))) (cond (Nat.ble pc 52) (cond (Nat.ble pc 51) (cond (Nat.beq pc 51) (some (0, 0, 0, [], 52)) none) (cond (Nat.beq pc 52) (some (2, 0, 0, [], 53)) none)) (cond (Nat.ble pc 53) (cond (Nat.beq pc 53) (some (22, 3, 16, [8], 56)) none) (cond (Nat.ble pc 56) (cond (Nat.beq pc 56) (some (0, 0, 0, [], 57)) none) (cond (Nat.beq pc 57) (some (40, 47, 105, [], 60)) none))))))) (cond (Nat.ble pc 86) (cond (Nat.ble pc 71) (cond (Nat.ble pc 65) (cond (Nat.ble pc 61) (cond (Nat.ble pc 60) (cond (Nat.beq pc 60) (some (2, 0, 0, [], 61)) none) (cond (Nat.beq pc 61) (some (0, 0, 0, [], 62)) none)) (cond (Nat.ble pc 62) (cond (Nat.beq pc 62) (some (23, 18, 128, [8], 65)) none) (cond (Nat.beq pc 65) (some (0, 0, 0, [], 66)) none))) (cond (Nat.ble pc 68) (cond (Nat.ble pc 66) (cond (Nat.beq pc 66) (some (3, 0, 4, [], 68)) none) (cond (Nat.beq pc 68) (some (0, 0, 0, [], 69)) none)) (cond (Nat.ble pc 69) (cond (Nat.beq pc 69) (some (3, 0, 5, [], 71)) none) (cond (Nat.beq pc 71) (some (0, 0, 0, [], 72)) none)))) (cond (Nat.ble pc 77) (cond (Nat.ble pc 74) (cond (Nat.ble pc 72) (cond (Nat.beq pc 72) (some (3, 0, 6, [], 74)) none) (cond (Nat.beq pc 74) (some (1, 0, 6, [], 76)) none)) (cond (Nat.ble pc 76) (cond (Nat.beq pc 76) (some (2, 0, 0, [], 77)) none) (cond (Nat.beq pc 77) (some (1, 0, 3, [], 78)) none))) (cond (Nat.ble pc 81) (cond (Nat.ble pc 78) (cond (Nat.beq pc 78) (some (40, 59, 114, [], 81)) none) (cond (Nat.beq pc 81) (some (16, 3, 195, [], 84)) none)) (cond (Nat.ble pc 84) (cond (Nat.beq pc 84) (some (2, 0, 0, [], 85)) none) (cond (Nat.ble pc 85) (cond (Nat.beq pc 85) (some (1, 0, 3, [], 86)) none) (cond (Nat.beq pc 86) (some (1, 0, 6, [], 88)) none)))))) (cond (Nat.ble pc 103) (cond (Nat.ble pc 94) (cond (Nat.ble pc 91) (cond (Nat.ble pc 88) (cond (Nat.beq pc 88) (some (40, 62, 115, [], 91)) none) (cond (Nat.beq pc 91) (some (3, 0, 7, [], 93)) none)) (cond (Nat.ble pc 93) (cond (Nat.beq pc 93) (some (2, 0, 0, [], 94)) none) (cond (Nat.beq pc 94) (some (1, 0, 7, [], 96)) none))) (cond (Nat.ble pc 98) (cond (Nat.ble pc 96) (cond (Nat.beq pc 96) (some (0, 100, 0, [], 98)) none) (cond (Nat.beq pc 98) (some (10, 0, 0, [], 99)) none)) (cond (Nat.ble pc 99) (cond (Nat.beq pc 99) (some (1, 0, 2, [], 100)) none) (cond (Nat.ble pc 100) (cond (Nat.beq pc 100) (some (40, 165, 142, [], 103)) none) (cond (Nat.beq pc 103) (some (17, 1, 110, [], 106)) none))))) (cond (Nat.ble pc 111) (cond (Nat.ble pc 107) (cond (Nat.ble pc 106) (cond (Nat.beq pc 106) (some (0, 1, 0, [], 107)) none) (cond (Nat.beq pc 107) (some (15, 0, 111, [], 110)) none)) (cond (Nat.ble pc 110) (cond (Nat.beq pc 110) (some (0, 0, 0, [], 111)) none) (cond (Nat.beq pc 111) (some (3, 0, 8, [], 113)) none))) (cond (Nat.ble pc 115) (cond (Nat.ble pc 113) (cond (Nat.beq pc 113) (some (1, 0, 8, [], 115)) none) (cond (Nat.beq pc 115) (some (17, 0, 139, [], 118)) none)) (cond (Nat.ble pc 118) (cond (Nat.beq pc 118) (some (2, 0, 0, [], 119)) none) (cond (Nat.ble pc 119) (cond (Nat.beq pc 119) (some (22, 17, 40, [8], 122)) none) (cond (Nat.beq pc 122) (some (2, 0, 0, [], 123)) none)))))))) (cond (Nat.ble pc 182) (cond (Nat.ble pc 155) (cond (Nat.ble pc 135) (cond (Nat.ble pc 129) (cond (Nat.ble pc 126) (cond (Nat.ble pc 123) (cond (Nat.beq pc 123) (some (21, 18, 128, [8], 126)) none) (cond (Nat.beq pc 126) (some (1, 0, 7, [], 128)) none)) (cond (Nat.ble pc 128) (cond (Nat.beq pc 128) (some (26, 0, 0, [], 129)) none) (cond (Nat.beq pc 129) (some (2, 0, 0, [], 130)) none))) (cond (Nat.ble pc 131) (cond (Nat.ble pc 130) (cond (Nat.beq pc 130) (some (12, 0, 0, [], 131)) none) (cond (Nat.beq pc 131) (some (21, 18, 128, [8], 134)) none)) (cond (Nat.ble pc 134) (cond (Nat.beq pc 134) (some (0, 1, 0, [], 135)) none) (cond (Nat.beq pc 135) (some (6, 0, 0, [], 136)) none)))) (cond (Nat.ble pc 143) (cond (Nat.ble pc 139) (cond (Nat.ble pc 136) (cond (Nat.beq pc 136) (some (23, 18, 128, [8], 139)) none) (cond (Nat.beq pc 139) (some (1, 0, 7, [], 141)) none)) (cond (Nat.ble pc 141) (cond (Nat.beq pc 141) (some (0, 100, 0, [], 143)) none) (cond (Nat.beq pc 143) (some (16, 3, 189, [], 146)) none))) (cond (Nat.ble pc 147) (cond (Nat.ble pc 146) (cond (Nat.beq pc 146) (some (2, 0, 0, [], 147)) none) (cond (Nat.beq pc 147) (some (22, 0, 7, [8], 150)) none)) (cond (Nat.ble pc 150) (cond (Nat.beq pc 150) (some (0, 964, 0, [], 153)) none) (cond (Nat.ble pc 153) (cond (Nat.beq pc 153) (some (0, 11, 0, [], 155)) none) (cond (Nat.beq pc 155) (some (1, 0, 1, [], 156)) none)))))) (cond (Nat.ble pc 164) (cond (Nat.ble pc 159) (cond (Nat.ble pc 157) (cond (Nat.ble pc 156) (cond (Nat.beq pc 156) (some (8, 0, 0, [], 157)) none) (cond (Nat.beq pc 157) (some (6, 0, 0, [], 158)) none)) (cond (Nat.ble pc 158) (cond (Nat.beq pc 158) (some (0, 1, 0, [], 159)) none) (cond (Nat.beq pc 159) (some (6, 0, 0, [], 160)) none))) (cond (Nat.ble pc 162) (cond (Nat.ble pc 160) (cond (Nat.beq pc 160) (some (1, 0, 5, [], 162)) none) (cond (Nat.beq pc 162) (some (6, 0, 0, [], 163)) none)) (cond (Nat.ble pc 163) (cond (Nat.beq pc 163) (some (2, 0, 0, [], 164)) none) (cond (Nat.beq pc 164) (some (1, 0, 1, [], 165)) none)))) (cond (Nat.ble pc 171) (cond (Nat.ble pc 167) (cond (Nat.ble pc 165) (cond (Nat.beq pc 165) (some (1, 0, 4, [], 167)) none) (cond (Nat.beq pc 167) (some (40, 89, 111, [], 170)) none)) (cond (Nat.ble pc 170) (cond (Nat.beq pc 170) (some (26, 0, 0, [], 171)) none) (cond (Nat.beq pc 171) (some (5, 1, 4, [], 174)) none))) (cond (Nat.ble pc 176) (cond (Nat.ble pc 174) (cond (Nat.beq pc 174) (some (1, 0, 5, [], 176)) none) (cond (Nat.beq pc 176) (some (1, 0, 8, [], 178)) none)) (cond (Nat.ble pc 178) (cond (Nat.beq pc 178) (some (17, 0, 185, [], 181)) none) (cond (Nat.ble pc 181) (cond (Nat.beq pc 181) (some (0, 1, 0, [], 182)) none) (cond (Nat.beq pc 182) (some (15, 0, 186, [], 185)) none))))))) (cond (Nat.ble pc 217) (cond (Nat.ble pc 199) (cond (Nat.ble pc 189) (cond (Nat.ble pc 186) (cond (Nat.ble pc 185) (cond (Nat.beq pc 185) (some (0, 0, 0, [], 186)) none) (cond (Nat.beq pc 186) (some (6, 0, 0, [], 187)) none)) (cond (Nat.ble pc 187) (cond (Nat.beq pc 187) (some (3, 0, 5, [], 189)) none) (cond (Nat.beq pc 189) (some (5, 1, 6, [], 192)) none))) (cond (Nat.ble pc 195) (cond (Nat.ble pc 192) (cond (Nat.beq pc 192) (some (15, 0, 74, [], 195)) none) (cond (Nat.beq pc 195) (some (2, 0, 0, [], 196)) none)) (cond (Nat.ble pc 196) (cond (Nat.beq pc 196) (some (40, 143, 136, [], 199)) none) (cond (Nat.beq pc 199) (some (3, 0, 6, [], 201)) none)))) (cond (Nat.ble pc 208) (cond (Nat.ble pc 203) (cond (Nat.ble pc 201) (cond (Nat.beq pc 201) (some (1, 0, 6, [], 203)) none) (cond (Nat.beq pc 203) (some (0, (-9), 0, [], 205)) none)) (cond (Nat.ble pc 205) (cond (Nat.beq pc 205) (some (16, 1, 224, [], 208)) none) (cond (Nat.beq pc 208) (some (2, 0, 0, [], 209)) none))) (cond (Nat.ble pc 212) (cond (Nat.ble pc 209) (cond (Nat.beq pc 209) (some (22, 3, 16, [8], 212)) none) (cond (Nat.beq pc 212) (some (0, 0, 0, [], 213)) none)) (cond (Nat.ble pc 213) (cond (Nat.beq pc 213) (some (2, 0, 0, [], 214)) none) (cond (Nat.ble pc 214) (cond (Nat.beq pc 214) (some (22, 0, 7, [8], 217)) none) (cond (Nat.beq pc 217) (some (0, 0, 0, [], 218)) none)))))) (cond (Nat.ble pc 233) (cond (Nat.ble pc 224) (cond (Nat.ble pc 221) (cond (Nat.ble pc 218) (cond (Nat.beq pc 218) (some (40, 47, 105, [], 221)) none) (cond (Nat.beq pc 221) (some (0, (-3), 0, [], 223)) none)) (cond (Nat.ble pc 223) (cond (Nat.beq pc 223) (some (41, 0, 0, [], 224)) none) (cond (Nat.beq pc 224) (some (2, 0, 0, [], 225)) none))) (cond (Nat.ble pc 226) (cond (Nat.ble pc 225) (cond (Nat.beq pc 225) (some (2, 0, 0, [], 226)) none) (cond (Nat.beq pc 226) (some (22, 3, 16, [8], 229)) none)) (cond (Nat.ble pc 229) (cond (Nat.beq pc 229) (some (40, 146, 106, [], 232)) none) (cond (Nat.ble pc 232) (cond (Nat.beq pc 232) (some (2, 0, 0, [], 233)) none) (cond (Nat.beq pc 233) (some (22, 0, 7, [8], 236)) none))))) (cond (Nat.ble pc 242) (cond (Nat.ble pc 239) (cond (Nat.ble pc 236) (cond (Nat.beq pc 236) (some (0, 964, 0, [], 239)) none) (cond (Nat.beq pc 239) (some (0, 11, 0, [], 241)) none)) (cond (Nat.ble pc 241) (cond (Nat.beq pc 241) (some (1, 0, 1, [], 242)) none) (cond (Nat.beq pc 242) (some (8, 0, 0, [], 243)) none))) (cond (Nat.ble pc 244) (cond (Nat.ble pc 243) (cond (Nat.beq pc 243) (some (6, 0, 0, [], 244)) none) (cond (Nat.beq pc 244) (some (1, 0, 6, [], 246)) none)) (cond (Nat.ble pc 246) (cond (Nat.beq pc 246) (some (26, 0, 0, [], 247)) none) (cond (Nat.ble pc 247) (cond (Nat.beq pc 247) (some (1, 0, 6, [], 249)) none) (cond (Nat.beq pc 249) (some (41, 0, 0, [], 250)) none))))))))) none
def qc144 (pc : Nat) : Option qX := cond (Nat.ble pc 32) (cond (Nat.ble pc 14) (cond (Nat.ble pc 7) (cond (Nat.ble pc 1) (cond (Nat.ble pc 0) (cond (Nat.beq pc 0) (some (1, 0, 1, [], 1)) none) (cond (Nat.beq pc 1) (some (0, 1, 0, [], 2)) none)) (cond (Nat.ble pc 2) (cond (Nat.beq pc 2) (some (0, 10, 0, [], 4)) none) (cond (Nat.ble pc 4) (cond (Nat.beq pc 4) (some (40, 51, 104, [], 7)) none) (cond (Nat.beq pc 7) (some (17, 1, 12, [], 10)) none)))) (cond (Nat.ble pc 11) (cond (Nat.ble pc 10) (cond (Nat.beq pc 10) (some (0, (-1), 0, [], 11)) none) (cond (Nat.beq pc 11) (some (41, 0, 0, [], 12)) none)) (cond (Nat.ble pc 12) (cond (Nat.beq pc 12) (some (2, 0, 0, [], 13)) none) (cond (Nat.ble pc 13) (cond (Nat.beq pc 13) (some (2, 0, 0, [], 14)) none) (cond (Nat.beq pc 14) (some (22, 0, 7, [8], 17)) none))))) (cond (Nat.ble pc 25) (cond (Nat.ble pc 20) (cond (Nat.ble pc 17) (cond (Nat.beq pc 17) (some (40, 146, 106, [], 20)) none) (cond (Nat.beq pc 20) (some (2, 0, 0, [], 21)) none)) (cond (Nat.ble pc 21) (cond (Nat.beq pc 21) (some (22, 0, 7, [8], 24)) none) (cond (Nat.ble pc 24) (cond (Nat.beq pc 24) (some (0, 3, 0, [], 25)) none) (cond (Nat.beq pc 25) (some (1, 0, 1, [], 26)) none)))) (cond (Nat.ble pc 27) (cond (Nat.ble pc 26) (cond (Nat.beq pc 26) (some (26, 0, 0, [], 27)) none) (cond (Nat.beq pc 27) (some (2, 0, 0, [], 28)) none)) (cond (Nat.ble pc 28) (cond (Nat.beq pc 28) (some (1, 0, 1, [], 29)) none) (cond (Nat.ble pc 29) (cond (Nat.beq pc 29) (some (40, 168, 122, [], 32)) none) (cond (Nat.beq pc 32) (some (41, 0, 0, [], 33)) none)))))) none
def qc145 (pc : Nat) : Option qX := cond (Nat.ble pc 44) (cond (Nat.ble pc 20) (cond (Nat.ble pc 10) (cond (Nat.ble pc 4) (cond (Nat.ble pc 0) (cond (Nat.beq pc 0) (some (2, 0, 0, [], 1)) none) (cond (Nat.ble pc 1) (cond (Nat.beq pc 1) (some (21, 2, 43, [8], 4)) none) (cond (Nat.beq pc 4) (some (17, 1, 10, [], 7)) none))) (cond (Nat.ble pc 7) (cond (Nat.beq pc 7) (some (0, (-2), 0, [], 9)) none) (cond (Nat.ble pc 9) (cond (Nat.beq pc 9) (some (41, 0, 0, [], 10)) none) (cond (Nat.beq pc 10) (some (2, 0, 0, [], 11)) none)))) (cond (Nat.ble pc 15) (cond (Nat.ble pc 11) (cond (Nat.beq pc 11) (some (12, 0, 0, [], 12)) none) (cond (Nat.ble pc 12) (cond (Nat.beq pc 12) (some (21, 2, 43, [8], 15)) none) (cond (Nat.beq pc 15) (some (0, 1, 0, [], 16)) none))) (cond (Nat.ble pc 16) (cond (Nat.beq pc 16) (some (7, 0, 0, [], 17)) none) (cond (Nat.ble pc 17) (cond (Nat.beq pc 17) (some (23, 2, 43, [8], 20)) none) (cond (Nat.beq pc 20) (some (2, 0, 0, [], 21)) none))))) (cond (Nat.ble pc 32) (cond (Nat.ble pc 25) (cond (Nat.ble pc 21) (cond (Nat.beq pc 21) (some (22, 1, 13, [8], 24)) none) (cond (Nat.ble pc 24) (cond (Nat.beq pc 24) (some (2, 0, 0, [], 25)) none) (cond (Nat.beq pc 25) (some (21, 2, 43, [8], 28)) none))) (cond (Nat.ble pc 28) (cond (Nat.beq pc 28) (some (0, 1294, 0, [], 31)) none) (cond (Nat.ble pc 31) (cond (Nat.beq pc 31) (some (8, 0, 0, [], 32)) none) (cond (Nat.beq pc 32) (some (2, 0, 0, [], 33)) none)))) (cond (Nat.ble pc 37) (cond (Nat.ble pc 33) (cond (Nat.beq pc 33) (some (22, 0, 7, [8], 36)) none) (cond (Nat.ble pc 36) (cond (Nat.beq pc 36) (some (0, 0, 0, [], 37)) none) (cond (Nat.beq pc 37) (some (40, 47, 105, [], 40)) none))) (cond (Nat.ble pc 40) (cond (Nat.beq pc 40) (some (2, 0, 0, [], 41)) none) (cond (Nat.ble pc 41) (cond (Nat.beq pc 41) (some (21, 2, 43, [8], 44)) none) (cond (Nat.beq pc 44) (some (41, 0, 0, [], 45)) none)))))) none
def qc146 (pc : Nat) : Option qX := cond (Nat.ble pc 57) (cond (Nat.ble pc 25) (cond (Nat.ble pc 9) (cond (Nat.ble pc 3) (cond (Nat.ble pc 1) (cond (Nat.ble pc 0) (cond (Nat.beq pc 0) (some (0, 0, 0, [], 1)) none) (cond (Nat.beq pc 1) (some (3, 0, 1, [], 2)) none)) (cond (Nat.ble pc 2) (cond (Nat.beq pc 2) (some (0, 0, 0, [], 3)) none) (cond (Nat.beq pc 3) (some (3, 0, 2, [], 4)) none))) (cond (Nat.ble pc 5) (cond (Nat.ble pc 4) (cond (Nat.beq pc 4) (some (1, 0, 2, [], 5)) none) (cond (Nat.beq pc 5) (some (2, 0, 0, [], 6)) none)) (cond (Nat.ble pc 6) (cond (Nat.beq pc 6) (some (22, 0, 7, [8], 9)) none) (cond (Nat.beq pc 9) (some (0, 0, 0, [], 10)) none)))) (cond (Nat.ble pc 15) (cond (Nat.ble pc 11) (cond (Nat.ble pc 10) (cond (Nat.beq pc 10) (some (25, 0, 0, [], 11)) none) (cond (Nat.beq pc 11) (some (16, 3, 56, [], 14)) none)) (cond (Nat.ble pc 14) (cond (Nat.beq pc 14) (some (1, 0, 1, [], 15)) none) (cond (Nat.beq pc 15) (some (2, 0, 0, [], 16)) none))) (cond (Nat.ble pc 17) (cond (Nat.ble pc 16) (cond (Nat.beq pc 16) (some (1, 0, 2, [], 17)) none) (cond (Nat.beq pc 17) (some (40, 55, 109, [], 20)) none)) (cond (Nat.ble pc 20) (cond (Nat.beq pc 20) (some (0, (-9), 0, [], 22)) none) (cond (Nat.ble pc 22) (cond (Nat.beq pc 22) (some (16, 0, 47, [], 25)) none) (cond (Nat.beq pc 25) (some (2, 0, 0, [], 26)) none)))))) (cond (Nat.ble pc 40) (cond (Nat.ble pc 31) (cond (Nat.ble pc 27) (cond (Nat.ble pc 26) (cond (Nat.beq pc 26) (some (2, 0, 0, [], 27)) none) (cond (Nat.beq pc 27) (some (1, 0, 2, [], 28)) none)) (cond (Nat.ble pc 28) (cond (Nat.beq pc 28) (some (40, 55, 109, [], 31)) none) (cond (Nat.beq pc 31) (some (2, 0, 0, [], 32)) none))) (cond (Nat.ble pc 35) (cond (Nat.ble pc 32) (cond (Nat.beq pc 32) (some (22, 0, 7, [8], 35)) none) (cond (Nat.beq pc 35) (some (0, 3, 0, [], 36)) none)) (cond (Nat.ble pc 36) (cond (Nat.beq pc 36) (some (25, 0, 0, [], 37)) none) (cond (Nat.ble pc 37) (cond (Nat.beq pc 37) (some (40, 72, 121, [], 40)) none) (cond (Nat.beq pc 40) (some (17, 1, 47, [], 43)) none))))) (cond (Nat.ble pc 48) (cond (Nat.ble pc 44) (cond (Nat.ble pc 43) (cond (Nat.beq pc 43) (some (0, 1, 0, [], 44)) none) (cond (Nat.beq pc 44) (some (15, 0, 48, [], 47)) none)) (cond (Nat.ble pc 47) (cond (Nat.beq pc 47) (some (0, 0, 0, [], 48)) none) (cond (Nat.beq pc 48) (some (6, 0, 0, [], 49)) none))) (cond (Nat.ble pc 50) (cond (Nat.ble pc 49) (cond (Nat.beq pc 49) (some (3, 0, 1, [], 50)) none) (cond (Nat.beq pc 50) (some (5, 1, 2, [], 53)) none)) (cond (Nat.ble pc 53) (cond (Nat.beq pc 53) (some (15, 0, 4, [], 56)) none) (cond (Nat.ble pc 56) (cond (Nat.beq pc 56) (some (1, 0, 1, [], 57)) none) (cond (Nat.beq pc 57) (some (41, 0, 0, [], 58)) none))))))) none
def qc147 (pc : Nat) : Option qX := cond (Nat.ble pc 113) (cond (Nat.ble pc 50) (cond (Nat.ble pc 21) (cond (Nat.ble pc 9) (cond (Nat.ble pc 3) (cond (Nat.ble pc 1) (cond (Nat.ble pc 0) (cond (Nat.beq pc 0) (some (0, 0, 0, [], 1)) none) (cond (Nat.beq pc 1) (some (3, 0, 2, [], 2)) none)) (cond (Nat.ble pc 2) (cond (Nat.beq pc 2) (some (0, 0, 0, [], 3)) none) (cond (Nat.beq pc 3) (some (3, 0, 3, [], 4)) none))) (cond (Nat.ble pc 5) (cond (Nat.ble pc 4) (cond (Nat.beq pc 4) (some (1, 0, 3, [], 5)) none) (cond (Nat.beq pc 5) (some (2, 0, 0, [], 6)) none)) (cond (Nat.ble pc 6) (cond (Nat.beq pc 6) (some (22, 0, 7, [8], 9)) none) (cond (Nat.beq pc 9) (some (0, 2, 0, [], 10)) none)))) (cond (Nat.ble pc 15) (cond (Nat.ble pc 11) (cond (Nat.ble pc 10) (cond (Nat.beq pc 10) (some (25, 0, 0, [], 11)) none) (cond (Nat.beq pc 11) (some (16, 3, 43, [], 14)) none)) (cond (Nat.ble pc 14) (cond (Nat.beq pc 14) (some (1, 0, 2, [], 15)) none) (cond (Nat.beq pc 15) (some (2, 0, 0, [], 16)) none))) (cond (Nat.ble pc 17) (cond (Nat.ble pc 16) (cond (Nat.beq pc 16) (some (1, 0, 3, [], 17)) none) (cond (Nat.beq pc 17) (some (1, 0, 1, [], 18)) none)) (cond (Nat.ble pc 18) (cond (Nat.beq pc 18) (some (40, 72, 121, [], 21)) none) (cond (Nat.beq pc 21) (some (17, 0, 34, [], 24)) none))))) (cond (Nat.ble pc 35) (cond (Nat.ble pc 27) (cond (Nat.ble pc 25) (cond (Nat.ble pc 24) (cond (Nat.beq pc 24) (some (0, 1, 0, [], 25)) none) (cond (Nat.beq pc 25) (some (2, 0, 0, [], 26)) none)) (cond (Nat.ble pc 26) (cond (Nat.beq pc 26) (some (1, 0, 3, [], 27)) none) (cond (Nat.beq pc 27) (some (40, 59, 114, [], 30)) none))) (cond (Nat.ble pc 31) (cond (Nat.ble pc 30) (cond (Nat.beq pc 30) (some (6, 0, 0, [], 31)) none) (cond (Nat.beq pc 31) (some (15, 0, 35, [], 34)) none)) (cond (Nat.ble pc 34) (cond (Nat.beq pc 34) (some (0, 0, 0, [], 35)) none) (cond (Nat.beq pc 35) (some (6, 0, 0, [], 36)) none)))) (cond (Nat.ble pc 43) (cond (Nat.ble pc 37) (cond (Nat.ble pc 36) (cond (Nat.beq pc 36) (some (3, 0, 2, [], 37)) none) (cond (Nat.beq pc 37) (some (5, 1, 3, [], 40)) none)) (cond (Nat.ble pc 40) (cond (Nat.beq pc 40) (some (15, 0, 4, [], 43)) none) (cond (Nat.beq pc 43) (some (0, 0, 0, [], 44)) none))) (cond (Nat.ble pc 45) (cond (Nat.ble pc 44) (cond (Nat.beq pc 44) (some (3, 0, 3, [], 45)) none) (cond (Nat.beq pc 45) (some (1, 0, 3, [], 46)) none)) (cond (Nat.ble pc 46) (cond (Nat.beq pc 46) (some (2, 0, 0, [], 47)) none) (cond (Nat.ble pc 47) (cond (Nat.beq pc 47) (some (22, 0, 7, [8], 50)) none) (cond (Nat.beq pc 50) (some (0, 0, 0, [], 51)) none))))))) (cond (Nat.ble pc 81) (cond (Nat.ble pc 64) (cond (Nat.ble pc 56) (cond (Nat.ble pc 52) (cond (Nat.ble pc 51) (cond (Nat.beq pc 51) (some (25, 0, 0, [], 52)) none) (cond (Nat.beq pc 52) (some (16, 3, 112, [], 55)) none)) (cond (Nat.ble pc 55) (cond (Nat.beq pc 55) (some (2, 0, 0, [], 56)) none) (cond (Nat.beq pc 56) (some (1, 0, 3, [], 57)) none))) (cond (Nat.ble pc 60) (cond (Nat.ble pc 57) (cond (Nat.beq pc 57) (some (40, 55, 109, [], 60)) none) (cond (Nat.beq pc 60) (some (3, 0, 4, [], 62)) none)) (cond (Nat.ble pc 62) (cond (Nat.beq pc 62) (some (1, 0, 4, [], 64)) none) (cond (Nat.beq pc 64) (some (0, (-9), 0, [], 66)) none)))) (cond (Nat.ble pc 71) (cond (Nat.ble pc 69) (cond (Nat.ble pc 66) (cond (Nat.beq pc 66) (some (16, 0, 106, [], 69)) none) (cond (Nat.beq pc 69) (some (1, 0, 2, [], 70)) none)) (cond (Nat.ble pc 70) (cond (Nat.beq pc 70) (some (0, 1, 0, [], 71)) none) (cond (Nat.beq pc 71) (some (2, 0, 0, [], 72)) none))) (cond (Nat.ble pc 74) (cond (Nat.ble pc 72) (cond (Nat.beq pc 72) (some (1, 0, 4, [], 74)) none) (cond (Nat.beq pc 74) (some (1, 0, 1, [], 75)) none)) (cond (Nat.ble pc 75) (cond (Nat.beq pc 75) (some (40, 72, 121, [], 78)) none) (cond (Nat.ble pc 78) (cond (Nat.beq pc 78) (some (17, 0, 90, [], 81)) none) (cond (Nat.beq pc 81) (some (2, 0, 0, [], 82)) none)))))) (cond (Nat.ble pc 97) (cond (Nat.ble pc 90) (cond (Nat.ble pc 84) (cond (Nat.ble pc 82) (cond (Nat.beq pc 82) (some (1, 0, 4, [], 84)) none) (cond (Nat.beq pc 84) (some (40, 66, 116, [], 87)) none)) (cond (Nat.ble pc 87) (cond (Nat.beq pc 87) (some (15, 0, 103, [], 90)) none) (cond (Nat.beq pc 90) (some (2, 0, 0, [], 91)) none))) (cond (Nat.ble pc 93) (cond (Nat.ble pc 91) (cond (Nat.beq pc 91) (some (1, 0, 4, [], 93)) none) (cond (Nat.beq pc 93) (some (40, 66, 116, [], 96)) none)) (cond (Nat.ble pc 96) (cond (Nat.beq pc 96) (some (2, 0, 0, [], 97)) none) (cond (Nat.beq pc 97) (some (1, 0, 4, [], 99)) none)))) (cond (Nat.ble pc 104) (cond (Nat.ble pc 102) (cond (Nat.ble pc 99) (cond (Nat.beq pc 99) (some (40, 59, 114, [], 102)) none) (cond (Nat.beq pc 102) (some (6, 0, 0, [], 103)) none)) (cond (Nat.ble pc 103) (cond (Nat.beq pc 103) (some (6, 0, 0, [], 104)) none) (cond (Nat.beq pc 104) (some (6, 0, 0, [], 105)) none))) (cond (Nat.ble pc 106) (cond (Nat.ble pc 105) (cond (Nat.beq pc 105) (some (3, 0, 2, [], 106)) none) (cond (Nat.beq pc 106) (some (5, 1, 3, [], 109)) none)) (cond (Nat.ble pc 109) (cond (Nat.beq pc 109) (some (15, 0, 45, [], 112)) none) (cond (Nat.ble pc 112) (cond (Nat.beq pc 112) (some (1, 0, 2, [], 113)) none) (cond (Nat.beq pc 113) (some (41, 0, 0, [], 114)) none)))))))) none
def qc148 (pc : Nat) : Option qX := cond (Nat.ble pc 127) (cond (Nat.ble pc 88) (cond (Nat.ble pc 69) (cond (Nat.ble pc 61) (cond (Nat.ble pc 56) (cond (Nat.ble pc 0) (cond (Nat.beq pc 0) (some (1, 0, 1, [], 1)) none) (cond (Nat.ble pc 1) (cond (Nat.beq pc 1) (some (20, 0, 126, [56, 61, 68, 75, 82, 93, 98, 109, 116, 121], 56)) none) (cond (Nat.beq pc 56) (some (2, 0, 0, [], 57)) none))) (cond (Nat.ble pc 57) (cond (Nat.beq pc 57) (some (40, 153, 123, [], 60)) none) (cond (Nat.ble pc 60) (cond (Nat.beq pc 60) (some (41, 0, 0, [], 61)) none) (cond (Nat.beq pc 61) (some (2, 0, 0, [], 62)) none)))) (cond (Nat.ble pc 66) (cond (Nat.ble pc 62) (cond (Nat.beq pc 62) (some (22, 0, 7, [8], 65)) none) (cond (Nat.ble pc 65) (cond (Nat.beq pc 65) (some (0, 0, 0, [], 66)) none) (cond (Nat.beq pc 66) (some (25, 0, 0, [], 67)) none))) (cond (Nat.ble pc 67) (cond (Nat.beq pc 67) (some (41, 0, 0, [], 68)) none) (cond (Nat.ble pc 68) (cond (Nat.beq pc 68) (some (2, 0, 0, [], 69)) none) (cond (Nat.beq pc 69) (some (22, 0, 7, [8], 72)) none))))) (cond (Nat.ble pc 79) (cond (Nat.ble pc 74) (cond (Nat.ble pc 72) (cond (Nat.beq pc 72) (some (0, 1, 0, [], 73)) none) (cond (Nat.ble pc 73) (cond (Nat.beq pc 73) (some (25, 0, 0, [], 74)) none) (cond (Nat.beq pc 74) (some (41, 0, 0, [], 75)) none))) (cond (Nat.ble pc 75) (cond (Nat.beq pc 75) (some (2, 0, 0, [], 76)) none) (cond (Nat.ble pc 76) (cond (Nat.beq pc 76) (some (22, 0, 7, [8], 79)) none) (cond (Nat.beq pc 79) (some (0, 2, 0, [], 80)) none)))) (cond (Nat.ble pc 82) (cond (Nat.ble pc 80) (cond (Nat.beq pc 80) (some (25, 0, 0, [], 81)) none) (cond (Nat.ble pc 81) (cond (Nat.beq pc 81) (some (41, 0, 0, [], 82)) none) (cond (Nat.beq pc 82) (some (2, 0, 0, [], 83)) none))) (cond (Nat.ble pc 84) (cond (Nat.ble pc 83) (cond (Nat.beq pc 83) (some (2, 0, 0, [], 84)) none) (cond (Nat.beq pc 84) (some (22, 0, 7, [8], 87)) none)) (cond (Nat.ble pc 87) (cond (Nat.beq pc 87) (some (0, 3, 0, [], 88)) none) (cond (Nat.beq pc 88) (some (25, 0, 0, [], 89)) none)))))) (cond (Nat.ble pc 108) (cond (Nat.ble pc 98) (cond (Nat.ble pc 93) (cond (Nat.ble pc 89) (cond (Nat.beq pc 89) (some (40, 168, 122, [], 92)) none) (cond (Nat.ble pc 92) (cond (Nat.beq pc 92) (some (41, 0, 0, [], 93)) none) (cond (Nat.beq pc 93) (some (2, 0, 0, [], 94)) none))) (cond (Nat.ble pc 94) (cond (Nat.beq pc 94) (some (40, 171, 146, [], 97)) none) (cond (Nat.ble pc 97) (cond (Nat.beq pc 97) (some (41, 0, 0, [], 98)) none) (cond (Nat.beq pc 98) (some (2, 0, 0, [], 99)) none)))) (cond (Nat.ble pc 103) (cond (Nat.ble pc 99) (cond (Nat.beq pc 99) (some (2, 0, 0, [], 100)) none) (cond (Nat.ble pc 100) (cond (Nat.beq pc 100) (some (22, 0, 7, [8], 103)) none) (cond (Nat.beq pc 103) (some (0, 3, 0, [], 104)) none))) (cond (Nat.ble pc 104) (cond (Nat.beq pc 104) (some (25, 0, 0, [], 105)) none) (cond (Nat.ble pc 105) (cond (Nat.beq pc 105) (some (40, 174, 147, [], 108)) none) (cond (Nat.beq pc 108) (some (41, 0, 0, [], 109)) none))))) (cond (Nat.ble pc 116) (cond (Nat.ble pc 113) (cond (Nat.ble pc 109) (cond (Nat.beq pc 109) (some (2, 0, 0, [], 110)) none) (cond (Nat.ble pc 110) (cond (Nat.beq pc 110) (some (22, 0, 7, [8], 113)) none) (cond (Nat.beq pc 113) (some (0, 3, 0, [], 114)) none))) (cond (Nat.ble pc 114) (cond (Nat.beq pc 114) (some (25, 0, 0, [], 115)) none) (cond (Nat.ble pc 115) (cond (Nat.beq pc 115) (some (41, 0, 0, [], 116)) none) (cond (Nat.beq pc 116) (some (2, 0, 0, [], 117)) none)))) (cond (Nat.ble pc 121) (cond (Nat.ble pc 117) (cond (Nat.beq pc 117) (some (21, 2, 43, [8], 120)) none) (cond (Nat.ble pc 120) (cond (Nat.beq pc 120) (some (41, 0, 0, [], 121)) none) (cond (Nat.beq pc 121) (some (2, 0, 0, [], 122)) none))) (cond (Nat.ble pc 125) (cond (Nat.ble pc 122) (cond (Nat.beq pc 122) (some (21, 5, 104, [8], 125)) none) (cond (Nat.beq pc 125) (some (41, 0, 0, [], 126)) none)) (cond (Nat.ble pc 126) (cond (Nat.beq pc 126) (some (0, (-1), 0, [], 127)) none) (cond (Nat.beq pc 127) (some (41, 0, 0, [], 128)) none))))))) none
def qc149 (pc : Nat) : Option qX := cond (Nat.ble pc 33) (cond (Nat.ble pc 14) (cond (Nat.ble pc 4) (cond (Nat.ble pc 1) (cond (Nat.ble pc 0) (cond (Nat.beq pc 0) (some (0, 0, 0, [], 1)) none) (cond (Nat.beq pc 1) (some (3, 0, 2, [], 2)) none)) (cond (Nat.ble pc 2) (cond (Nat.beq pc 2) (some (0, 0, 0, [], 3)) none) (cond (Nat.ble pc 3) (cond (Nat.beq pc 3) (some (3, 0, 3, [], 4)) none) (cond (Nat.beq pc 4) (some (1, 0, 3, [], 5)) none)))) (cond (Nat.ble pc 7) (cond (Nat.ble pc 5) (cond (Nat.beq pc 5) (some (2, 0, 0, [], 6)) none) (cond (Nat.ble pc 6) (cond (Nat.beq pc 6) (some (2, 0, 0, [], 7)) none) (cond (Nat.beq pc 7) (some (1, 0, 1, [], 8)) none))) (cond (Nat.ble pc 8) (cond (Nat.beq pc 8) (some (40, 55, 109, [], 11)) none) (cond (Nat.ble pc 11) (cond (Nat.beq pc 11) (some (40, 66, 116, [], 14)) none) (cond (Nat.beq pc 14) (some (16, 3, 32, [], 17)) none))))) (cond (Nat.ble pc 21) (cond (Nat.ble pc 18) (cond (Nat.ble pc 17) (cond (Nat.beq pc 17) (some (1, 0, 2, [], 18)) none) (cond (Nat.beq pc 18) (some (2, 0, 0, [], 19)) none)) (cond (Nat.ble pc 19) (cond (Nat.beq pc 19) (some (1, 0, 1, [], 20)) none) (cond (Nat.ble pc 20) (cond (Nat.beq pc 20) (some (1, 0, 3, [], 21)) none) (cond (Nat.beq pc 21) (some (40, 89, 111, [], 24)) none)))) (cond (Nat.ble pc 26) (cond (Nat.ble pc 24) (cond (Nat.beq pc 24) (some (6, 0, 0, [], 25)) none) (cond (Nat.ble pc 25) (cond (Nat.beq pc 25) (some (3, 0, 2, [], 26)) none) (cond (Nat.beq pc 26) (some (5, 1, 3, [], 29)) none))) (cond (Nat.ble pc 29) (cond (Nat.beq pc 29) (some (15, 0, 4, [], 32)) none) (cond (Nat.ble pc 32) (cond (Nat.beq pc 32) (some (1, 0, 2, [], 33)) none) (cond (Nat.beq pc 33) (some (41, 0, 0, [], 34)) none)))))) none
def qc150 (pc : Nat) : Option qX := cond (Nat.ble pc 87) (cond (Nat.ble pc 40) (cond (Nat.ble pc 19) (cond (Nat.ble pc 9) (cond (Nat.ble pc 2) (cond (Nat.ble pc 0) (cond (Nat.beq pc 0) (some (2, 0, 0, [], 1)) none) (cond (Nat.ble pc 1) (cond (Nat.beq pc 1) (some (1, 0, 1, [], 2)) none) (cond (Nat.beq pc 2) (some (40, 150, 110, [], 5)) none))) (cond (Nat.ble pc 5) (cond (Nat.beq pc 5) (some (17, 0, 17, [], 8)) none) (cond (Nat.ble pc 8) (cond (Nat.beq pc 8) (some (1, 0, 2, [], 9)) none) (cond (Nat.beq pc 9) (some (0, 0, 0, [], 10)) none)))) (cond (Nat.ble pc 14) (cond (Nat.ble pc 10) (cond (Nat.beq pc 10) (some (0, 4, 0, [], 11)) none) (cond (Nat.ble pc 11) (cond (Nat.beq pc 11) (some (40, 51, 104, [], 14)) none) (cond (Nat.beq pc 14) (some (17, 1, 19, [], 17)) none))) (cond (Nat.ble pc 17) (cond (Nat.beq pc 17) (some (0, (-1), 0, [], 18)) none) (cond (Nat.ble pc 18) (cond (Nat.beq pc 18) (some (41, 0, 0, [], 19)) none) (cond (Nat.beq pc 19) (some (2, 0, 0, [], 20)) none))))) (cond (Nat.ble pc 27) (cond (Nat.ble pc 24) (cond (Nat.ble pc 20) (cond (Nat.beq pc 20) (some (1, 0, 1, [], 21)) none) (cond (Nat.ble pc 21) (cond (Nat.beq pc 21) (some (40, 55, 109, [], 24)) none) (cond (Nat.beq pc 24) (some (3, 0, 3, [], 25)) none))) (cond (Nat.ble pc 25) (cond (Nat.beq pc 25) (some (1, 0, 2, [], 26)) none) (cond (Nat.ble pc 26) (cond (Nat.beq pc 26) (some (0, 3, 0, [], 27)) none) (cond (Nat.beq pc 27) (some (16, 1, 36, [], 30)) none)))) (cond (Nat.ble pc 32) (cond (Nat.ble pc 30) (cond (Nat.beq pc 30) (some (2, 0, 0, [], 31)) none) (cond (Nat.ble pc 31) (cond (Nat.beq pc 31) (some (1, 0, 3, [], 32)) none) (cond (Nat.beq pc 32) (some (1, 0, 1, [], 33)) none))) (cond (Nat.ble pc 36) (cond (Nat.ble pc 33) (cond (Nat.beq pc 33) (some (40, 177, 126, [], 36)) none) (cond (Nat.beq pc 36) (some (1, 0, 2, [], 37)) none)) (cond (Nat.ble pc 37) (cond (Nat.beq pc 37) (some (17, 1, 44, [], 40)) none) (cond (Nat.beq pc 40) (some (1, 0, 3, [], 41)) none)))))) (cond (Nat.ble pc 62) (cond (Nat.ble pc 50) (cond (Nat.ble pc 45) (cond (Nat.ble pc 41) (cond (Nat.beq pc 41) (some (15, 0, 87, [], 44)) none) (cond (Nat.ble pc 44) (cond (Nat.beq pc 44) (some (1, 0, 2, [], 45)) none) (cond (Nat.beq pc 45) (some (0, 1, 0, [], 46)) none))) (cond (Nat.ble pc 46) (cond (Nat.beq pc 46) (some (16, 1, 57, [], 49)) none) (cond (Nat.ble pc 49) (cond (Nat.beq pc 49) (some (2, 0, 0, [], 50)) none) (cond (Nat.beq pc 50) (some (1, 0, 3, [], 51)) none)))) (cond (Nat.ble pc 57) (cond (Nat.ble pc 51) (cond (Nat.beq pc 51) (some (40, 66, 116, [], 54)) none) (cond (Nat.ble pc 54) (cond (Nat.beq pc 54) (some (15, 0, 87, [], 57)) none) (cond (Nat.beq pc 57) (some (1, 0, 2, [], 58)) none))) (cond (Nat.ble pc 58) (cond (Nat.beq pc 58) (some (0, 2, 0, [], 59)) none) (cond (Nat.ble pc 59) (cond (Nat.beq pc 59) (some (16, 1, 70, [], 62)) none) (cond (Nat.beq pc 62) (some (2, 0, 0, [], 63)) none))))) (cond (Nat.ble pc 72) (cond (Nat.ble pc 67) (cond (Nat.ble pc 63) (cond (Nat.beq pc 63) (some (1, 0, 3, [], 64)) none) (cond (Nat.ble pc 64) (cond (Nat.beq pc 64) (some (40, 181, 117, [], 67)) none) (cond (Nat.beq pc 67) (some (15, 0, 87, [], 70)) none))) (cond (Nat.ble pc 70) (cond (Nat.beq pc 70) (some (1, 0, 2, [], 71)) none) (cond (Nat.ble pc 71) (cond (Nat.beq pc 71) (some (0, 3, 0, [], 72)) none) (cond (Nat.beq pc 72) (some (16, 1, 82, [], 75)) none)))) (cond (Nat.ble pc 79) (cond (Nat.ble pc 75) (cond (Nat.beq pc 75) (some (2, 0, 0, [], 76)) none) (cond (Nat.ble pc 76) (cond (Nat.beq pc 76) (some (21, 7, 76, [8], 79)) none) (cond (Nat.beq pc 79) (some (15, 0, 87, [], 82)) none))) (cond (Nat.ble pc 83) (cond (Nat.ble pc 82) (cond (Nat.beq pc 82) (some (2, 0, 0, [], 83)) none) (cond (Nat.beq pc 83) (some (1, 0, 1, [], 84)) none)) (cond (Nat.ble pc 84) (cond (Nat.beq pc 84) (some (40, 184, 149, [], 87)) none) (cond (Nat.beq pc 87) (some (41, 0, 0, [], 88)) none))))))) none
def qc151 (pc : Nat) : Option qX := cond (Nat.ble pc 43) (cond (Nat.ble pc 17) (cond (Nat.ble pc 9) (cond (Nat.ble pc 2) (cond (Nat.ble pc 0) (cond (Nat.beq pc 0) (some (2, 0, 0, [], 1)) none) (cond (Nat.ble pc 1) (cond (Nat.beq pc 1) (some (1, 0, 1, [], 2)) none) (cond (Nat.beq pc 2) (some (40, 150, 110, [], 5)) none))) (cond (Nat.ble pc 5) (cond (Nat.beq pc 5) (some (17, 0, 12, [], 8)) none) (cond (Nat.ble pc 8) (cond (Nat.beq pc 8) (some (1, 0, 2, [], 9)) none) (cond (Nat.beq pc 9) (some (17, 3, 14, [], 12)) none)))) (cond (Nat.ble pc 14) (cond (Nat.ble pc 12) (cond (Nat.beq pc 12) (some (0, (-1), 0, [], 13)) none) (cond (Nat.ble pc 13) (cond (Nat.beq pc 13) (some (41, 0, 0, [], 14)) none) (cond (Nat.beq pc 14) (some (2, 0, 0, [], 15)) none))) (cond (Nat.ble pc 15) (cond (Nat.beq pc 15) (some (2, 0, 0, [], 16)) none) (cond (Nat.ble pc 16) (cond (Nat.beq pc 16) (some (1, 0, 1, [], 17)) none) (cond (Nat.beq pc 17) (some (40, 55, 109, [], 20)) none))))) (cond (Nat.ble pc 29) (cond (Nat.ble pc 24) (cond (Nat.ble pc 20) (cond (Nat.beq pc 20) (some (1, 0, 1, [], 21)) none) (cond (Nat.ble pc 21) (cond (Nat.beq pc 21) (some (40, 177, 126, [], 24)) none) (cond (Nat.beq pc 24) (some (1, 0, 2, [], 25)) none))) (cond (Nat.ble pc 25) (cond (Nat.beq pc 25) (some (2, 0, 0, [], 26)) none) (cond (Nat.ble pc 26) (cond (Nat.beq pc 26) (some (21, 7, 76, [8], 29)) none) (cond (Nat.beq pc 29) (some (16, 3, 41, [], 32)) none)))) (cond (Nat.ble pc 36) (cond (Nat.ble pc 32) (cond (Nat.beq pc 32) (some (2, 0, 0, [], 33)) none) (cond (Nat.ble pc 33) (cond (Nat.beq pc 33) (some (22, 6, 22, [8], 36)) none) (cond (Nat.beq pc 36) (some (1, 0, 2, [], 37)) none))) (cond (Nat.ble pc 38) (cond (Nat.ble pc 37) (cond (Nat.beq pc 37) (some (25, 0, 0, [], 38)) none) (cond (Nat.beq pc 38) (some (15, 0, 43, [], 41)) none)) (cond (Nat.ble pc 41) (cond (Nat.beq pc 41) (some (0, (-9), 0, [], 43)) none) (cond (Nat.beq pc 43) (some (41, 0, 0, [], 44)) none)))))) none
def qc152 (pc : Nat) : Option qX := cond (Nat.ble pc 46) (cond (Nat.ble pc 20) (cond (Nat.ble pc 9) (cond (Nat.ble pc 2) (cond (Nat.ble pc 0) (cond (Nat.beq pc 0) (some (2, 0, 0, [], 1)) none) (cond (Nat.ble pc 1) (cond (Nat.beq pc 1) (some (1, 0, 1, [], 2)) none) (cond (Nat.beq pc 2) (some (40, 150, 110, [], 5)) none))) (cond (Nat.ble pc 5) (cond (Nat.beq pc 5) (some (17, 0, 16, [], 8)) none) (cond (Nat.ble pc 8) (cond (Nat.beq pc 8) (some (2, 0, 0, [], 9)) none) (cond (Nat.beq pc 9) (some (1, 0, 2, [], 10)) none)))) (cond (Nat.ble pc 16) (cond (Nat.ble pc 10) (cond (Nat.beq pc 10) (some (40, 156, 107, [], 13)) none) (cond (Nat.ble pc 13) (cond (Nat.beq pc 13) (some (17, 1, 18, [], 16)) none) (cond (Nat.beq pc 16) (some (0, (-1), 0, [], 17)) none))) (cond (Nat.ble pc 18) (cond (Nat.ble pc 17) (cond (Nat.beq pc 17) (some (41, 0, 0, [], 18)) none) (cond (Nat.beq pc 18) (some (2, 0, 0, [], 19)) none)) (cond (Nat.ble pc 19) (cond (Nat.beq pc 19) (some (2, 0, 0, [], 20)) none) (cond (Nat.beq pc 20) (some (1, 0, 1, [], 21)) none))))) (cond (Nat.ble pc 32) (cond (Nat.ble pc 25) (cond (Nat.ble pc 21) (cond (Nat.beq pc 21) (some (40, 55, 109, [], 24)) none) (cond (Nat.ble pc 24) (cond (Nat.beq pc 24) (some (1, 0, 2, [], 25)) none) (cond (Nat.beq pc 25) (some (40, 159, 118, [], 28)) none))) (cond (Nat.ble pc 29) (cond (Nat.ble pc 28) (cond (Nat.beq pc 28) (some (3, 0, 3, [], 29)) none) (cond (Nat.beq pc 29) (some (1, 0, 3, [], 30)) none)) (cond (Nat.ble pc 30) (cond (Nat.beq pc 30) (some (0, (-9), 0, [], 32)) none) (cond (Nat.beq pc 32) (some (16, 1, 40, [], 35)) none)))) (cond (Nat.ble pc 40) (cond (Nat.ble pc 35) (cond (Nat.beq pc 35) (some (0, (-9), 0, [], 37)) none) (cond (Nat.ble pc 37) (cond (Nat.beq pc 37) (some (15, 0, 46, [], 40)) none) (cond (Nat.beq pc 40) (some (2, 0, 0, [], 41)) none))) (cond (Nat.ble pc 42) (cond (Nat.ble pc 41) (cond (Nat.beq pc 41) (some (1, 0, 1, [], 42)) none) (cond (Nat.beq pc 42) (some (1, 0, 3, [], 43)) none)) (cond (Nat.ble pc 43) (cond (Nat.beq pc 43) (some (40, 89, 111, [], 46)) none) (cond (Nat.beq pc 46) (some (41, 0, 0, [], 47)) none)))))) none
def qc153 (pc : Nat) : Option qX := cond (Nat.ble pc 149) (cond (Nat.ble pc 71) (cond (Nat.ble pc 32) (cond (Nat.ble pc 12) (cond (Nat.ble pc 3) (cond (Nat.ble pc 1) (cond (Nat.ble pc 0) (cond (Nat.beq pc 0) (some (0, 0, 0, [], 1)) none) (cond (Nat.beq pc 1) (some (3, 0, 3, [], 2)) none)) (cond (Nat.ble pc 2) (cond (Nat.beq pc 2) (some (0, 0, 0, [], 3)) none) (cond (Nat.beq pc 3) (some (3, 0, 4, [], 5)) none))) (cond (Nat.ble pc 7) (cond (Nat.ble pc 5) (cond (Nat.beq pc 5) (some (1, 0, 4, [], 7)) none) (cond (Nat.beq pc 7) (some (2, 0, 0, [], 8)) none)) (cond (Nat.ble pc 8) (cond (Nat.beq pc 8) (some (22, 0, 7, [8], 11)) none) (cond (Nat.ble pc 11) (cond (Nat.beq pc 11) (some (0, 0, 0, [], 12)) none) (cond (Nat.beq pc 12) (some (25, 0, 0, [], 13)) none))))) (cond (Nat.ble pc 22) (cond (Nat.ble pc 16) (cond (Nat.ble pc 13) (cond (Nat.beq pc 13) (some (16, 3, 148, [], 16)) none) (cond (Nat.beq pc 16) (some (2, 0, 0, [], 17)) none)) (cond (Nat.ble pc 17) (cond (Nat.beq pc 17) (some (1, 0, 4, [], 19)) none) (cond (Nat.ble pc 19) (cond (Nat.beq pc 19) (some (40, 55, 109, [], 22)) none) (cond (Nat.beq pc 22) (some (3, 0, 5, [], 24)) none)))) (cond (Nat.ble pc 26) (cond (Nat.ble pc 24) (cond (Nat.beq pc 24) (some (1, 0, 5, [], 26)) none) (cond (Nat.beq pc 26) (some (0, (-9), 0, [], 28)) none)) (cond (Nat.ble pc 28) (cond (Nat.beq pc 28) (some (16, 0, 142, [], 31)) none) (cond (Nat.ble pc 31) (cond (Nat.beq pc 31) (some (2, 0, 0, [], 32)) none) (cond (Nat.beq pc 32) (some (1, 0, 5, [], 34)) none)))))) (cond (Nat.ble pc 49) (cond (Nat.ble pc 41) (cond (Nat.ble pc 35) (cond (Nat.ble pc 34) (cond (Nat.beq pc 34) (some (1, 0, 1, [], 35)) none) (cond (Nat.beq pc 35) (some (40, 159, 118, [], 38)) none)) (cond (Nat.ble pc 38) (cond (Nat.beq pc 38) (some (3, 0, 6, [], 40)) none) (cond (Nat.ble pc 40) (cond (Nat.beq pc 40) (some (2, 0, 0, [], 41)) none) (cond (Nat.beq pc 41) (some (1, 0, 5, [], 43)) none)))) (cond (Nat.ble pc 44) (cond (Nat.ble pc 43) (cond (Nat.beq pc 43) (some (2, 0, 0, [], 44)) none) (cond (Nat.beq pc 44) (some (22, 0, 7, [8], 47)) none)) (cond (Nat.ble pc 47) (cond (Nat.beq pc 47) (some (0, 3, 0, [], 48)) none) (cond (Nat.ble pc 48) (cond (Nat.beq pc 48) (some (25, 0, 0, [], 49)) none) (cond (Nat.beq pc 49) (some (40, 72, 121, [], 52)) none))))) (cond (Nat.ble pc 62) (cond (Nat.ble pc 55) (cond (Nat.ble pc 52) (cond (Nat.beq pc 52) (some (17, 0, 70, [], 55)) none) (cond (Nat.beq pc 55) (some (1, 0, 6, [], 57)) none)) (cond (Nat.ble pc 57) (cond (Nat.beq pc 57) (some (0, (-9), 0, [], 59)) none) (cond (Nat.ble pc 59) (cond (Nat.beq pc 59) (some (16, 1, 66, [], 62)) none) (cond (Nat.beq pc 62) (some (0, 0, 0, [], 63)) none)))) (cond (Nat.ble pc 66) (cond (Nat.ble pc 63) (cond (Nat.beq pc 63) (some (15, 0, 76, [], 66)) none) (cond (Nat.beq pc 66) (some (0, 1, 0, [], 67)) none)) (cond (Nat.ble pc 67) (cond (Nat.beq pc 67) (some (15, 0, 76, [], 70)) none) (cond (Nat.ble pc 70) (cond (Nat.beq pc 70) (some (2, 0, 0, [], 71)) none) (cond (Nat.beq pc 71) (some (1, 0, 5, [], 73)) none))))))) (cond (Nat.ble pc 109) (cond (Nat.ble pc 90) (cond (Nat.ble pc 80) (cond (Nat.ble pc 76) (cond (Nat.ble pc 73) (cond (Nat.beq pc 73) (some (40, 59, 114, [], 76)) none) (cond (Nat.beq pc 76) (some (3, 0, 7, [], 78)) none)) (cond (Nat.ble pc 78) (cond (Nat.beq pc 78) (some (1, 0, 3, [], 79)) none) (cond (Nat.ble pc 79) (cond (Nat.beq pc 79) (some (1, 0, 2, [], 80)) none) (cond (Nat.beq pc 80) (some (0, 5, 0, [], 81)) none)))) (cond (Nat.ble pc 84) (cond (Nat.ble pc 81) (cond (Nat.beq pc 81) (some (16, 1, 89, [], 84)) none) (cond (Nat.beq pc 84) (some (1, 0, 7, [], 86)) none)) (cond (Nat.ble pc 86) (cond (Nat.beq pc 86) (some (15, 0, 140, [], 89)) none) (cond (Nat.ble pc 89) (cond (Nat.beq pc 89) (some (1, 0, 2, [], 90)) none) (cond (Nat.beq pc 90) (some (0, 3, 0, [], 91)) none))))) (cond (Nat.ble pc 98) (cond (Nat.ble pc 94) (cond (Nat.ble pc 91) (cond (Nat.beq pc 91) (some (16, 1, 112, [], 94)) none) (cond (Nat.beq pc 94) (some (2, 0, 0, [], 95)) none)) (cond (Nat.ble pc 95) (cond (Nat.beq pc 95) (some (1, 0, 5, [], 97)) none) (cond (Nat.ble pc 97) (cond (Nat.beq pc 97) (some (1, 0, 1, [], 98)) none) (cond (Nat.beq pc 98) (some (40, 162, 119, [], 101)) none)))) (cond (Nat.ble pc 104) (cond (Nat.ble pc 101) (cond (Nat.beq pc 101) (some (17, 0, 108, [], 104)) none) (cond (Nat.beq pc 104) (some (0, 1, 0, [], 105)) none)) (cond (Nat.ble pc 105) (cond (Nat.beq pc 105) (some (15, 0, 140, [], 108)) none) (cond (Nat.ble pc 108) (cond (Nat.beq pc 108) (some (0, 0, 0, [], 109)) none) (cond (Nat.beq pc 109) (some (15, 0, 140, [], 112)) none)))))) (cond (Nat.ble pc 129) (cond (Nat.ble pc 120) (cond (Nat.ble pc 114) (cond (Nat.ble pc 112) (cond (Nat.beq pc 112) (some (1, 0, 6, [], 114)) none) (cond (Nat.beq pc 114) (some (0, (-9), 0, [], 116)) none)) (cond (Nat.ble pc 116) (cond (Nat.beq pc 116) (some (16, 1, 123, [], 119)) none) (cond (Nat.ble pc 119) (cond (Nat.beq pc 119) (some (0, 0, 0, [], 120)) none) (cond (Nat.beq pc 120) (some (15, 0, 140, [], 123)) none)))) (cond (Nat.ble pc 124) (cond (Nat.ble pc 123) (cond (Nat.beq pc 123) (some (1, 0, 2, [], 124)) none) (cond (Nat.beq pc 124) (some (0, 2, 0, [], 125)) none)) (cond (Nat.ble pc 125) (cond (Nat.beq pc 125) (some (16, 1, 132, [], 128)) none) (cond (Nat.ble pc 128) (cond (Nat.beq pc 128) (some (0, 1, 0, [], 129)) none) (cond (Nat.beq pc 129) (some (15, 0, 140, [], 132)) none))))) (cond (Nat.ble pc 140) (cond (Nat.ble pc 133) (cond (Nat.ble pc 132) (cond (Nat.beq pc 132) (some (2, 0, 0, [], 133)) none) (cond (Nat.beq pc 133) (some (1, 0, 4, [], 135)) none)) (cond (Nat.ble pc 135) (cond (Nat.beq pc 135) (some (1, 0, 6, [], 137)) none) (cond (Nat.ble pc 137) (cond (Nat.beq pc 137) (some (40, 89, 111, [], 140)) none) (cond (Nat.beq pc 140) (some (6, 0, 0, [], 141)) none)))) (cond (Nat.ble pc 142) (cond (Nat.ble pc 141) (cond (Nat.beq pc 141) (some (3, 0, 3, [], 142)) none) (cond (Nat.beq pc 142) (some (5, 1, 4, [], 145)) none)) (cond (Nat.ble pc 145) (cond (Nat.beq pc 145) (some (15, 0, 5, [], 148)) none) (cond (Nat.ble pc 148) (cond (Nat.beq pc 148) (some (1, 0, 3, [], 149)) none) (cond (Nat.beq pc 149) (some (41, 0, 0, [], 150)) none)))))))) none
def qc154 (pc : Nat) : Option qX := cond (Nat.ble pc 50) (cond (Nat.ble pc 23) (cond (Nat.ble pc 10) (cond (Nat.ble pc 2) (cond (Nat.ble pc 0) (cond (Nat.beq pc 0) (some (2, 0, 0, [], 1)) none) (cond (Nat.ble pc 1) (cond (Nat.beq pc 1) (some (1, 0, 1, [], 2)) none) (cond (Nat.beq pc 2) (some (40, 156, 107, [], 5)) none))) (cond (Nat.ble pc 8) (cond (Nat.ble pc 5) (cond (Nat.beq pc 5) (some (17, 0, 17, [], 8)) none) (cond (Nat.beq pc 8) (some (1, 0, 2, [], 9)) none)) (cond (Nat.ble pc 9) (cond (Nat.beq pc 9) (some (0, 0, 0, [], 10)) none) (cond (Nat.beq pc 10) (some (0, 5, 0, [], 11)) none)))) (cond (Nat.ble pc 17) (cond (Nat.ble pc 11) (cond (Nat.beq pc 11) (some (40, 51, 104, [], 14)) none) (cond (Nat.ble pc 14) (cond (Nat.beq pc 14) (some (17, 1, 19, [], 17)) none) (cond (Nat.beq pc 17) (some (0, (-1), 0, [], 18)) none))) (cond (Nat.ble pc 19) (cond (Nat.ble pc 18) (cond (Nat.beq pc 18) (some (41, 0, 0, [], 19)) none) (cond (Nat.beq pc 19) (some (1, 0, 2, [], 20)) none)) (cond (Nat.ble pc 20) (cond (Nat.beq pc 20) (some (17, 1, 31, [], 23)) none) (cond (Nat.beq pc 23) (some (2, 0, 0, [], 24)) none))))) (cond (Nat.ble pc 36) (cond (Nat.ble pc 28) (cond (Nat.ble pc 24) (cond (Nat.beq pc 24) (some (1, 0, 1, [], 25)) none) (cond (Nat.ble pc 25) (cond (Nat.beq pc 25) (some (40, 86, 112, [], 28)) none) (cond (Nat.beq pc 28) (some (15, 0, 50, [], 31)) none))) (cond (Nat.ble pc 32) (cond (Nat.ble pc 31) (cond (Nat.beq pc 31) (some (1, 0, 2, [], 32)) none) (cond (Nat.beq pc 32) (some (0, 1, 0, [], 33)) none)) (cond (Nat.ble pc 33) (cond (Nat.beq pc 33) (some (16, 1, 44, [], 36)) none) (cond (Nat.beq pc 36) (some (2, 0, 0, [], 37)) none)))) (cond (Nat.ble pc 44) (cond (Nat.ble pc 38) (cond (Nat.ble pc 37) (cond (Nat.beq pc 37) (some (1, 0, 1, [], 38)) none) (cond (Nat.beq pc 38) (some (40, 83, 113, [], 41)) none)) (cond (Nat.ble pc 41) (cond (Nat.beq pc 41) (some (15, 0, 50, [], 44)) none) (cond (Nat.beq pc 44) (some (2, 0, 0, [], 45)) none))) (cond (Nat.ble pc 46) (cond (Nat.ble pc 45) (cond (Nat.beq pc 45) (some (1, 0, 1, [], 46)) none) (cond (Nat.beq pc 46) (some (1, 0, 2, [], 47)) none)) (cond (Nat.ble pc 47) (cond (Nat.beq pc 47) (some (40, 187, 153, [], 50)) none) (cond (Nat.beq pc 50) (some (41, 0, 0, [], 51)) none)))))) none
def qc155 (pc : Nat) : Option qX := cond (Nat.ble pc 101) (cond (Nat.ble pc 64) (cond (Nat.ble pc 18) (cond (Nat.ble pc 8) (cond (Nat.ble pc 1) (cond (Nat.ble pc 0) (cond (Nat.beq pc 0) (some (2, 0, 0, [], 1)) none) (cond (Nat.beq pc 1) (some (1, 0, 1, [], 2)) none)) (cond (Nat.ble pc 2) (cond (Nat.beq pc 2) (some (40, 190, 108, [], 5)) none) (cond (Nat.ble pc 5) (cond (Nat.beq pc 5) (some (17, 0, 17, [], 8)) none) (cond (Nat.beq pc 8) (some (1, 0, 2, [], 9)) none)))) (cond (Nat.ble pc 11) (cond (Nat.ble pc 9) (cond (Nat.beq pc 9) (some (0, 0, 0, [], 10)) none) (cond (Nat.ble pc 10) (cond (Nat.beq pc 10) (some (0, 4, 0, [], 11)) none) (cond (Nat.beq pc 11) (some (40, 51, 104, [], 14)) none))) (cond (Nat.ble pc 14) (cond (Nat.beq pc 14) (some (17, 1, 19, [], 17)) none) (cond (Nat.ble pc 17) (cond (Nat.beq pc 17) (some (0, (-1), 0, [], 18)) none) (cond (Nat.beq pc 18) (some (41, 0, 0, [], 19)) none))))) (cond (Nat.ble pc 54) (cond (Nat.ble pc 20) (cond (Nat.ble pc 19) (cond (Nat.beq pc 19) (some (1, 0, 2, [], 20)) none) (cond (Nat.beq pc 20) (some (20, 0, 90, [52, 58, 78, 84], 52)) none)) (cond (Nat.ble pc 52) (cond (Nat.beq pc 52) (some (2, 0, 0, [], 53)) none) (cond (Nat.ble pc 53) (cond (Nat.beq pc 53) (some (1, 0, 1, [], 54)) none) (cond (Nat.beq pc 54) (some (40, 69, 120, [], 57)) none)))) (cond (Nat.ble pc 59) (cond (Nat.ble pc 57) (cond (Nat.beq pc 57) (some (41, 0, 0, [], 58)) none) (cond (Nat.ble pc 58) (cond (Nat.beq pc 58) (some (2, 0, 0, [], 59)) none) (cond (Nat.beq pc 59) (some (1, 0, 1, [], 60)) none))) (cond (Nat.ble pc 60) (cond (Nat.beq pc 60) (some (2, 0, 0, [], 61)) none) (cond (Nat.ble pc 61) (cond (Nat.beq pc 61) (some (22, 0, 7, [8], 64)) none) (cond (Nat.beq pc 64) (some (0, 3, 0, [], 65)) none)))))) (cond (Nat.ble pc 83) (cond (Nat.ble pc 73) (cond (Nat.ble pc 66) (cond (Nat.ble pc 65) (cond (Nat.beq pc 65) (some (25, 0, 0, [], 66)) none) (cond (Nat.beq pc 66) (some (40, 72, 121, [], 69)) none)) (cond (Nat.ble pc 69) (cond (Nat.beq pc 69) (some (17, 0, 76, [], 72)) none) (cond (Nat.ble pc 72) (cond (Nat.beq pc 72) (some (0, 1, 0, [], 73)) none) (cond (Nat.beq pc 73) (some (15, 0, 77, [], 76)) none)))) (cond (Nat.ble pc 78) (cond (Nat.ble pc 76) (cond (Nat.beq pc 76) (some (0, 0, 0, [], 77)) none) (cond (Nat.ble pc 77) (cond (Nat.beq pc 77) (some (41, 0, 0, [], 78)) none) (cond (Nat.beq pc 78) (some (2, 0, 0, [], 79)) none))) (cond (Nat.ble pc 79) (cond (Nat.beq pc 79) (some (1, 0, 1, [], 80)) none) (cond (Nat.ble pc 80) (cond (Nat.beq pc 80) (some (40, 66, 116, [], 83)) none) (cond (Nat.beq pc 83) (some (41, 0, 0, [], 84)) none))))) (cond (Nat.ble pc 90) (cond (Nat.ble pc 85) (cond (Nat.ble pc 84) (cond (Nat.beq pc 84) (some (2, 0, 0, [], 85)) none) (cond (Nat.beq pc 85) (some (1, 0, 1, [], 86)) none)) (cond (Nat.ble pc 86) (cond (Nat.beq pc 86) (some (40, 181, 117, [], 89)) none) (cond (Nat.ble pc 89) (cond (Nat.beq pc 89) (some (41, 0, 0, [], 90)) none) (cond (Nat.beq pc 90) (some (2, 0, 0, [], 91)) none)))) (cond (Nat.ble pc 94) (cond (Nat.ble pc 91) (cond (Nat.beq pc 91) (some (1, 0, 1, [], 92)) none) (cond (Nat.ble pc 92) (cond (Nat.beq pc 92) (some (0, (-9), 0, [], 94)) none) (cond (Nat.beq pc 94) (some (40, 177, 126, [], 97)) none))) (cond (Nat.ble pc 97) (cond (Nat.beq pc 97) (some (2, 0, 0, [], 98)) none) (cond (Nat.ble pc 98) (cond (Nat.beq pc 98) (some (21, 7, 76, [8], 101)) none) (cond (Nat.beq pc 101) (some (41, 0, 0, [], 102)) none))))))) none
def qc156 (pc : Nat) : Option qX := cond (Nat.ble pc 95) (cond (Nat.ble pc 43) (cond (Nat.ble pc 20) (cond (Nat.ble pc 9) (cond (Nat.ble pc 2) (cond (Nat.ble pc 0) (cond (Nat.beq pc 0) (some (2, 0, 0, [], 1)) none) (cond (Nat.ble pc 1) (cond (Nat.beq pc 1) (some (1, 0, 1, [], 2)) none) (cond (Nat.beq pc 2) (some (40, 190, 108, [], 5)) none))) (cond (Nat.ble pc 5) (cond (Nat.beq pc 5) (some (17, 0, 16, [], 8)) none) (cond (Nat.ble pc 8) (cond (Nat.beq pc 8) (some (1, 0, 2, [], 9)) none) (cond (Nat.beq pc 9) (some (17, 2, 16, [], 12)) none)))) (cond (Nat.ble pc 16) (cond (Nat.ble pc 12) (cond (Nat.beq pc 12) (some (1, 0, 3, [], 13)) none) (cond (Nat.ble pc 13) (cond (Nat.beq pc 13) (some (17, 3, 18, [], 16)) none) (cond (Nat.beq pc 16) (some (0, (-1), 0, [], 17)) none))) (cond (Nat.ble pc 18) (cond (Nat.ble pc 17) (cond (Nat.beq pc 17) (some (41, 0, 0, [], 18)) none) (cond (Nat.beq pc 18) (some (2, 0, 0, [], 19)) none)) (cond (Nat.ble pc 19) (cond (Nat.beq pc 19) (some (1, 0, 1, [], 20)) none) (cond (Nat.beq pc 20) (some (2, 0, 0, [], 21)) none))))) (cond (Nat.ble pc 32) (cond (Nat.ble pc 25) (cond (Nat.ble pc 21) (cond (Nat.beq pc 21) (some (22, 0, 7, [8], 24)) none) (cond (Nat.ble pc 24) (cond (Nat.beq pc 24) (some (0, 3, 0, [], 25)) none) (cond (Nat.beq pc 25) (some (25, 0, 0, [], 26)) none))) (cond (Nat.ble pc 26) (cond (Nat.beq pc 26) (some (40, 72, 121, [], 29)) none) (cond (Nat.ble pc 29) (cond (Nat.beq pc 29) (some (17, 1, 35, [], 32)) none) (cond (Nat.beq pc 32) (some (0, (-2), 0, [], 34)) none)))) (cond (Nat.ble pc 36) (cond (Nat.ble pc 34) (cond (Nat.beq pc 34) (some (41, 0, 0, [], 35)) none) (cond (Nat.ble pc 35) (cond (Nat.beq pc 35) (some (1, 0, 3, [], 36)) none) (cond (Nat.beq pc 36) (some (3, 0, 4, [], 38)) none))) (cond (Nat.ble pc 39) (cond (Nat.ble pc 38) (cond (Nat.beq pc 38) (some (0, 0, 0, [], 39)) none) (cond (Nat.beq pc 39) (some (3, 0, 5, [], 41)) none)) (cond (Nat.ble pc 41) (cond (Nat.beq pc 41) (some (1, 0, 5, [], 43)) none) (cond (Nat.beq pc 43) (some (2, 0, 0, [], 44)) none)))))) (cond (Nat.ble pc 67) (cond (Nat.ble pc 53) (cond (Nat.ble pc 48) (cond (Nat.ble pc 44) (cond (Nat.beq pc 44) (some (22, 0, 7, [8], 47)) none) (cond (Nat.ble pc 47) (cond (Nat.beq pc 47) (some (0, 0, 0, [], 48)) none) (cond (Nat.beq pc 48) (some (25, 0, 0, [], 49)) none))) (cond (Nat.ble pc 49) (cond (Nat.beq pc 49) (some (16, 3, 93, [], 52)) none) (cond (Nat.ble pc 52) (cond (Nat.beq pc 52) (some (1, 0, 2, [], 53)) none) (cond (Nat.beq pc 53) (some (2, 0, 0, [], 54)) none)))) (cond (Nat.ble pc 58) (cond (Nat.ble pc 54) (cond (Nat.beq pc 54) (some (1, 0, 1, [], 55)) none) (cond (Nat.ble pc 55) (cond (Nat.beq pc 55) (some (40, 66, 116, [], 58)) none) (cond (Nat.beq pc 58) (some (16, 3, 93, [], 61)) none))) (cond (Nat.ble pc 62) (cond (Nat.ble pc 61) (cond (Nat.beq pc 61) (some (2, 0, 0, [], 62)) none) (cond (Nat.beq pc 62) (some (1, 0, 5, [], 64)) none)) (cond (Nat.ble pc 64) (cond (Nat.beq pc 64) (some (40, 55, 109, [], 67)) none) (cond (Nat.beq pc 67) (some (1, 0, 1, [], 68)) none))))) (cond (Nat.ble pc 79) (cond (Nat.ble pc 73) (cond (Nat.ble pc 68) (cond (Nat.beq pc 68) (some (16, 1, 87, [], 71)) none) (cond (Nat.ble pc 71) (cond (Nat.beq pc 71) (some (1, 0, 4, [], 73)) none) (cond (Nat.beq pc 73) (some (17, 1, 84, [], 76)) none))) (cond (Nat.ble pc 76) (cond (Nat.beq pc 76) (some (2, 0, 0, [], 77)) none) (cond (Nat.ble pc 77) (cond (Nat.beq pc 77) (some (1, 0, 5, [], 79)) none) (cond (Nat.beq pc 79) (some (1, 0, 2, [], 80)) none)))) (cond (Nat.ble pc 84) (cond (Nat.ble pc 80) (cond (Nat.beq pc 80) (some (40, 89, 111, [], 83)) none) (cond (Nat.ble pc 83) (cond (Nat.beq pc 83) (some (41, 0, 0, [], 84)) none) (cond (Nat.beq pc 84) (some (5, (-1), 4, [], 87)) none))) (cond (Nat.ble pc 90) (cond (Nat.ble pc 87) (cond (Nat.beq pc 87) (some (5, 1, 5, [], 90)) none) (cond (Nat.beq pc 90) (some (15, 0, 41, [], 93)) none)) (cond (Nat.ble pc 93) (cond (Nat.beq pc 93) (some (0, (-9), 0, [], 95)) none) (cond (Nat.beq pc 95) (some (41, 0, 0, [], 96)) none))))))) none
def qc157 (pc : Nat) : Option qX := cond (Nat.ble pc 34) (cond (Nat.ble pc 15) (cond (Nat.ble pc 8) (cond (Nat.ble pc 1) (cond (Nat.ble pc 0) (cond (Nat.beq pc 0) (some (2, 0, 0, [], 1)) none) (cond (Nat.beq pc 1) (some (1, 0, 1, [], 2)) none)) (cond (Nat.ble pc 2) (cond (Nat.beq pc 2) (some (40, 190, 108, [], 5)) none) (cond (Nat.ble pc 5) (cond (Nat.beq pc 5) (some (17, 0, 12, [], 8)) none) (cond (Nat.beq pc 8) (some (1, 0, 2, [], 9)) none)))) (cond (Nat.ble pc 12) (cond (Nat.ble pc 9) (cond (Nat.beq pc 9) (some (17, 3, 14, [], 12)) none) (cond (Nat.beq pc 12) (some (0, (-1), 0, [], 13)) none)) (cond (Nat.ble pc 13) (cond (Nat.beq pc 13) (some (41, 0, 0, [], 14)) none) (cond (Nat.ble pc 14) (cond (Nat.beq pc 14) (some (1, 0, 2, [], 15)) none) (cond (Nat.beq pc 15) (some (2, 0, 0, [], 16)) none))))) (cond (Nat.ble pc 24) (cond (Nat.ble pc 17) (cond (Nat.ble pc 16) (cond (Nat.beq pc 16) (some (1, 0, 1, [], 17)) none) (cond (Nat.beq pc 17) (some (40, 59, 114, [], 20)) none)) (cond (Nat.ble pc 20) (cond (Nat.beq pc 20) (some (16, 3, 32, [], 23)) none) (cond (Nat.ble pc 23) (cond (Nat.beq pc 23) (some (2, 0, 0, [], 24)) none) (cond (Nat.beq pc 24) (some (1, 0, 1, [], 25)) none)))) (cond (Nat.ble pc 26) (cond (Nat.ble pc 25) (cond (Nat.beq pc 25) (some (1, 0, 2, [], 26)) none) (cond (Nat.beq pc 26) (some (40, 62, 115, [], 29)) none)) (cond (Nat.ble pc 29) (cond (Nat.beq pc 29) (some (15, 0, 34, [], 32)) none) (cond (Nat.ble pc 32) (cond (Nat.beq pc 32) (some (0, (-9), 0, [], 34)) none) (cond (Nat.beq pc 34) (some (41, 0, 0, [], 35)) none)))))) none
def qc158 (pc : Nat) : Option qX := cond (Nat.ble pc 19) (cond (Nat.ble pc 7) (cond (Nat.ble pc 1) (cond (Nat.ble pc 0) (cond (Nat.beq pc 0) (some (1, 0, 1, [], 1)) none) (cond (Nat.beq pc 1) (some (0, 1, 0, [], 2)) none)) (cond (Nat.ble pc 2) (cond (Nat.beq pc 2) (some (0, 10, 0, [], 4)) none) (cond (Nat.ble pc 4) (cond (Nat.beq pc 4) (some (40, 51, 104, [], 7)) none) (cond (Nat.beq pc 7) (some (17, 0, 18, [], 10)) none)))) (cond (Nat.ble pc 12) (cond (Nat.ble pc 10) (cond (Nat.beq pc 10) (some (2, 0, 0, [], 11)) none) (cond (Nat.ble pc 11) (cond (Nat.beq pc 11) (some (1, 0, 1, [], 12)) none) (cond (Nat.beq pc 12) (some (40, 174, 147, [], 15)) none))) (cond (Nat.ble pc 15) (cond (Nat.beq pc 15) (some (15, 0, 19, [], 18)) none) (cond (Nat.ble pc 18) (cond (Nat.beq pc 18) (some (0, (-1), 0, [], 19)) none) (cond (Nat.beq pc 19) (some (41, 0, 0, [], 20)) none))))) none
def qc159 (pc : Nat) : Option qX := cond (Nat.ble pc 36) (cond (Nat.ble pc 15) (cond (Nat.ble pc 4) (cond (Nat.ble pc 1) (cond (Nat.ble pc 0) (cond (Nat.beq pc 0) (some (0, 1, 0, [], 1)) none) (cond (Nat.beq pc 1) (some (3, 0, 1, [], 2)) none)) (cond (Nat.ble pc 2) (cond (Nat.beq pc 2) (some (0, 2, 0, [], 3)) none) (cond (Nat.ble pc 3) (cond (Nat.beq pc 3) (some (3, 0, 2, [], 4)) none) (cond (Nat.beq pc 4) (some (1, 0, 2, [], 5)) none)))) (cond (Nat.ble pc 10) (cond (Nat.ble pc 5) (cond (Nat.beq pc 5) (some (0, 11, 0, [], 7)) none) (cond (Nat.ble pc 7) (cond (Nat.beq pc 7) (some (16, 3, 35, [], 10)) none) (cond (Nat.beq pc 10) (some (2, 0, 0, [], 11)) none))) (cond (Nat.ble pc 11) (cond (Nat.beq pc 11) (some (1, 0, 2, [], 12)) none) (cond (Nat.ble pc 12) (cond (Nat.beq pc 12) (some (40, 174, 147, [], 15)) none) (cond (Nat.beq pc 15) (some (2, 0, 0, [], 16)) none))))) (cond (Nat.ble pc 24) (cond (Nat.ble pc 17) (cond (Nat.ble pc 16) (cond (Nat.beq pc 16) (some (1, 0, 1, [], 17)) none) (cond (Nat.beq pc 17) (some (40, 174, 147, [], 20)) none)) (cond (Nat.ble pc 20) (cond (Nat.beq pc 20) (some (16, 3, 27, [], 23)) none) (cond (Nat.ble pc 23) (cond (Nat.beq pc 23) (some (1, 0, 2, [], 24)) none) (cond (Nat.beq pc 24) (some (15, 0, 28, [], 27)) none)))) (cond (Nat.ble pc 29) (cond (Nat.ble pc 27) (cond (Nat.beq pc 27) (some (1, 0, 1, [], 28)) none) (cond (Nat.ble pc 28) (cond (Nat.beq pc 28) (some (3, 0, 1, [], 29)) none) (cond (Nat.beq pc 29) (some (5, 1, 2, [], 32)) none))) (cond (Nat.ble pc 32) (cond (Nat.beq pc 32) (some (15, 0, 4, [], 35)) none) (cond (Nat.ble pc 35) (cond (Nat.beq pc 35) (some (1, 0, 1, [], 36)) none) (cond (Nat.beq pc 36) (some (41, 0, 0, [], 37)) none)))))) none
def qc160 (pc : Nat) : Option qX := cond (Nat.ble pc 73) (cond (Nat.ble pc 34) (cond (Nat.ble pc 14) (cond (Nat.ble pc 4) (cond (Nat.ble pc 1) (cond (Nat.ble pc 0) (cond (Nat.beq pc 0) (some (0, 0, 0, [], 1)) none) (cond (Nat.beq pc 1) (some (3, 0, 3, [], 2)) none)) (cond (Nat.ble pc 2) (cond (Nat.beq pc 2) (some (2, 0, 0, [], 3)) none) (cond (Nat.ble pc 3) (cond (Nat.beq pc 3) (some (1, 0, 1, [], 4)) none) (cond (Nat.beq pc 4) (some (40, 55, 109, [], 7)) none)))) (cond (Nat.ble pc 9) (cond (Nat.ble pc 7) (cond (Nat.beq pc 7) (some (3, 0, 4, [], 9)) none) (cond (Nat.beq pc 9) (some (0, 0, 0, [], 10)) none)) (cond (Nat.ble pc 10) (cond (Nat.beq pc 10) (some (3, 0, 5, [], 12)) none) (cond (Nat.ble pc 12) (cond (Nat.beq pc 12) (some (1, 0, 5, [], 14)) none) (cond (Nat.beq pc 14) (some (2, 0, 0, [], 15)) none))))) (cond (Nat.ble pc 24) (cond (Nat.ble pc 17) (cond (Nat.ble pc 15) (cond (Nat.beq pc 15) (some (1, 0, 4, [], 17)) none) (cond (Nat.beq pc 17) (some (40, 59, 114, [], 20)) none)) (cond (Nat.ble pc 20) (cond (Nat.beq pc 20) (some (16, 3, 72, [], 23)) none) (cond (Nat.ble pc 23) (cond (Nat.beq pc 23) (some (1, 0, 3, [], 24)) none) (cond (Nat.beq pc 24) (some (2, 0, 0, [], 25)) none)))) (cond (Nat.ble pc 27) (cond (Nat.ble pc 25) (cond (Nat.beq pc 25) (some (1, 0, 4, [], 27)) none) (cond (Nat.beq pc 27) (some (1, 0, 5, [], 29)) none)) (cond (Nat.ble pc 29) (cond (Nat.beq pc 29) (some (40, 62, 115, [], 32)) none) (cond (Nat.ble pc 32) (cond (Nat.beq pc 32) (some (0, 100, 0, [], 34)) none) (cond (Nat.beq pc 34) (some (16, 3, 63, [], 37)) none)))))) (cond (Nat.ble pc 54) (cond (Nat.ble pc 43) (cond (Nat.ble pc 38) (cond (Nat.ble pc 37) (cond (Nat.beq pc 37) (some (2, 0, 0, [], 38)) none) (cond (Nat.beq pc 38) (some (2, 0, 0, [], 39)) none)) (cond (Nat.ble pc 39) (cond (Nat.beq pc 39) (some (1, 0, 2, [], 40)) none) (cond (Nat.ble pc 40) (cond (Nat.beq pc 40) (some (40, 55, 109, [], 43)) none) (cond (Nat.beq pc 43) (some (2, 0, 0, [], 44)) none)))) (cond (Nat.ble pc 46) (cond (Nat.ble pc 44) (cond (Nat.beq pc 44) (some (1, 0, 4, [], 46)) none) (cond (Nat.beq pc 46) (some (1, 0, 5, [], 48)) none)) (cond (Nat.ble pc 48) (cond (Nat.beq pc 48) (some (40, 62, 115, [], 51)) none) (cond (Nat.ble pc 51) (cond (Nat.beq pc 51) (some (40, 159, 118, [], 54)) none) (cond (Nat.beq pc 54) (some (0, (-9), 0, [], 56)) none))))) (cond (Nat.ble pc 64) (cond (Nat.ble pc 59) (cond (Nat.ble pc 56) (cond (Nat.beq pc 56) (some (16, 0, 63, [], 59)) none) (cond (Nat.beq pc 59) (some (0, 1, 0, [], 60)) none)) (cond (Nat.ble pc 60) (cond (Nat.beq pc 60) (some (15, 0, 64, [], 63)) none) (cond (Nat.ble pc 63) (cond (Nat.beq pc 63) (some (0, 0, 0, [], 64)) none) (cond (Nat.beq pc 64) (some (6, 0, 0, [], 65)) none)))) (cond (Nat.ble pc 66) (cond (Nat.ble pc 65) (cond (Nat.beq pc 65) (some (3, 0, 3, [], 66)) none) (cond (Nat.beq pc 66) (some (5, 1, 5, [], 69)) none)) (cond (Nat.ble pc 69) (cond (Nat.beq pc 69) (some (15, 0, 12, [], 72)) none) (cond (Nat.ble pc 72) (cond (Nat.beq pc 72) (some (1, 0, 3, [], 73)) none) (cond (Nat.beq pc 73) (some (41, 0, 0, [], 74)) none))))))) none
def qc161 (pc : Nat) : Option qX := cond (Nat.ble pc 105) (cond (Nat.ble pc 47) (cond (Nat.ble pc 20) (cond (Nat.ble pc 10) (cond (Nat.ble pc 2) (cond (Nat.ble pc 0) (cond (Nat.beq pc 0) (some (2, 0, 0, [], 1)) none) (cond (Nat.ble pc 1) (cond (Nat.beq pc 1) (some (1, 0, 1, [], 2)) none) (cond (Nat.beq pc 2) (some (40, 150, 110, [], 5)) none))) (cond (Nat.ble pc 8) (cond (Nat.ble pc 5) (cond (Nat.beq pc 5) (some (17, 1, 10, [], 8)) none) (cond (Nat.beq pc 8) (some (0, (-1), 0, [], 9)) none)) (cond (Nat.ble pc 9) (cond (Nat.beq pc 9) (some (41, 0, 0, [], 10)) none) (cond (Nat.beq pc 10) (some (0, (-9), 0, [], 12)) none)))) (cond (Nat.ble pc 14) (cond (Nat.ble pc 12) (cond (Nat.beq pc 12) (some (3, 0, 2, [], 13)) none) (cond (Nat.ble pc 13) (cond (Nat.beq pc 13) (some (0, 0, 0, [], 14)) none) (cond (Nat.beq pc 14) (some (3, 0, 3, [], 15)) none))) (cond (Nat.ble pc 16) (cond (Nat.ble pc 15) (cond (Nat.beq pc 15) (some (0, 0, 0, [], 16)) none) (cond (Nat.beq pc 16) (some (3, 0, 4, [], 18)) none)) (cond (Nat.ble pc 18) (cond (Nat.beq pc 18) (some (1, 0, 4, [], 20)) none) (cond (Nat.beq pc 20) (some (2, 0, 0, [], 21)) none))))) (cond (Nat.ble pc 32) (cond (Nat.ble pc 25) (cond (Nat.ble pc 21) (cond (Nat.beq pc 21) (some (22, 0, 7, [8], 24)) none) (cond (Nat.ble pc 24) (cond (Nat.beq pc 24) (some (0, 0, 0, [], 25)) none) (cond (Nat.beq pc 25) (some (25, 0, 0, [], 26)) none))) (cond (Nat.ble pc 29) (cond (Nat.ble pc 26) (cond (Nat.beq pc 26) (some (16, 3, 104, [], 29)) none) (cond (Nat.beq pc 29) (some (1, 0, 4, [], 31)) none)) (cond (Nat.ble pc 31) (cond (Nat.beq pc 31) (some (1, 0, 1, [], 32)) none) (cond (Nat.beq pc 32) (some (16, 0, 98, [], 35)) none)))) (cond (Nat.ble pc 38) (cond (Nat.ble pc 35) (cond (Nat.beq pc 35) (some (2, 0, 0, [], 36)) none) (cond (Nat.ble pc 36) (cond (Nat.beq pc 36) (some (1, 0, 4, [], 38)) none) (cond (Nat.beq pc 38) (some (40, 55, 109, [], 41)) none))) (cond (Nat.ble pc 43) (cond (Nat.ble pc 41) (cond (Nat.beq pc 41) (some (0, (-9), 0, [], 43)) none) (cond (Nat.beq pc 43) (some (16, 0, 98, [], 46)) none)) (cond (Nat.ble pc 46) (cond (Nat.beq pc 46) (some (2, 0, 0, [], 47)) none) (cond (Nat.beq pc 47) (some (1, 0, 1, [], 48)) none)))))) (cond (Nat.ble pc 74) (cond (Nat.ble pc 61) (cond (Nat.ble pc 53) (cond (Nat.ble pc 48) (cond (Nat.beq pc 48) (some (1, 0, 4, [], 50)) none) (cond (Nat.ble pc 50) (cond (Nat.beq pc 50) (some (40, 193, 160, [], 53)) none) (cond (Nat.beq pc 53) (some (3, 0, 5, [], 55)) none))) (cond (Nat.ble pc 56) (cond (Nat.ble pc 55) (cond (Nat.beq pc 55) (some (1, 0, 2, [], 56)) none) (cond (Nat.beq pc 56) (some (0, (-9), 0, [], 58)) none)) (cond (Nat.ble pc 58) (cond (Nat.beq pc 58) (some (16, 0, 67, [], 61)) none) (cond (Nat.beq pc 61) (some (1, 0, 5, [], 63)) none)))) (cond (Nat.ble pc 67) (cond (Nat.ble pc 63) (cond (Nat.beq pc 63) (some (1, 0, 3, [], 64)) none) (cond (Nat.ble pc 64) (cond (Nat.beq pc 64) (some (16, 5, 71, [], 67)) none) (cond (Nat.beq pc 67) (some (0, 1, 0, [], 68)) none))) (cond (Nat.ble pc 71) (cond (Nat.ble pc 68) (cond (Nat.beq pc 68) (some (15, 0, 72, [], 71)) none) (cond (Nat.beq pc 71) (some (0, 0, 0, [], 72)) none)) (cond (Nat.ble pc 72) (cond (Nat.beq pc 72) (some (3, 0, 6, [], 74)) none) (cond (Nat.beq pc 74) (some (1, 0, 6, [], 76)) none))))) (cond (Nat.ble pc 88) (cond (Nat.ble pc 81) (cond (Nat.ble pc 76) (cond (Nat.beq pc 76) (some (17, 0, 84, [], 79)) none) (cond (Nat.ble pc 79) (cond (Nat.beq pc 79) (some (1, 0, 4, [], 81)) none) (cond (Nat.beq pc 81) (some (15, 0, 85, [], 84)) none))) (cond (Nat.ble pc 85) (cond (Nat.ble pc 84) (cond (Nat.beq pc 84) (some (1, 0, 2, [], 85)) none) (cond (Nat.beq pc 85) (some (3, 0, 2, [], 86)) none)) (cond (Nat.ble pc 86) (cond (Nat.beq pc 86) (some (1, 0, 6, [], 88)) none) (cond (Nat.beq pc 88) (some (17, 0, 96, [], 91)) none)))) (cond (Nat.ble pc 97) (cond (Nat.ble pc 93) (cond (Nat.ble pc 91) (cond (Nat.beq pc 91) (some (1, 0, 5, [], 93)) none) (cond (Nat.beq pc 93) (some (15, 0, 97, [], 96)) none)) (cond (Nat.ble pc 96) (cond (Nat.beq pc 96) (some (1, 0, 3, [], 97)) none) (cond (Nat.beq pc 97) (some (3, 0, 3, [], 98)) none))) (cond (Nat.ble pc 101) (cond (Nat.ble pc 98) (cond (Nat.beq pc 98) (some (5, 1, 4, [], 101)) none) (cond (Nat.beq pc 101) (some (15, 0, 18, [], 104)) none)) (cond (Nat.ble pc 104) (cond (Nat.beq pc 104) (some (1, 0, 2, [], 105)) none) (cond (Nat.beq pc 105) (some (41, 0, 0, [], 106)) none))))))) none
def qcd (m pc : Nat) : Option qX := cond (Nat.ble m 80) (cond (Nat.ble m 39) (cond (Nat.ble m 19) (cond (Nat.ble m 9) (cond (Nat.ble m 4) (cond (Nat.ble m 1) (cond (Nat.ble m 0) (cond (Nat.beq m 0) (qc0 pc) (none)) (cond (Nat.beq m 1) (qc1 pc) (none))) (cond (Nat.ble m 2) (cond (Nat.beq m 2) (qc2 pc) (none)) (cond (Nat.ble m 3) (cond (Nat.beq m 3) (qc3 pc) (none)) (cond (Nat.beq m 4) (qc4 pc) (none))))) (cond (Nat.ble m 6) (cond (Nat.ble m 5) (cond (Nat.beq m 5) (qc5 pc) (none)) (cond (Nat.beq m 6) (qc6 pc) (none))) (cond (Nat.ble m 7) (cond (Nat.beq m 7) (qc7 pc) (none)) (cond (Nat.ble m 8) (cond (Nat.beq m 8) (qc8 pc) (none)) (cond (Nat.beq m 9) (qc9 pc) (none)))))) (cond (Nat.ble m 14) (cond (Nat.ble m 11) (cond (Nat.ble m 10) (cond (Nat.beq m 10) (qc10 pc) (none)) (cond (Nat.beq m 11) (qc11 pc) (none))) (cond (Nat.ble m 12) (cond (Nat.beq m 12) (qc12 pc) (none)) (cond (Nat.ble m 13) (cond (Nat.beq m 13) (qc13 pc) (none)) (cond (Nat.beq m 14) (qc14 pc) (none))))) (cond (Nat.ble m 16) (cond (Nat.ble m 15) (cond (Nat.beq m 15) (qc15 pc) (none)) (cond (Nat.beq m 16) (qc16 pc) (none))) (cond (Nat.ble m 17) (cond (Nat.beq m 17) (qc17 pc) (none)) (cond (Nat.ble m 18) (cond (Nat.beq m 18) (qc18 pc) (none)) (cond (Nat.beq m 19) (qc19 pc) (none))))))) (cond (Nat.ble m 29) (cond (Nat.ble m 24) (cond (Nat.ble m 21) (cond (Nat.ble m 20) (cond (Nat.beq m 20) (qc20 pc) (none)) (cond (Nat.beq m 21) (qc21 pc) (none))) (cond (Nat.ble m 22) (cond (Nat.beq m 22) (qc22 pc) (none)) (cond (Nat.ble m 23) (cond (Nat.beq m 23) (qc23 pc) (none)) (cond (Nat.beq m 24) (qc24 pc) (none))))) (cond (Nat.ble m 26) (cond (Nat.ble m 25) (cond (Nat.beq m 25) (qc25 pc) (none)) (cond (Nat.beq m 26) (qc26 pc) (none))) (cond (Nat.ble m 27) (cond (Nat.beq m 27) (qc27 pc) (none)) (cond (Nat.ble m 28) (cond (Nat.beq m 28) (qc28 pc) (none)) (cond (Nat.beq m 29) (qc29 pc) (none)))))) (cond (Nat.ble m 34) (cond (Nat.ble m 31) (cond (Nat.ble m 30) (cond (Nat.beq m 30) (qc30 pc) (none)) (cond (Nat.beq m 31) (qc31 pc) (none))) (cond (Nat.ble m 32) (cond (Nat.beq m 32) (qc32 pc) (none)) (cond (Nat.ble m 33) (cond (Nat.beq m 33) (qc33 pc) (none)) (cond (Nat.beq m 34) (qc34 pc) (none))))) (cond (Nat.ble m 36) (cond (Nat.ble m 35) (cond (Nat.beq m 35) (qc35 pc) (none)) (cond (Nat.beq m 36) (qc36 pc) (none))) (cond (Nat.ble m 37) (cond (Nat.beq m 37) (qc37 pc) (none)) (cond (Nat.ble m 38) (cond (Nat.beq m 38) (qc38 pc) (none)) (cond (Nat.beq m 39) (qc39 pc) (none)))))))) (cond (Nat.ble m 59) (cond (Nat.ble m 49) (cond (Nat.ble m 44) (cond (Nat.ble m 41) (cond (Nat.ble m 40) (cond (Nat.beq m 40) (qc40 pc) (none)) (cond (Nat.beq m 41) (qc41 pc) (none))) (cond (Nat.ble m 42) (cond (Nat.beq m 42) (qc42 pc) (none)) (cond (Nat.ble m 43) (cond (Nat.beq m 43) (qc43 pc) (none)) (cond (Nat.beq m 44) (qc44 pc) (none))))) (cond (Nat.ble m 46) (cond (Nat.ble m 45) (cond (Nat.beq m 45) (qc45 pc) (none)) (cond (Nat.beq m 46) (qc46 pc) (none))) (cond (Nat.ble m 47) (cond (Nat.beq m 47) (qc47 pc) (none)) (cond (Nat.ble m 48) (cond (Nat.beq m 48) (qc48 pc) (none)) (cond (Nat.beq m 49) (qc49 pc) (none)))))) (cond (Nat.ble m 54) (cond (Nat.ble m 51) (cond (Nat.ble m 50) (cond (Nat.beq m 50) (qc50 pc) (none)) (cond (Nat.beq m 51) (qc51 pc) (none))) (cond (Nat.ble m 52) (cond (Nat.beq m 52) (qc52 pc) (none)) (cond (Nat.ble m 53) (cond (Nat.beq m 53) (qc53 pc) (none)) (cond (Nat.beq m 54) (qc54 pc) (none))))) (cond (Nat.ble m 56) (cond (Nat.ble m 55) (cond (Nat.beq m 55) (qc55 pc) (none)) (cond (Nat.beq m 56) (qc56 pc) (none))) (cond (Nat.ble m 57) (cond (Nat.beq m 57) (qc57 pc) (none)) (cond (Nat.ble m 58) (cond (Nat.beq m 58) (qc58 pc) (none)) (cond (Nat.beq m 59) (qc59 pc) (none))))))) (cond (Nat.ble m 69) (cond (Nat.ble m 64) (cond (Nat.ble m 61) (cond (Nat.ble m 60) (cond (Nat.beq m 60) (qc60 pc) (none)) (cond (Nat.beq m 61) (qc61 pc) (none))) (cond (Nat.ble m 62) (cond (Nat.beq m 62) (qc62 pc) (none)) (cond (Nat.ble m 63) (cond (Nat.beq m 63) (qc63 pc) (none)) (cond (Nat.beq m 64) (qc64 pc) (none))))) (cond (Nat.ble m 66) (cond (Nat.ble m 65) (cond (Nat.beq m 65) (qc65 pc) (none)) (cond (Nat.beq m 66) (qc66 pc) (none))) (cond (Nat.ble m 67) (cond (Nat.beq m 67) (qc67 pc) (none)) (cond (Nat.ble m 68) (cond (Nat.beq m 68) (qc68 pc) (none)) (cond (Nat.beq m 69) (qc69 pc) (none)))))) (cond (Nat.ble m 74) (cond (Nat.ble m 71) (cond (Nat.ble m 70) (cond (Nat.beq m 70) (qc70 pc) (none)) (cond (Nat.beq m 71) (qc71 pc) (none))) (cond (Nat.ble m 72) (cond (Nat.beq m 72) (qc72 pc) (none)) (cond (Nat.ble m 73) (cond (Nat.beq m 73) (qc73 pc) (none)) (cond (Nat.beq m 74) (qc74 pc) (none))))) (cond (Nat.ble m 77) (cond (Nat.ble m 75) (cond (Nat.beq m 75) (qc75 pc) (none)) (cond (Nat.ble m 76) (cond (Nat.beq m 76) (qc76 pc) (none)) (cond (Nat.beq m 77) (qc77 pc) (none)))) (cond (Nat.ble m 78) (cond (Nat.beq m 78) (qc78 pc) (none)) (cond (Nat.ble m 79) (cond (Nat.beq m 79) (qc79 pc) (none)) (cond (Nat.beq m 80) (qc80 pc) (none))))))))) (cond (Nat.ble m 120) (cond (Nat.ble m 100) (cond (Nat.ble m 90) (cond (Nat.ble m 85) (cond (Nat.ble m 82) (cond (Nat.ble m 81) (cond (Nat.beq m 81) (qc81 pc) (none)) (cond (Nat.beq m 82) (qc82 pc) (none))) (cond (Nat.ble m 83) (cond (Nat.beq m 83) (qc83 pc) (none)) (cond (Nat.ble m 84) (cond (Nat.beq m 84) (qc84 pc) (none)) (cond (Nat.beq m 85) (qc85 pc) (none))))) (cond (Nat.ble m 87) (cond (Nat.ble m 86) (cond (Nat.beq m 86) (qc86 pc) (none)) (cond (Nat.beq m 87) (qc87 pc) (none))) (cond (Nat.ble m 88) (cond (Nat.beq m 88) (qc88 pc) (none)) (cond (Nat.ble m 89) (cond (Nat.beq m 89) (qc89 pc) (none)) (cond (Nat.beq m 90) (qc90 pc) (none)))))) (cond (Nat.ble m 95) (cond (Nat.ble m 92) (cond (Nat.ble m 91) (cond (Nat.beq m 91) (qc91 pc) (none)) (cond (Nat.beq m 92) (qc92 pc) (none))) (cond (Nat.ble m 93) (cond (Nat.beq m 93) (qc93 pc) (none)) (cond (Nat.ble m 94) (cond (Nat.beq m 94) (qc94 pc) (none)) (cond (Nat.beq m 95) (qc95 pc) (none))))) (cond (Nat.ble m 97) (cond (Nat.ble m 96) (cond (Nat.beq m 96) (qc96 pc) (none)) (cond (Nat.beq m 97) (qc97 pc) (none))) (cond (Nat.ble m 98) (cond (Nat.beq m 98) (qc98 pc) (none)) (cond (Nat.ble m 99) (cond (Nat.beq m 99) (qc99 pc) (none)) (cond (Nat.beq m 100) (qc100 pc) (none))))))) (cond (Nat.ble m 110) (cond (Nat.ble m 105) (cond (Nat.ble m 102) (cond (Nat.ble m 101) (cond (Nat.beq m 101) (qc101 pc) (none)) (cond (Nat.beq m 102) (qc102 pc) (none))) (cond (Nat.ble m 103) (cond (Nat.beq m 103) (qc103 pc) (none)) (cond (Nat.ble m 104) (cond (Nat.beq m 104) (qc104 pc) (none)) (cond (Nat.beq m 105) (qc105 pc) (none))))) (cond (Nat.ble m 107) (cond (Nat.ble m 106) (cond (Nat.beq m 106) (qc106 pc) (none)) (cond (Nat.beq m 107) (qc107 pc) (none))) (cond (Nat.ble m 108) (cond (Nat.beq m 108) (qc108 pc) (none)) (cond (Nat.ble m 109) (cond (Nat.beq m 109) (qc109 pc) (none)) (cond (Nat.beq m 110) (qc110 pc) (none)))))) (cond (Nat.ble m 115) (cond (Nat.ble m 112) (cond (Nat.ble m 111) (cond (Nat.beq m 111) (qc111 pc) (none)) (cond (Nat.beq m 112) (qc112 pc) (none))) (cond (Nat.ble m 113) (cond (Nat.beq m 113) (qc113 pc) (none)) (cond (Nat.ble m 114) (cond (Nat.beq m 114) (qc114 pc) (none)) (cond (Nat.beq m 115) (qc115 pc) (none))))) (cond (Nat.ble m 117) (cond (Nat.ble m 116) (cond (Nat.beq m 116) (qc116 pc) (none)) (cond (Nat.beq m 117) (qc117 pc) (none))) (cond (Nat.ble m 118) (cond (Nat.beq m 118) (qc118 pc) (none)) (cond (Nat.ble m 119) (cond (Nat.beq m 119) (qc119 pc) (none)) (cond (Nat.beq m 120) (qc120 pc) (none)))))))) (cond (Nat.ble m 140) (cond (Nat.ble m 130) (cond (Nat.ble m 125) (cond (Nat.ble m 122) (cond (Nat.ble m 121) (cond (Nat.beq m 121) (qc121 pc) (none)) (cond (Nat.beq m 122) (qc122 pc) (none))) (cond (Nat.ble m 123) (cond (Nat.beq m 123) (qc123 pc) (none)) (cond (Nat.ble m 124) (cond (Nat.beq m 124) (qc124 pc) (none)) (cond (Nat.beq m 125) (qc125 pc) (none))))) (cond (Nat.ble m 127) (cond (Nat.ble m 126) (cond (Nat.beq m 126) (qc126 pc) (none)) (cond (Nat.beq m 127) (qc127 pc) (none))) (cond (Nat.ble m 128) (cond (Nat.beq m 128) (qc128 pc) (none)) (cond (Nat.ble m 129) (cond (Nat.beq m 129) (qc129 pc) (none)) (cond (Nat.beq m 130) (qc130 pc) (none)))))) (cond (Nat.ble m 135) (cond (Nat.ble m 132) (cond (Nat.ble m 131) (cond (Nat.beq m 131) (qc131 pc) (none)) (cond (Nat.beq m 132) (qc132 pc) (none))) (cond (Nat.ble m 133) (cond (Nat.beq m 133) (qc133 pc) (none)) (cond (Nat.ble m 134) (cond (Nat.beq m 134) (qc134 pc) (none)) (cond (Nat.beq m 135) (qc135 pc) (none))))) (cond (Nat.ble m 137) (cond (Nat.ble m 136) (cond (Nat.beq m 136) (qc136 pc) (none)) (cond (Nat.beq m 137) (qc137 pc) (none))) (cond (Nat.ble m 138) (cond (Nat.beq m 138) (qc138 pc) (none)) (cond (Nat.ble m 139) (cond (Nat.beq m 139) (qc139 pc) (none)) (cond (Nat.beq m 140) (qc140 pc) (none))))))) (cond (Nat.ble m 150) (cond (Nat.ble m 145) (cond (Nat.ble m 142) (cond (Nat.ble m 141) (cond (Nat.beq m 141) (qc141 pc) (none)) (cond (Nat.beq m 142) (qc142 pc) (none))) (cond (Nat.ble m 143) (cond (Nat.beq m 143) (qc143 pc) (none)) (cond (Nat.ble m 144) (cond (Nat.beq m 144) (qc144 pc) (none)) (cond (Nat.beq m 145) (qc145 pc) (none))))) (cond (Nat.ble m 147) (cond (Nat.ble m 146) (cond (Nat.beq m 146) (qc146 pc) (none)) (cond (Nat.beq m 147) (qc147 pc) (none))) (cond (Nat.ble m 148) (cond (Nat.beq m 148) (qc148 pc) (none)) (cond (Nat.ble m 149) (cond (Nat.beq m 149) (qc149 pc) (none)) (cond (Nat.beq m 150) (qc150 pc) (none)))))) (cond (Nat.ble m 155) (cond (Nat.ble m 152) (cond (Nat.ble m 151) (cond (Nat.beq m 151) (qc151 pc) (none)) (cond (Nat.beq m 152) (qc152 pc) (none))) (cond (Nat.ble m 153) (cond (Nat.beq m 153) (qc153 pc) (none)) (cond (Nat.ble m 154) (cond (Nat.beq m 154) (qc154 pc) (none)) (cond (Nat.beq m 155) (qc155 pc) (none))))) (cond (Nat.ble m 158) (cond (Nat.ble m 156) (cond (Nat.beq m 156) (qc156 pc) (none)) (cond (Nat.ble m 157) (cond (Nat.beq m 157) (qc157 pc) (none)) (cond (Nat.beq m 158) (qc158 pc) (none)))) (cond (Nat.ble m 159) (cond (Nat.beq m 159) (qc159 pc) (none)) (cond (Nat.ble m 160) (cond (Nat.beq m 160) (qc160 pc) (none)) (cond (Nat.beq m 161) (qc161 pc) (none)))))))))
/-- arguments (receiver counted), locals, kind (0 static, 1 virtual, 2 a constructor), class, what it returns (0 nothing, 1 int, 2 boolean, 3 a reference) -/
def qmi (m : Nat) : Nat × Nat × Nat × Nat × Nat := cond (Nat.ble m 80) (cond (Nat.ble m 39) (cond (Nat.ble m 19) (cond (Nat.ble m 9) (cond (Nat.ble m 4) (cond (Nat.ble m 1) (cond (Nat.ble m 0) (cond (Nat.beq m 0) ((1, 1, 2, 0, 0)) ((0, 0, 3, 0, 0))) (cond (Nat.beq m 1) ((1, 1, 1, 0, 0)) ((0, 0, 3, 0, 0)))) (cond (Nat.ble m 2) (cond (Nat.beq m 2) ((2, 2, 1, 0, 0)) ((0, 0, 3, 0, 0))) (cond (Nat.ble m 3) (cond (Nat.beq m 3) ((2, 2, 1, 0, 0)) ((0, 0, 3, 0, 0))) (cond (Nat.beq m 4) ((1, 1, 1, 0, 1)) ((0, 0, 3, 0, 0)))))) (cond (Nat.ble m 6) (cond (Nat.ble m 5) (cond (Nat.beq m 5) ((1, 1, 1, 0, 1)) ((0, 0, 3, 0, 0))) (cond (Nat.beq m 6) ((1, 1, 1, 0, 1)) ((0, 0, 3, 0, 0)))) (cond (Nat.ble m 7) (cond (Nat.beq m 7) ((2, 2, 1, 0, 1)) ((0, 0, 3, 0, 0))) (cond (Nat.ble m 8) (cond (Nat.beq m 8) ((2, 2, 1, 0, 2)) ((0, 0, 3, 0, 0))) (cond (Nat.beq m 9) ((2, 3, 1, 0, 1)) ((0, 0, 3, 0, 0))))))) (cond (Nat.ble m 14) (cond (Nat.ble m 11) (cond (Nat.ble m 10) (cond (Nat.beq m 10) ((2, 3, 1, 0, 2)) ((0, 0, 3, 0, 0))) (cond (Nat.beq m 11) ((2, 4, 1, 0, 1)) ((0, 0, 3, 0, 0)))) (cond (Nat.ble m 12) (cond (Nat.beq m 12) ((2, 3, 1, 0, 2)) ((0, 0, 3, 0, 0))) (cond (Nat.ble m 13) (cond (Nat.beq m 13) ((2, 4, 1, 0, 1)) ((0, 0, 3, 0, 0))) (cond (Nat.beq m 14) ((1, 2, 2, 1, 0)) ((0, 0, 3, 0, 0)))))) (cond (Nat.ble m 16) (cond (Nat.ble m 15) (cond (Nat.beq m 15) ((1, 1, 1, 1, 1)) ((0, 0, 3, 0, 0))) (cond (Nat.beq m 16) ((2, 3, 1, 1, 0)) ((0, 0, 3, 0, 0)))) (cond (Nat.ble m 17) (cond (Nat.beq m 17) ((1, 3, 1, 1, 0)) ((0, 0, 3, 0, 0))) (cond (Nat.ble m 18) (cond (Nat.beq m 18) ((2, 3, 1, 1, 0)) ((0, 0, 3, 0, 0))) (cond (Nat.beq m 19) ((1, 1, 2, 2, 0)) ((0, 0, 3, 0, 0)))))))) (cond (Nat.ble m 29) (cond (Nat.ble m 24) (cond (Nat.ble m 21) (cond (Nat.ble m 20) (cond (Nat.beq m 20) ((1, 1, 1, 2, 1)) ((0, 0, 3, 0, 0))) (cond (Nat.beq m 21) ((2, 2, 1, 2, 0)) ((0, 0, 3, 0, 0)))) (cond (Nat.ble m 22) (cond (Nat.beq m 22) ((2, 2, 1, 2, 1)) ((0, 0, 3, 0, 0))) (cond (Nat.ble m 23) (cond (Nat.beq m 23) ((2, 2, 1, 2, 1)) ((0, 0, 3, 0, 0))) (cond (Nat.beq m 24) ((3, 4, 1, 2, 1)) ((0, 0, 3, 0, 0)))))) (cond (Nat.ble m 26) (cond (Nat.ble m 25) (cond (Nat.beq m 25) ((3, 5, 1, 2, 2)) ((0, 0, 3, 0, 0))) (cond (Nat.beq m 26) ((1, 1, 2, 3, 0)) ((0, 0, 3, 0, 0)))) (cond (Nat.ble m 27) (cond (Nat.beq m 27) ((2, 2, 1, 3, 0)) ((0, 0, 3, 0, 0))) (cond (Nat.ble m 28) (cond (Nat.beq m 28) ((1, 1, 1, 3, 2)) ((0, 0, 3, 0, 0))) (cond (Nat.beq m 29) ((2, 2, 1, 3, 2)) ((0, 0, 3, 0, 0))))))) (cond (Nat.ble m 34) (cond (Nat.ble m 31) (cond (Nat.ble m 30) (cond (Nat.beq m 30) ((1, 1, 0, 3, 2)) ((0, 0, 3, 0, 0))) (cond (Nat.beq m 31) ((1, 1, 1, 3, 0)) ((0, 0, 3, 0, 0)))) (cond (Nat.ble m 32) (cond (Nat.beq m 32) ((3, 3, 1, 3, 2)) ((0, 0, 3, 0, 0))) (cond (Nat.ble m 33) (cond (Nat.beq m 33) ((1, 1, 1, 3, 2)) ((0, 0, 3, 0, 0))) (cond (Nat.beq m 34) ((2, 2, 1, 3, 2)) ((0, 0, 3, 0, 0)))))) (cond (Nat.ble m 36) (cond (Nat.ble m 35) (cond (Nat.beq m 35) ((2, 2, 1, 3, 2)) ((0, 0, 3, 0, 0))) (cond (Nat.beq m 36) ((2, 2, 1, 3, 2)) ((0, 0, 3, 0, 0)))) (cond (Nat.ble m 37) (cond (Nat.beq m 37) ((2, 4, 1, 3, 2)) ((0, 0, 3, 0, 0))) (cond (Nat.ble m 38) (cond (Nat.beq m 38) ((2, 2, 1, 3, 2)) ((0, 0, 3, 0, 0))) (cond (Nat.beq m 39) ((2, 2, 2, 4, 0)) ((0, 0, 3, 0, 0))))))))) (cond (Nat.ble m 59) (cond (Nat.ble m 49) (cond (Nat.ble m 44) (cond (Nat.ble m 41) (cond (Nat.ble m 40) (cond (Nat.beq m 40) ((1, 1, 1, 4, 1)) ((0, 0, 3, 0, 0))) (cond (Nat.beq m 41) ((2, 2, 1, 4, 2)) ((0, 0, 3, 0, 0)))) (cond (Nat.ble m 42) (cond (Nat.beq m 42) ((2, 2, 1, 4, 1)) ((0, 0, 3, 0, 0))) (cond (Nat.ble m 43) (cond (Nat.beq m 43) ((3, 3, 1, 4, 0)) ((0, 0, 3, 0, 0))) (cond (Nat.beq m 44) ((2, 2, 1, 4, 0)) ((0, 0, 3, 0, 0)))))) (cond (Nat.ble m 46) (cond (Nat.ble m 45) (cond (Nat.beq m 45) ((2, 2, 1, 4, 0)) ((0, 0, 3, 0, 0))) (cond (Nat.beq m 46) ((2, 3, 1, 4, 0)) ((0, 0, 3, 0, 0)))) (cond (Nat.ble m 47) (cond (Nat.beq m 47) ((1, 2, 2, 5, 0)) ((0, 0, 3, 0, 0))) (cond (Nat.ble m 48) (cond (Nat.beq m 48) ((2, 3, 1, 5, 3)) ((0, 0, 3, 0, 0))) (cond (Nat.beq m 49) ((3, 4, 1, 5, 1)) ((0, 0, 3, 0, 0))))))) (cond (Nat.ble m 54) (cond (Nat.ble m 51) (cond (Nat.ble m 50) (cond (Nat.beq m 50) ((3, 3, 1, 5, 0)) ((0, 0, 3, 0, 0))) (cond (Nat.beq m 51) ((1, 1, 2, 6, 0)) ((0, 0, 3, 0, 0)))) (cond (Nat.ble m 52) (cond (Nat.beq m 52) ((2, 2, 1, 6, 0)) ((0, 0, 3, 0, 0))) (cond (Nat.ble m 53) (cond (Nat.beq m 53) ((3, 4, 1, 6, 1)) ((0, 0, 3, 0, 0))) (cond (Nat.beq m 54) ((2, 2, 1, 6, 1)) ((0, 0, 3, 0, 0)))))) (cond (Nat.ble m 56) (cond (Nat.ble m 55) (cond (Nat.beq m 55) ((3, 3, 1, 6, 0)) ((0, 0, 3, 0, 0))) (cond (Nat.beq m 56) ((2, 2, 1, 6, 2)) ((0, 0, 3, 0, 0)))) (cond (Nat.ble m 57) (cond (Nat.beq m 57) ((1, 1, 1, 6, 1)) ((0, 0, 3, 0, 0))) (cond (Nat.ble m 58) (cond (Nat.beq m 58) ((1, 3, 1, 6, 1)) ((0, 0, 3, 0, 0))) (cond (Nat.beq m 59) ((2, 4, 1, 6, 1)) ((0, 0, 3, 0, 0)))))))) (cond (Nat.ble m 69) (cond (Nat.ble m 64) (cond (Nat.ble m 61) (cond (Nat.ble m 60) (cond (Nat.beq m 60) ((3, 5, 1, 6, 1)) ((0, 0, 3, 0, 0))) (cond (Nat.beq m 61) ((3, 3, 1, 6, 1)) ((0, 0, 3, 0, 0)))) (cond (Nat.ble m 62) (cond (Nat.beq m 62) ((4, 4, 1, 6, 0)) ((0, 0, 3, 0, 0))) (cond (Nat.ble m 63) (cond (Nat.beq m 63) ((1, 1, 2, 7, 0)) ((0, 0, 3, 0, 0))) (cond (Nat.beq m 64) ((2, 2, 1, 7, 1)) ((0, 0, 3, 0, 0)))))) (cond (Nat.ble m 66) (cond (Nat.ble m 65) (cond (Nat.beq m 65) ((1, 2, 1, 7, 1)) ((0, 0, 3, 0, 0))) (cond (Nat.beq m 66) ((1, 3, 1, 7, 1)) ((0, 0, 3, 0, 0)))) (cond (Nat.ble m 67) (cond (Nat.beq m 67) ((2, 2, 1, 7, 1)) ((0, 0, 3, 0, 0))) (cond (Nat.ble m 68) (cond (Nat.beq m 68) ((4, 6, 1, 7, 1)) ((0, 0, 3, 0, 0))) (cond (Nat.beq m 69) ((3, 5, 1, 7, 1)) ((0, 0, 3, 0, 0))))))) (cond (Nat.ble m 74) (cond (Nat.ble m 71) (cond (Nat.ble m 70) (cond (Nat.beq m 70) ((2, 2, 1, 7, 1)) ((0, 0, 3, 0, 0))) (cond (Nat.beq m 71) ((1, 1, 1, 7, 1)) ((0, 0, 3, 0, 0)))) (cond (Nat.ble m 72) (cond (Nat.beq m 72) ((2, 2, 1, 7, 1)) ((0, 0, 3, 0, 0))) (cond (Nat.ble m 73) (cond (Nat.beq m 73) ((3, 4, 1, 7, 1)) ((0, 0, 3, 0, 0))) (cond (Nat.beq m 74) ((3, 4, 1, 7, 1)) ((0, 0, 3, 0, 0)))))) (cond (Nat.ble m 77) (cond (Nat.ble m 75) (cond (Nat.beq m 75) ((3, 4, 1, 7, 1)) ((0, 0, 3, 0, 0))) (cond (Nat.ble m 76) (cond (Nat.beq m 76) ((3, 3, 1, 7, 1)) ((0, 0, 3, 0, 0))) (cond (Nat.beq m 77) ((3, 4, 1, 7, 1)) ((0, 0, 3, 0, 0))))) (cond (Nat.ble m 78) (cond (Nat.beq m 78) ((4, 5, 1, 7, 1)) ((0, 0, 3, 0, 0))) (cond (Nat.ble m 79) (cond (Nat.beq m 79) ((3, 4, 1, 7, 1)) ((0, 0, 3, 0, 0))) (cond (Nat.beq m 80) ((2, 2, 1, 7, 1)) ((0, 0, 3, 0, 0)))))))))) (cond (Nat.ble m 120) (cond (Nat.ble m 100) (cond (Nat.ble m 90) (cond (Nat.ble m 85) (cond (Nat.ble m 82) (cond (Nat.ble m 81) (cond (Nat.beq m 81) ((1, 3, 1, 7, 1)) ((0, 0, 3, 0, 0))) (cond (Nat.beq m 82) ((2, 7, 1, 7, 1)) ((0, 0, 3, 0, 0)))) (cond (Nat.ble m 83) (cond (Nat.beq m 83) ((2, 2, 1, 7, 2)) ((0, 0, 3, 0, 0))) (cond (Nat.ble m 84) (cond (Nat.beq m 84) ((2, 2, 1, 7, 2)) ((0, 0, 3, 0, 0))) (cond (Nat.beq m 85) ((2, 2, 1, 7, 2)) ((0, 0, 3, 0, 0)))))) (cond (Nat.ble m 87) (cond (Nat.ble m 86) (cond (Nat.beq m 86) ((2, 2, 1, 7, 2)) ((0, 0, 3, 0, 0))) (cond (Nat.beq m 87) ((2, 2, 1, 7, 3)) ((0, 0, 3, 0, 0)))) (cond (Nat.ble m 88) (cond (Nat.beq m 88) ((1, 2, 1, 7, 1)) ((0, 0, 3, 0, 0))) (cond (Nat.ble m 89) (cond (Nat.beq m 89) ((3, 3, 1, 7, 0)) ((0, 0, 3, 0, 0))) (cond (Nat.beq m 90) ((3, 4, 1, 7, 0)) ((0, 0, 3, 0, 0))))))) (cond (Nat.ble m 95) (cond (Nat.ble m 92) (cond (Nat.ble m 91) (cond (Nat.beq m 91) ((4, 7, 1, 7, 0)) ((0, 0, 3, 0, 0))) (cond (Nat.beq m 92) ((1, 3, 1, 7, 1)) ((0, 0, 3, 0, 0)))) (cond (Nat.ble m 93) (cond (Nat.beq m 93) ((1, 3, 1, 7, 1)) ((0, 0, 3, 0, 0))) (cond (Nat.ble m 94) (cond (Nat.beq m 94) ((2, 6, 1, 7, 1)) ((0, 0, 3, 0, 0))) (cond (Nat.beq m 95) ((2, 5, 1, 7, 1)) ((0, 0, 3, 0, 0)))))) (cond (Nat.ble m 97) (cond (Nat.ble m 96) (cond (Nat.beq m 96) ((2, 4, 1, 7, 1)) ((0, 0, 3, 0, 0))) (cond (Nat.beq m 97) ((2, 5, 1, 7, 1)) ((0, 0, 3, 0, 0)))) (cond (Nat.ble m 98) (cond (Nat.beq m 98) ((3, 5, 1, 7, 1)) ((0, 0, 3, 0, 0))) (cond (Nat.ble m 99) (cond (Nat.beq m 99) ((3, 7, 1, 7, 1)) ((0, 0, 3, 0, 0))) (cond (Nat.beq m 100) ((3, 5, 1, 7, 1)) ((0, 0, 3, 0, 0)))))))) (cond (Nat.ble m 110) (cond (Nat.ble m 105) (cond (Nat.ble m 102) (cond (Nat.ble m 101) (cond (Nat.beq m 101) ((2, 2, 1, 7, 0)) ((0, 0, 3, 0, 0))) (cond (Nat.beq m 102) ((2, 2, 1, 7, 0)) ((0, 0, 3, 0, 0)))) (cond (Nat.ble m 103) (cond (Nat.beq m 103) ((1, 1, 2, 8, 0)) ((0, 0, 3, 0, 0))) (cond (Nat.ble m 104) (cond (Nat.beq m 104) ((3, 3, 0, 8, 2)) ((0, 0, 3, 0, 0))) (cond (Nat.beq m 105) ((4, 5, 0, 8, 0)) ((0, 0, 3, 0, 0)))))) (cond (Nat.ble m 107) (cond (Nat.ble m 106) (cond (Nat.beq m 106) ((2, 3, 1, 8, 0)) ((0, 0, 3, 0, 0))) (cond (Nat.beq m 107) ((2, 2, 1, 8, 2)) ((0, 0, 3, 0, 0)))) (cond (Nat.ble m 108) (cond (Nat.beq m 108) ((2, 2, 1, 8, 2)) ((0, 0, 3, 0, 0))) (cond (Nat.ble m 109) (cond (Nat.beq m 109) ((2, 2, 1, 8, 1)) ((0, 0, 3, 0, 0))) (cond (Nat.beq m 110) ((2, 2, 1, 8, 2)) ((0, 0, 3, 0, 0))))))) (cond (Nat.ble m 115) (cond (Nat.ble m 112) (cond (Nat.ble m 111) (cond (Nat.beq m 111) ((3, 3, 1, 8, 1)) ((0, 0, 3, 0, 0))) (cond (Nat.beq m 112) ((2, 2, 1, 8, 1)) ((0, 0, 3, 0, 0)))) (cond (Nat.ble m 113) (cond (Nat.beq m 113) ((2, 2, 1, 8, 1)) ((0, 0, 3, 0, 0))) (cond (Nat.ble m 114) (cond (Nat.beq m 114) ((2, 2, 1, 8, 1)) ((0, 0, 3, 0, 0))) (cond (Nat.beq m 115) ((3, 3, 1, 8, 1)) ((0, 0, 3, 0, 0)))))) (cond (Nat.ble m 117) (cond (Nat.ble m 116) (cond (Nat.beq m 116) ((2, 4, 1, 8, 1)) ((0, 0, 3, 0, 0))) (cond (Nat.beq m 117) ((2, 2, 1, 8, 1)) ((0, 0, 3, 0, 0)))) (cond (Nat.ble m 118) (cond (Nat.beq m 118) ((3, 5, 1, 8, 1)) ((0, 0, 3, 0, 0))) (cond (Nat.ble m 119) (cond (Nat.beq m 119) ((3, 5, 1, 8, 2)) ((0, 0, 3, 0, 0))) (cond (Nat.beq m 120) ((2, 4, 1, 8, 1)) ((0, 0, 3, 0, 0))))))))) (cond (Nat.ble m 140) (cond (Nat.ble m 130) (cond (Nat.ble m 125) (cond (Nat.ble m 122) (cond (Nat.ble m 121) (cond (Nat.beq m 121) ((3, 3, 1, 8, 2)) ((0, 0, 3, 0, 0))) (cond (Nat.beq m 122) ((2, 4, 1, 8, 1)) ((0, 0, 3, 0, 0)))) (cond (Nat.ble m 123) (cond (Nat.beq m 123) ((1, 3, 1, 8, 1)) ((0, 0, 3, 0, 0))) (cond (Nat.ble m 124) (cond (Nat.beq m 124) ((2, 2, 1, 8, 0)) ((0, 0, 3, 0, 0))) (cond (Nat.beq m 125) ((2, 2, 1, 8, 0)) ((0, 0, 3, 0, 0)))))) (cond (Nat.ble m 127) (cond (Nat.ble m 126) (cond (Nat.beq m 126) ((3, 8, 1, 8, 0)) ((0, 0, 3, 0, 0))) (cond (Nat.beq m 127) ((2, 4, 1, 8, 2)) ((0, 0, 3, 0, 0)))) (cond (Nat.ble m 128) (cond (Nat.beq m 128) ((1, 3, 1, 8, 2)) ((0, 0, 3, 0, 0))) (cond (Nat.ble m 129) (cond (Nat.beq m 129) ((1, 3, 1, 8, 1)) ((0, 0, 3, 0, 0))) (cond (Nat.beq m 130) ((2, 3, 1, 8, 2)) ((0, 0, 3, 0, 0))))))) (cond (Nat.ble m 135) (cond (Nat.ble m 132) (cond (Nat.ble m 131) (cond (Nat.beq m 131) ((2, 2, 1, 8, 0)) ((0, 0, 3, 0, 0))) (cond (Nat.beq m 132) ((1, 2, 1, 8, 1)) ((0, 0, 3, 0, 0)))) (cond (Nat.ble m 133) (cond (Nat.beq m 133) ((3, 4, 1, 8, 1)) ((0, 0, 3, 0, 0))) (cond (Nat.ble m 134) (cond (Nat.beq m 134) ((1, 4, 1, 8, 2)) ((0, 0, 3, 0, 0))) (cond (Nat.beq m 135) ((2, 4, 1, 8, 2)) ((0, 0, 3, 0, 0)))))) (cond (Nat.ble m 137) (cond (Nat.ble m 136) (cond (Nat.beq m 136) ((1, 3, 1, 8, 1)) ((0, 0, 3, 0, 0))) (cond (Nat.beq m 137) ((2, 2, 1, 8, 1)) ((0, 0, 3, 0, 0)))) (cond (Nat.ble m 138) (cond (Nat.beq m 138) ((1, 2, 1, 8, 1)) ((0, 0, 3, 0, 0))) (cond (Nat.ble m 139) (cond (Nat.beq m 139) ((1, 6, 1, 8, 1)) ((0, 0, 3, 0, 0))) (cond (Nat.beq m 140) ((2, 2, 1, 8, 1)) ((0, 0, 3, 0, 0)))))))) (cond (Nat.ble m 150) (cond (Nat.ble m 145) (cond (Nat.ble m 142) (cond (Nat.ble m 141) (cond (Nat.beq m 141) ((4, 6, 1, 8, 1)) ((0, 0, 3, 0, 0))) (cond (Nat.beq m 142) ((3, 4, 1, 8, 2)) ((0, 0, 3, 0, 0)))) (cond (Nat.ble m 143) (cond (Nat.beq m 143) ((3, 9, 1, 8, 1)) ((0, 0, 3, 0, 0))) (cond (Nat.ble m 144) (cond (Nat.beq m 144) ((2, 2, 1, 8, 1)) ((0, 0, 3, 0, 0))) (cond (Nat.beq m 145) ((1, 1, 1, 8, 1)) ((0, 0, 3, 0, 0)))))) (cond (Nat.ble m 147) (cond (Nat.ble m 146) (cond (Nat.beq m 146) ((1, 3, 1, 8, 1)) ((0, 0, 3, 0, 0))) (cond (Nat.beq m 147) ((2, 5, 1, 8, 1)) ((0, 0, 3, 0, 0)))) (cond (Nat.ble m 148) (cond (Nat.beq m 148) ((2, 2, 1, 8, 1)) ((0, 0, 3, 0, 0))) (cond (Nat.ble m 149) (cond (Nat.beq m 149) ((2, 4, 1, 8, 1)) ((0, 0, 3, 0, 0))) (cond (Nat.beq m 150) ((3, 4, 1, 8, 1)) ((0, 0, 3, 0, 0))))))) (cond (Nat.ble m 155) (cond (Nat.ble m 152) (cond (Nat.ble m 151) (cond (Nat.beq m 151) ((3, 3, 1, 8, 1)) ((0, 0, 3, 0, 0))) (cond (Nat.beq m 152) ((3, 4, 1, 8, 1)) ((0, 0, 3, 0, 0)))) (cond (Nat.ble m 153) (cond (Nat.beq m 153) ((3, 8, 1, 8, 1)) ((0, 0, 3, 0, 0))) (cond (Nat.ble m 154) (cond (Nat.beq m 154) ((3, 3, 1, 8, 1)) ((0, 0, 3, 0, 0))) (cond (Nat.beq m 155) ((3, 3, 1, 8, 1)) ((0, 0, 3, 0, 0)))))) (cond (Nat.ble m 158) (cond (Nat.ble m 156) (cond (Nat.beq m 156) ((4, 6, 1, 8, 1)) ((0, 0, 3, 0, 0))) (cond (Nat.ble m 157) (cond (Nat.beq m 157) ((3, 3, 1, 8, 1)) ((0, 0, 3, 0, 0))) (cond (Nat.beq m 158) ((2, 2, 1, 8, 1)) ((0, 0, 3, 0, 0))))) (cond (Nat.ble m 159) (cond (Nat.beq m 159) ((1, 3, 1, 8, 1)) ((0, 0, 3, 0, 0))) (cond (Nat.ble m 160) (cond (Nat.beq m 160) ((3, 6, 1, 8, 1)) ((0, 0, 3, 0, 0))) (cond (Nat.beq m 161) ((2, 7, 1, 8, 1)) ((0, 0, 3, 0, 0))))))))))
def qNa (m : Nat) : Nat := (qmi m).1
def qNl (m : Nat) : Nat := (qmi m).2.1
def qKi (m : Nat) : Nat := (qmi m).2.2.1
def qCl (m : Nat) : Nat := (qmi m).2.2.2.1
def qRt (m : Nat) : Nat := (qmi m).2.2.2.2
/-- the fields of a class: whether each is a reference -/
def qfs (c : Nat) : List Bool := cond (Nat.ble c 3) (cond (Nat.ble c 1) (cond (Nat.ble c 0) (cond (Nat.beq c 0) ([true, false]) ([])) (cond (Nat.beq c 1) ([true, false]) ([]))) (cond (Nat.ble c 2) (cond (Nat.beq c 2) ([true, true]) ([])) (cond (Nat.beq c 3) ([true, true, true, false, false, false, false]) ([])))) (cond (Nat.ble c 5) (cond (Nat.ble c 4) (cond (Nat.beq c 4) ([true, false]) ([])) (cond (Nat.beq c 5) ([true, true]) ([]))) (cond (Nat.ble c 6) (cond (Nat.beq c 6) ([true, true, false, false, false]) ([])) (cond (Nat.ble c 7) (cond (Nat.beq c 7) ([true, true, true, true, true, true, true, true]) ([])) (cond (Nat.beq c 8) ([true, true, false, true, true, false, true, false, true, true, true, true, false, true, false, false, false, true, false]) ([])))))
end
section
/-! The abstract machine: values, memory, a step, a run. Memory: the kinds of the cells (0: an object of a class; 1: ints, and how many; c+2: references to class c, and how many), whole numbers by cell and place, references by cell and place. -/
abbrev qA : Type := Option (Int ⊕ Nat)
abbrev qI (x : Int) : qA := some (Sum.inl x)
abbrev qK (k : Nat) : qA := some (Sum.inr k)
abbrev qM : Type := List (Nat × Nat) × (Nat → Int → Int) × (Nat → Int → Option Nat)
abbrev qin (x : Int) : Prop := -2147483648 ≤ x ∧ x ≤ 2147483647
def qup {α : Type} (m : Nat → Int → α) (k : Nat) (i : Int) (v : α) : Nat → Int → α := fun a j => if a = k then (if j = i then v else m a j) else m a j
def qrow {α : Type} (m : Nat → Int → α) (k : Nat) (v : α) : Nat → Int → α := fun a j => if a = k then v else m a j
def qcmp (a : Int) (x y : Int) : Bool := if a = 0 then decide (x = y) else if a = 1 then decide (x ≠ y) else if a = 2 then decide (x < y) else if a = 3 then decide (y ≤ x) else if a = 4 then decide (y < x) else decide (x ≤ y)
def qold (σ : qM) (kd : Nat × Nat) : qM := (σ.1 ++ [kd], qrow σ.2.1 σ.1.length 0, qrow σ.2.2 σ.1.length none)
def qstep (op : Nat) (a : Int) (b : Nat) (c : List Nat) (nx : Nat) (pc : Nat) (L S : List qA) (σ : qM) : Option (Nat × List qA × List qA × qM) :=
  match op with
  | 0 => if qin a then some (nx, L, qI a :: S, σ) else none
  | 1 => match L[b]? with
    | some (some (.inl x)) => some (nx, L, qI x :: S, σ)
    | _ => none
  | 2 => match L[b]? with
    | some (some (.inr x)) => some (nx, L, qK x :: S, σ)
    | _ => none
  | 3 => match S with
    | some (.inl x) :: S' => if b < L.length then some (nx, L.set b (qI x), S', σ) else none
    | _ => none
  | 4 => match S with
    | some (.inr x) :: S' => if b < L.length then some (nx, L.set b (qK x), S', σ) else none
    | _ => none
  | 5 => match L[b]? with
    | some (some (.inl x)) => if qin (x + a) then some (nx, L.set b (qI (x + a)), S, σ) else none
    | _ => none
  | 6 => match S with
    | some (.inl y) :: some (.inl x) :: S' => if qin (x + y) then some (nx, L, qI (x + y) :: S', σ) else none
    | _ => none
  | 7 => match S with
    | some (.inl y) :: some (.inl x) :: S' => if qin (x - y) then some (nx, L, qI (x - y) :: S', σ) else none
    | _ => none
  | 8 => match S with
    | some (.inl y) :: some (.inl x) :: S' => if qin (x * y) then some (nx, L, qI (x * y) :: S', σ) else none
    | _ => none
  | 9 => match S with
    | some (.inl y) :: some (.inl x) :: S' => if 0 ≤ x ∧ 0 < y then some (nx, L, qI (x / y) :: S', σ) else none
    | _ => none
  | 10 => match S with
    | some (.inl y) :: some (.inl x) :: S' => if 0 ≤ x ∧ 0 < y then some (nx, L, qI (x % y) :: S', σ) else none
    | _ => none
  | 12 => match S with
    | some x :: S' => some (nx, L, some x :: some x :: S', σ)
    | _ => none
  | 13 => match S with
    | some x :: some y :: S' => some (nx, L, some x :: some y :: some x :: some y :: S', σ)
    | _ => none
  | 14 => match S with
    | some _ :: S' => some (nx, L, S', σ)
    | _ => none
  | 15 => some (b, L, S, σ)
  | 16 => match S with
    | some (.inl y) :: some (.inl x) :: S' => some (if qcmp a x y = true then b else nx, L, S', σ)
    | _ => none
  | 17 => match S with
    | some (.inl x) :: S' => some (if qcmp a x 0 = true then b else nx, L, S', σ)
    | _ => none
  | 18 => match S with
    | some (.inr _) :: S' => some (nx, L, S', σ)
    | _ => none
  | 19 => match S with
    | some (.inr _) :: S' => some (b, L, S', σ)
    | _ => none
  | 20 => match S with
    | some (.inl x) :: S' => some (if a ≤ x ∧ x < a + c.length then c.getD (x - a).toNat 0 else b, L, S', σ)
    | _ => none
  | 21 => match S with
    | some (.inr k) :: S' => if 0 ≤ a ∧ σ.1[k]? = some (0, c.headD 0) ∧ (qfs (c.headD 0))[a.toNat]? = some false then some (nx, L, qI (σ.2.1 k a) :: S', σ) else none
    | _ => none
  | 22 => match S with
    | some (.inr k) :: S' => if 0 ≤ a ∧ σ.1[k]? = some (0, c.headD 0) ∧ (qfs (c.headD 0))[a.toNat]? = some true then (match σ.2.2 k a with
      | some z => some (nx, L, qK z :: S', σ)
      | none => none) else none
    | _ => none
  | 23 => match S with
    | some (.inl x) :: some (.inr k) :: S' => if 0 ≤ a ∧ σ.1[k]? = some (0, c.headD 0) ∧ (qfs (c.headD 0))[a.toNat]? = some false then some (nx, L, S', (σ.1, qup σ.2.1 k a x, σ.2.2)) else none
    | _ => none
  | 24 => match S with
    | some (.inr x) :: some (.inr k) :: S' => if 0 ≤ a ∧ σ.1[k]? = some (0, c.headD 0) ∧ (qfs (c.headD 0))[a.toNat]? = some true then some (nx, L, S', (σ.1, σ.2.1, qup σ.2.2 k a (some x))) else none
    | _ => none
  | 25 => match S with
    | some (.inl i) :: some (.inr k) :: S' => match σ.1[k]? with
      | some (1, n) => if 0 ≤ i ∧ i < n then some (nx, L, qI (σ.2.1 k i) :: S', σ) else none
      | _ => none
    | _ => none
  | 26 => match S with
    | some (.inl x) :: some (.inl i) :: some (.inr k) :: S' => match σ.1[k]? with
      | some (1, n) => if 0 ≤ i ∧ i < n then some (nx, L, S', (σ.1, qup σ.2.1 k i x, σ.2.2)) else none
      | _ => none
    | _ => none
  | 27 => match S with
    | some (.inl i) :: some (.inr k) :: S' => match σ.1[k]? with
      | some (_ + 2, n) => if 0 ≤ i ∧ i < n then (match σ.2.2 k i with
        | some z => some (nx, L, qK z :: S', σ)
        | none => none) else none
      | _ => none
    | _ => none
  | 28 => match S with
    | some (.inr x) :: some (.inl i) :: some (.inr k) :: S' => match σ.1[k]? with
      | some (ci + 2, n) => if 0 ≤ i ∧ i < n ∧ σ.1[x]? = some (0, ci) then some (nx, L, S', (σ.1, σ.2.1, qup σ.2.2 k i (some x))) else none
      | _ => none
    | _ => none
  | 29 => match S with
    | some (.inr k) :: S' => match σ.1[k]? with
      | some (_ + 1, n) => some (nx, L, qI n :: S', σ)
      | _ => none
    | _ => none
  | 30 => match S with
    | some (.inl n) :: S' => if 0 ≤ n ∧ n ≤ 100000 then some (nx, L, qK σ.1.length :: S', qold σ (1, n.toNat)) else none
    | _ => none
  | 31 => match S with
    | some (.inl n) :: S' => if 0 ≤ n ∧ n ≤ 100000 then some (nx, L, qK σ.1.length :: S', qold σ (c.headD 0 + 2, n.toNat)) else none
    | _ => none
  | 32 => some (nx, L, qK σ.1.length :: S, qold σ (0, c.headD 0))
  | 33 => match S with
    | some (.inl y) :: some (.inl x) :: S' => if S'.length ≤ 8 then some (nx, L, qI (if x < y then y else x) :: S', σ) else none
    | _ => none
  | 34 => match S with
    | some (.inr _) :: S' => if S'.length ≤ 8 then some (nx, L, S', σ) else none
    | _ => none
  | _ => none
/-- the receiver of a call of method b: an object of its class -/
def qrcv (b : Nat) (as : List qA) (σ : qM) : Bool :=
  match qKi b with
  | 0 => true
  | 1 => match as with
    | some (.inr k) :: _ => decide (σ.1[k]? = some (0, qCl b))
    | _ => false
  | 2 => match as with
    | some (.inr _) :: _ => true
    | _ => false
  | _ => false
def qent (b : Nat) (as : List qA) : List qA := as ++ List.replicate (qNl b - as.length) none
def qbody (ev : Nat → Nat → List qA → List qA → qM → Option (qA × qM)) (m pc : Nat) (L S : List qA) (σ : qM) : Option (qA × qM) :=
  match qcd m pc with
  | none => none
  | some (op, a, b, c, nx) =>
    if op < 40 then
      match qstep op a b c nx pc L S σ with
      | some (pc', L', S', σ') => ev m pc' L' S' σ'
      | none => none
    else if op = 40 then
      (if qNa b ≤ S.length ∧ S.length ≤ qNa b + 8 ∧ qrcv b (S.take (qNa b)).reverse σ = true ∧ qNa b ≤ qNl b then
        match ev b 0 (qent b (S.take (qNa b)).reverse) [] σ with
        | some (r, σ') => ev m nx L (if qRt b = 0 then S.drop (qNa b) else r :: S.drop (qNa b)) σ'
        | none => none
      else none)
    else if op = 41 then (match S with
      | [some (.inl x)] => some (qI x, σ)
      | _ => none)
    else if op = 42 then (match S with
      | [some (.inl x)] => if x = 0 ∨ x = 1 then some (qI x, σ) else none
      | _ => none)
    else if op = 43 then (match S with
      | [some (.inr x)] => some (qK x, σ)
      | _ => none)
    else if op = 44 then (match S with
      | [] => some (none, σ)
      | _ => none)
    else none
def qev : Nat → Nat → Nat → List qA → List qA → qM → Option (qA × qM)
  | 0 => fun _ _ _ _ _ => none
  | n + 1 => qbody (qev n)
theorem qev_mono : ∀ (n : Nat) (m pc : Nat) (L S : List qA) (σ : qM) (x : qA × qM), qev n m pc L S σ = some x → ∀ k, n ≤ k → qev k m pc L S σ = some x := by
  intro n
  induction n with
  | zero => intro m pc L S σ x h; exact absurd h (by simp [qev])
  | succ n ih =>
    intro m pc L S σ x h k hk
    obtain ⟨k, rfl⟩ : ∃ j, k = j + 1 := ⟨k - 1, by omega⟩
    have hk : n ≤ k := by omega
    change qbody (qev n) m pc L S σ = some x at h
    change qbody (qev k) m pc L S σ = some x
    unfold qbody at h ⊢
    split at h
    · exact absurd h (by simp)
    · rename_i op a b c nx hc
      split at h
      · rename_i ho
        rw [if_pos ho]
        split at h
        · rename_i pc' L' S' σ' hs
          exact ih _ _ _ _ _ _ h k hk
        · exact absurd h (by simp)
      · rename_i ho
        rw [if_neg ho]
        split at h
        · rename_i ho2
          rw [if_pos ho2]
          split at h
          · rename_i hg
            rw [if_pos hg]
            split at h
            · rename_i r σ' hs
              rw [ih _ _ _ _ _ _ hs k hk]
              exact ih _ _ _ _ _ _ h k hk
            · exact absurd h (by simp)
          · exact absurd h (by simp)
        · rename_i ho2
          rw [if_neg ho2]
          exact h
/-- a method, from a place in it, comes to its end, and of its answer and the memory then Q holds -/
def qW (m pc : Nat) (L S : List qA) (σ : qM) (Q : qA → qM → Prop) : Prop := ∃ (n : Nat) (r : qA) (σ' : qM), qev n m pc L S σ = some (r, σ') ∧ Q r σ'
theorem qW_mono {m pc : Nat} {L S : List qA} {σ : qM} {Q Q' : qA → qM → Prop} (h : qW m pc L S σ Q) (hq : ∀ r σ', Q r σ' → Q' r σ') : qW m pc L S σ Q' := by
  obtain ⟨n, r, σ', h1, h2⟩ := h
  exact ⟨n, r, σ', h1, hq _ _ h2⟩
theorem qW_step {m pc : Nat} {L S : List qA} {σ : qM} {Q : qA → qM → Prop} {op : Nat} {a : Int} {b : Nat} {c : List Nat} {nx : Nat} {pc' : Nat} {L' S' : List qA} {σ' : qM} (hc : qcd m pc = some (op, a, b, c, nx)) (ho : op < 40) (hs : qstep op a b c nx pc L S σ = some (pc', L', S', σ')) (k : qW m pc' L' S' σ' Q) : qW m pc L S σ Q := by
  obtain ⟨n, r, σ2, h1, h2⟩ := k
  refine ⟨n + 1, r, σ2, ?_, h2⟩
  show qbody (qev n) m pc L S σ = _
  unfold qbody
  rw [hc]
  simp only [if_pos ho, hs, h1]
theorem qW_call {m pc : Nat} {L S : List qA} {σ : qM} {Q Q1 : qA → qM → Prop} {a : Int} {b : Nat} {c : List Nat} {nx : Nat} {L0 : List qA} (hc : qcd m pc = some (40, a, b, c, nx)) (hn : qNa b ≤ S.length ∧ S.length ≤ qNa b + 8 ∧ qNa b ≤ qNl b) (hr : qrcv b (S.take (qNa b)).reverse σ = true) (hL : qent b (S.take (qNa b)).reverse = L0) (h1 : qW b 0 L0 [] σ Q1)
    (k : ∀ r σ', Q1 r σ' → qW m nx L (if qRt b = 0 then S.drop (qNa b) else r :: S.drop (qNa b)) σ' Q) : qW m pc L S σ Q := by
  obtain ⟨n1, r1, σ1, e1, q1⟩ := h1
  obtain ⟨n2, r2, σ2, e2, q2⟩ := k r1 σ1 q1
  subst hL
  refine ⟨max n1 n2 + 1, r2, σ2, ?_, q2⟩
  show qbody (qev (max n1 n2)) m pc L S σ = _
  unfold qbody
  rw [hc]
  simp only [show ¬ (40 : Nat) < 40 from by decide, if_false, if_true, hn.1, hn.2.1, hn.2.2, hr, and_self]
  rw [qev_mono _ _ _ _ _ _ _ e1 _ (Nat.le_max_left _ _)]
  exact qev_mono _ _ _ _ _ _ _ e2 _ (Nat.le_max_right _ _)
/-- a method that answers v and leaves the memory as it is -/
abbrev qP (b : Nat) (L0 : List qA) (σ : qM) (v : qA) : Prop := qW b 0 L0 [] σ (fun r σ' => r = v ∧ σ' = σ)
theorem qW_ireturn {m pc : Nat} {L : List qA} {σ : qM} {Q : qA → qM → Prop} {x : Int} {a : Int} {b : Nat} {c : List Nat} {nx : Nat} (hc : qcd m pc = some (41, a, b, c, nx)) (h : Q (qI x) σ) : qW m pc L [qI x] σ Q := by
  refine ⟨1, qI x, σ, ?_, h⟩
  show qbody (qev 0) m pc _ _ σ = _
  unfold qbody
  rw [hc]; rfl
theorem qW_zreturn {m pc : Nat} {L : List qA} {σ : qM} {Q : qA → qM → Prop} {x : Int} {a : Int} {b : Nat} {c : List Nat} {nx : Nat} (hc : qcd m pc = some (42, a, b, c, nx)) (hx : x = 0 ∨ x = 1) (h : Q (qI x) σ) : qW m pc L [qI x] σ Q := by
  refine ⟨1, qI x, σ, ?_, h⟩
  show qbody (qev 0) m pc _ _ σ = _
  unfold qbody
  rw [hc]
  simp [hx]
theorem qW_areturn {m pc : Nat} {L : List qA} {σ : qM} {Q : qA → qM → Prop} {x : Nat} {a : Int} {b : Nat} {c : List Nat} {nx : Nat} (hc : qcd m pc = some (43, a, b, c, nx)) (h : Q (qK x) σ) : qW m pc L [qK x] σ Q := by
  refine ⟨1, qK x, σ, ?_, h⟩
  show qbody (qev 0) m pc _ _ σ = _
  unfold qbody
  rw [hc]; rfl
theorem qW_return {m pc : Nat} {L : List qA} {σ : qM} {Q : qA → qM → Prop} {a : Int} {b : Nat} {c : List Nat} {nx : Nat} (hc : qcd m pc = some (44, a, b, c, nx)) (h : Q none σ) : qW m pc L [] σ Q := by
  refine ⟨1, none, σ, ?_, h⟩
  show qbody (qev 0) m pc _ _ σ = _
  unfold qbody
  rw [hc]; rfl
end
section
-- what the machine has of each method: name, bytes, the class that it stands in, return type, frames and locals that its calls want
def qy (m : Nat) : MethodName := cond (Nat.ble m 80) (cond (Nat.ble m 39) (cond (Nat.ble m 19) (cond (Nat.ble m 9) (cond (Nat.ble m 4) (cond (Nat.ble m 1) (cond (Nat.ble m 0) (cond (Nat.beq m 0) (yX0_init) (⟨"", "", ""⟩)) (cond (Nat.beq m 1) (yX0_clear) (⟨"", "", ""⟩))) (cond (Nat.ble m 2) (cond (Nat.beq m 2) (yX0_add) (⟨"", "", ""⟩)) (cond (Nat.ble m 3) (cond (Nat.beq m 3) (yX0_copyFrom) (⟨"", "", ""⟩)) (cond (Nat.beq m 4) (yX0_size) (⟨"", "", ""⟩))))) (cond (Nat.ble m 6) (cond (Nat.ble m 5) (cond (Nat.beq m 5) (yX0_leaves) (⟨"", "", ""⟩)) (cond (Nat.beq m 6) (yX0_branches) (⟨"", "", ""⟩))) (cond (Nat.ble m 7) (cond (Nat.beq m 7) (yX0_at) (⟨"", "", ""⟩)) (cond (Nat.ble m 8) (cond (Nat.beq m 8) (yX0_isBranchAt) (⟨"", "", ""⟩)) (cond (Nat.beq m 9) (yX0_pathAt) (⟨"", "", ""⟩)))))) (cond (Nat.ble m 14) (cond (Nat.ble m 11) (cond (Nat.ble m 10) (cond (Nat.beq m 10) (yX0_holds) (⟨"", "", ""⟩)) (cond (Nat.beq m 11) (yX0_leafPlace) (⟨"", "", ""⟩))) (cond (Nat.ble m 12) (cond (Nat.beq m 12) (yX0_isSameAs) (⟨"", "", ""⟩)) (cond (Nat.ble m 13) (cond (Nat.beq m 13) (yX0_leavesInCommon) (⟨"", "", ""⟩)) (cond (Nat.beq m 14) (yX1_init) (⟨"", "", ""⟩))))) (cond (Nat.ble m 16) (cond (Nat.ble m 15) (cond (Nat.beq m 15) (yX1_size) (⟨"", "", ""⟩)) (cond (Nat.beq m 16) (yX1_keep) (⟨"", "", ""⟩))) (cond (Nat.ble m 17) (cond (Nat.beq m 17) (yX1_forgetOldest) (⟨"", "", ""⟩)) (cond (Nat.ble m 18) (cond (Nat.beq m 18) (yX1_restore) (⟨"", "", ""⟩)) (cond (Nat.beq m 19) (yX2_init) (⟨"", "", ""⟩))))))) (cond (Nat.ble m 29) (cond (Nat.ble m 24) (cond (Nat.ble m 21) (cond (Nat.ble m 20) (cond (Nat.beq m 20) (yX2_size) (⟨"", "", ""⟩)) (cond (Nat.beq m 21) (yX2_cutTo) (⟨"", "", ""⟩))) (cond (Nat.ble m 22) (cond (Nat.beq m 22) (yX2_letterOf) (⟨"", "", ""⟩)) (cond (Nat.ble m 23) (cond (Nat.beq m 23) (yX2_outerOf) (⟨"", "", ""⟩)) (cond (Nat.beq m 24) (yX2_findOrAdd) (⟨"", "", ""⟩))))) (cond (Nat.ble m 26) (cond (Nat.ble m 25) (cond (Nat.beq m 25) (yX2_isWithin) (⟨"", "", ""⟩)) (cond (Nat.beq m 26) (yX3_init) (⟨"", "", ""⟩))) (cond (Nat.ble m 27) (cond (Nat.beq m 27) (yX3_begin) (⟨"", "", ""⟩)) (cond (Nat.ble m 28) (cond (Nat.beq m 28) (yX3_isComplete) (⟨"", "", ""⟩)) (cond (Nat.beq m 29) (yX3_take) (⟨"", "", ""⟩)))))) (cond (Nat.ble m 34) (cond (Nat.ble m 31) (cond (Nat.ble m 30) (cond (Nat.beq m 30) (yX3_isDigit) (⟨"", "", ""⟩)) (cond (Nat.beq m 31) (yX3_takeSpace) (⟨"", "", ""⟩))) (cond (Nat.ble m 32) (cond (Nat.beq m 32) (yX3_takeOpening) (⟨"", "", ""⟩)) (cond (Nat.ble m 33) (cond (Nat.beq m 33) (yX3_takeClosing) (⟨"", "", ""⟩)) (cond (Nat.beq m 34) (yX3_takeLetter) (⟨"", "", ""⟩))))) (cond (Nat.ble m 36) (cond (Nat.ble m 35) (cond (Nat.beq m 35) (yX3_takeColon) (⟨"", "", ""⟩)) (cond (Nat.beq m 36) (yX3_takeFirstDigit) (⟨"", "", ""⟩))) (cond (Nat.ble m 37) (cond (Nat.beq m 37) (yX3_takeNextDigit) (⟨"", "", ""⟩)) (cond (Nat.ble m 38) (cond (Nat.beq m 38) (yX3_takeFieldEnd) (⟨"", "", ""⟩)) (cond (Nat.beq m 39) (yX4_init) (⟨"", "", ""⟩)))))))) (cond (Nat.ble m 59) (cond (Nat.ble m 49) (cond (Nat.ble m 44) (cond (Nat.ble m 41) (cond (Nat.ble m 40) (cond (Nat.beq m 40) (yX4_size) (⟨"", "", ""⟩)) (cond (Nat.beq m 41) (yX4_isInside) (⟨"", "", ""⟩))) (cond (Nat.ble m 42) (cond (Nat.beq m 42) (yX4_at) (⟨"", "", ""⟩)) (cond (Nat.ble m 43) (cond (Nat.beq m 43) (yX4_put) (⟨"", "", ""⟩)) (cond (Nat.beq m 44) (yX4_add) (⟨"", "", ""⟩))))) (cond (Nat.ble m 46) (cond (Nat.ble m 45) (cond (Nat.beq m 45) (yX4_cutTo) (⟨"", "", ""⟩)) (cond (Nat.beq m 46) (yX4_copyFrom) (⟨"", "", ""⟩))) (cond (Nat.ble m 47) (cond (Nat.beq m 47) (yX5_init) (⟨"", "", ""⟩)) (cond (Nat.ble m 48) (cond (Nat.beq m 48) (yX5_formAt) (⟨"", "", ""⟩)) (cond (Nat.beq m 49) (yX5_numberFor) (⟨"", "", ""⟩)))))) (cond (Nat.ble m 54) (cond (Nat.ble m 51) (cond (Nat.ble m 50) (cond (Nat.beq m 50) (yX5_keep) (⟨"", "", ""⟩)) (cond (Nat.beq m 51) (yX6_init) (⟨"", "", ""⟩))) (cond (Nat.ble m 52) (cond (Nat.beq m 52) (yX6_copyFrom) (⟨"", "", ""⟩)) (cond (Nat.ble m 53) (cond (Nat.beq m 53) (yX6_addRecord) (⟨"", "", ""⟩)) (cond (Nat.beq m 54) (yX6_shapeOf) (⟨"", "", ""⟩))))) (cond (Nat.ble m 56) (cond (Nat.ble m 55) (cond (Nat.beq m 55) (yX6_setShapeOf) (⟨"", "", ""⟩)) (cond (Nat.beq m 56) (yX6_has) (⟨"", "", ""⟩))) (cond (Nat.ble m 57) (cond (Nat.beq m 57) (yX6_recordsRead) (⟨"", "", ""⟩)) (cond (Nat.ble m 58) (cond (Nat.beq m 58) (yX6_recordsLeft) (⟨"", "", ""⟩)) (cond (Nat.beq m 59) (yX6_recordsWith) (⟨"", "", ""⟩))))))) (cond (Nat.ble m 69) (cond (Nat.ble m 64) (cond (Nat.ble m 61) (cond (Nat.ble m 60) (cond (Nat.beq m 60) (yX6_recordWith) (⟨"", "", ""⟩)) (cond (Nat.beq m 61) (yX6_valueAt) (⟨"", "", ""⟩))) (cond (Nat.ble m 62) (cond (Nat.beq m 62) (yX6_setValue) (⟨"", "", ""⟩)) (cond (Nat.ble m 63) (cond (Nat.beq m 63) (yX7_init) (⟨"", "", ""⟩)) (cond (Nat.beq m 64) (yX7_append) (⟨"", "", ""⟩))))) (cond (Nat.ble m 66) (cond (Nat.ble m 65) (cond (Nat.beq m 65) (yX7_clearText) (⟨"", "", ""⟩)) (cond (Nat.beq m 66) (yX7_read) (⟨"", "", ""⟩))) (cond (Nat.ble m 67) (cond (Nat.beq m 67) (yX7_discard) (⟨"", "", ""⟩)) (cond (Nat.ble m 68) (cond (Nat.beq m 68) (yX7_change) (⟨"", "", ""⟩)) (cond (Nat.beq m 69) (yX7_drop) (⟨"", "", ""⟩)))))) (cond (Nat.ble m 74) (cond (Nat.ble m 71) (cond (Nat.ble m 70) (cond (Nat.beq m 70) (yX7_setBound) (⟨"", "", ""⟩)) (cond (Nat.beq m 71) (yX7_undo) (⟨"", "", ""⟩))) (cond (Nat.ble m 72) (cond (Nat.beq m 72) (yX7_count) (⟨"", "", ""⟩)) (cond (Nat.ble m 73) (cond (Nat.beq m 73) (yX7_record) (⟨"", "", ""⟩)) (cond (Nat.beq m 74) (yX7_character) (⟨"", "", ""⟩))))) (cond (Nat.ble m 77) (cond (Nat.ble m 75) (cond (Nat.beq m 75) (yX7_value) (⟨"", "", ""⟩)) (cond (Nat.ble m 76) (cond (Nat.beq m 76) (yX7_path) (⟨"", "", ""⟩)) (cond (Nat.beq m 77) (yX7_shape) (⟨"", "", ""⟩)))) (cond (Nat.ble m 78) (cond (Nat.beq m 78) (yX7_column) (⟨"", "", ""⟩)) (cond (Nat.ble m 79) (cond (Nat.beq m 79) (yX7_field) (⟨"", "", ""⟩)) (cond (Nat.beq m 80) (yX7_sizeWith) (⟨"", "", ""⟩))))))))) (cond (Nat.ble m 120) (cond (Nat.ble m 100) (cond (Nat.ble m 90) (cond (Nat.ble m 85) (cond (Nat.ble m 82) (cond (Nat.ble m 81) (cond (Nat.beq m 81) (yX7_bestBound) (⟨"", "", ""⟩)) (cond (Nat.beq m 82) (yX7_like) (⟨"", "", ""⟩))) (cond (Nat.ble m 83) (cond (Nat.beq m 83) (yX7_isPath) (⟨"", "", ""⟩)) (cond (Nat.ble m 84) (cond (Nat.beq m 84) (yX7_isShape) (⟨"", "", ""⟩)) (cond (Nat.beq m 85) (yX7_isBound) (⟨"", "", ""⟩))))) (cond (Nat.ble m 87) (cond (Nat.ble m 86) (cond (Nat.beq m 86) (yX7_isCommon) (⟨"", "", ""⟩)) (cond (Nat.beq m 87) (yX7_formOf) (⟨"", "", ""⟩))) (cond (Nat.ble m 88) (cond (Nat.beq m 88) (yX7_takeText) (⟨"", "", ""⟩)) (cond (Nat.ble m 89) (cond (Nat.beq m 89) (yX7_learnShape) (⟨"", "", ""⟩)) (cond (Nat.beq m 90) (yX7_fillRemainder) (⟨"", "", ""⟩)))))) (cond (Nat.ble m 95) (cond (Nat.ble m 92) (cond (Nat.ble m 91) (cond (Nat.beq m 91) (yX7_dropValues) (⟨"", "", ""⟩)) (cond (Nat.beq m 92) (yX7_commonShapes) (⟨"", "", ""⟩))) (cond (Nat.ble m 93) (cond (Nat.beq m 93) (yX7_rareRecords) (⟨"", "", ""⟩)) (cond (Nat.ble m 94) (cond (Nat.beq m 94) (yX7_sizeFor) (⟨"", "", ""⟩)) (cond (Nat.beq m 95) (yX7_costOf) (⟨"", "", ""⟩))))) (cond (Nat.ble m 97) (cond (Nat.ble m 96) (cond (Nat.beq m 96) (yX7_recordsHolding) (⟨"", "", ""⟩)) (cond (Nat.beq m 97) (yX7_sumOfPath) (⟨"", "", ""⟩))) (cond (Nat.ble m 98) (cond (Nat.beq m 98) (yX7_sumOfRecord) (⟨"", "", ""⟩)) (cond (Nat.ble m 99) (cond (Nat.beq m 99) (yX7_writeText) (⟨"", "", ""⟩)) (cond (Nat.beq m 100) (yX7_writeClosings) (⟨"", "", ""⟩))))))) (cond (Nat.ble m 110) (cond (Nat.ble m 105) (cond (Nat.ble m 102) (cond (Nat.ble m 101) (cond (Nat.beq m 101) (yX7_writeName) (⟨"", "", ""⟩)) (cond (Nat.beq m 102) (yX7_writeNumber) (⟨"", "", ""⟩))) (cond (Nat.ble m 103) (cond (Nat.beq m 103) (yX8_init) (⟨"", "", ""⟩)) (cond (Nat.ble m 104) (cond (Nat.beq m 104) (yX8_in) (⟨"", "", ""⟩)) (cond (Nat.beq m 105) (yX8_copies) (⟨"", "", ""⟩))))) (cond (Nat.ble m 107) (cond (Nat.ble m 106) (cond (Nat.beq m 106) (yX8_records) (⟨"", "", ""⟩)) (cond (Nat.beq m 107) (yX8_isPath) (⟨"", "", ""⟩))) (cond (Nat.ble m 108) (cond (Nat.beq m 108) (yX8_isShape) (⟨"", "", ""⟩)) (cond (Nat.ble m 109) (cond (Nat.beq m 109) (yX8_shapeOf) (⟨"", "", ""⟩)) (cond (Nat.beq m 110) (yX8_isRecord) (⟨"", "", ""⟩)))))) (cond (Nat.ble m 115) (cond (Nat.ble m 112) (cond (Nat.ble m 111) (cond (Nat.beq m 111) (yX8_valueOf) (⟨"", "", ""⟩)) (cond (Nat.beq m 112) (yX8_letterOf) (⟨"", "", ""⟩))) (cond (Nat.ble m 113) (cond (Nat.beq m 113) (yX8_innerOf) (⟨"", "", ""⟩)) (cond (Nat.ble m 114) (cond (Nat.beq m 114) (yX8_fieldsOf) (⟨"", "", ""⟩)) (cond (Nat.beq m 115) (yX8_fieldOf) (⟨"", "", ""⟩))))) (cond (Nat.ble m 117) (cond (Nat.ble m 116) (cond (Nat.beq m 116) (yX8_leavesOf) (⟨"", "", ""⟩)) (cond (Nat.beq m 117) (yX8_branchesOf) (⟨"", "", ""⟩))) (cond (Nat.ble m 118) (cond (Nat.beq m 118) (yX8_leafAt) (⟨"", "", ""⟩)) (cond (Nat.ble m 119) (cond (Nat.beq m 119) (yX8_isBranch) (⟨"", "", ""⟩)) (cond (Nat.beq m 120) (yX8_haveOf) (⟨"", "", ""⟩)))))))) (cond (Nat.ble m 140) (cond (Nat.ble m 130) (cond (Nat.ble m 125) (cond (Nat.ble m 122) (cond (Nat.ble m 121) (cond (Nat.beq m 121) (yX8_isCommon) (⟨"", "", ""⟩)) (cond (Nat.beq m 122) (yX8_commonMany) (⟨"", "", ""⟩))) (cond (Nat.ble m 123) (cond (Nat.beq m 123) (yX8_recordMany) (⟨"", "", ""⟩)) (cond (Nat.ble m 124) (cond (Nat.beq m 124) (yX8_writes) (⟨"", "", ""⟩)) (cond (Nat.beq m 125) (yX8_writesValue) (⟨"", "", ""⟩))))) (cond (Nat.ble m 127) (cond (Nat.ble m 126) (cond (Nat.beq m 126) (yX8_writesAll) (⟨"", "", ""⟩)) (cond (Nat.beq m 127) (yX8_stands) (⟨"", "", ""⟩))) (cond (Nat.ble m 128) (cond (Nat.beq m 128) (yX8_readsNumber) (⟨"", "", ""⟩)) (cond (Nat.ble m 129) (cond (Nat.beq m 129) (yX8_numberMany) (⟨"", "", ""⟩)) (cond (Nat.beq m 130) (yX8_takesSign) (⟨"", "", ""⟩)))))) (cond (Nat.ble m 135) (cond (Nat.ble m 132) (cond (Nat.ble m 131) (cond (Nat.beq m 131) (yX8_takesLetter) (⟨"", "", ""⟩)) (cond (Nat.beq m 132) (yX8_faultOf) (⟨"", "", ""⟩))) (cond (Nat.ble m 133) (cond (Nat.beq m 133) (yX8_pathWith) (⟨"", "", ""⟩)) (cond (Nat.ble m 134) (cond (Nat.beq m 134) (yX8_laysPaths) (⟨"", "", ""⟩)) (cond (Nat.beq m 135) (yX8_isRow) (⟨"", "", ""⟩))))) (cond (Nat.ble m 137) (cond (Nat.ble m 136) (cond (Nat.beq m 136) (yX8_findsShape) (⟨"", "", ""⟩)) (cond (Nat.beq m 137) (yX8_append) (⟨"", "", ""⟩))) (cond (Nat.ble m 138) (cond (Nat.beq m 138) (yX8_clearText) (⟨"", "", ""⟩)) (cond (Nat.ble m 139) (cond (Nat.beq m 139) (yX8_read) (⟨"", "", ""⟩)) (cond (Nat.beq m 140) (yX8_discard) (⟨"", "", ""⟩))))))) (cond (Nat.ble m 150) (cond (Nat.ble m 145) (cond (Nat.ble m 142) (cond (Nat.ble m 141) (cond (Nat.beq m 141) (yX8_change) (⟨"", "", ""⟩)) (cond (Nat.beq m 142) (yX8_isWithin) (⟨"", "", ""⟩))) (cond (Nat.ble m 143) (cond (Nat.beq m 143) (yX8_drop) (⟨"", "", ""⟩)) (cond (Nat.ble m 144) (cond (Nat.beq m 144) (yX8_setBound) (⟨"", "", ""⟩)) (cond (Nat.beq m 145) (yX8_undo) (⟨"", "", ""⟩))))) (cond (Nat.ble m 147) (cond (Nat.ble m 146) (cond (Nat.beq m 146) (yX8_rareMany) (⟨"", "", ""⟩)) (cond (Nat.beq m 147) (yX8_sizeBy) (⟨"", "", ""⟩))) (cond (Nat.ble m 148) (cond (Nat.beq m 148) (yX8_count) (⟨"", "", ""⟩)) (cond (Nat.ble m 149) (cond (Nat.beq m 149) (yX8_sumOf) (⟨"", "", ""⟩)) (cond (Nat.beq m 150) (yX8_record) (⟨"", "", ""⟩)))))) (cond (Nat.ble m 155) (cond (Nat.ble m 152) (cond (Nat.ble m 151) (cond (Nat.beq m 151) (yX8_character) (⟨"", "", ""⟩)) (cond (Nat.beq m 152) (yX8_value) (⟨"", "", ""⟩))) (cond (Nat.ble m 153) (cond (Nat.beq m 153) (yX8_overRecords) (⟨"", "", ""⟩)) (cond (Nat.ble m 154) (cond (Nat.beq m 154) (yX8_path) (⟨"", "", ""⟩)) (cond (Nat.beq m 155) (yX8_shape) (⟨"", "", ""⟩))))) (cond (Nat.ble m 158) (cond (Nat.ble m 156) (cond (Nat.beq m 156) (yX8_column) (⟨"", "", ""⟩)) (cond (Nat.ble m 157) (cond (Nat.beq m 157) (yX8_field) (⟨"", "", ""⟩)) (cond (Nat.beq m 158) (yX8_sizeWith) (⟨"", "", ""⟩)))) (cond (Nat.ble m 159) (cond (Nat.beq m 159) (yX8_bestBound) (⟨"", "", ""⟩)) (cond (Nat.ble m 160) (cond (Nat.beq m 160) (yX8_inCommon) (⟨"", "", ""⟩)) (cond (Nat.beq m 161) (yX8_like) (⟨"", "", ""⟩)))))))))
def qb (m : Nat) : ByteArray := cond (Nat.ble m 80) (cond (Nat.ble m 39) (cond (Nat.ble m 19) (cond (Nat.ble m 9) (cond (Nat.ble m 4) (cond (Nat.ble m 1) (cond (Nat.ble m 0) (cond (Nat.beq m 0) (cX0_init) (⟨#[]⟩)) (cond (Nat.beq m 1) (cX0_clear) (⟨#[]⟩))) (cond (Nat.ble m 2) (cond (Nat.beq m 2) (cX0_add) (⟨#[]⟩)) (cond (Nat.ble m 3) (cond (Nat.beq m 3) (cX0_copyFrom) (⟨#[]⟩)) (cond (Nat.beq m 4) (cX0_size) (⟨#[]⟩))))) (cond (Nat.ble m 6) (cond (Nat.ble m 5) (cond (Nat.beq m 5) (cX0_leaves) (⟨#[]⟩)) (cond (Nat.beq m 6) (cX0_branches) (⟨#[]⟩))) (cond (Nat.ble m 7) (cond (Nat.beq m 7) (cX0_at) (⟨#[]⟩)) (cond (Nat.ble m 8) (cond (Nat.beq m 8) (cX0_isBranchAt) (⟨#[]⟩)) (cond (Nat.beq m 9) (cX0_pathAt) (⟨#[]⟩)))))) (cond (Nat.ble m 14) (cond (Nat.ble m 11) (cond (Nat.ble m 10) (cond (Nat.beq m 10) (cX0_holds) (⟨#[]⟩)) (cond (Nat.beq m 11) (cX0_leafPlace) (⟨#[]⟩))) (cond (Nat.ble m 12) (cond (Nat.beq m 12) (cX0_isSameAs) (⟨#[]⟩)) (cond (Nat.ble m 13) (cond (Nat.beq m 13) (cX0_leavesInCommon) (⟨#[]⟩)) (cond (Nat.beq m 14) (cX1_init) (⟨#[]⟩))))) (cond (Nat.ble m 16) (cond (Nat.ble m 15) (cond (Nat.beq m 15) (cX1_size) (⟨#[]⟩)) (cond (Nat.beq m 16) (cX1_keep) (⟨#[]⟩))) (cond (Nat.ble m 17) (cond (Nat.beq m 17) (cX1_forgetOldest) (⟨#[]⟩)) (cond (Nat.ble m 18) (cond (Nat.beq m 18) (cX1_restore) (⟨#[]⟩)) (cond (Nat.beq m 19) (cX2_init) (⟨#[]⟩))))))) (cond (Nat.ble m 29) (cond (Nat.ble m 24) (cond (Nat.ble m 21) (cond (Nat.ble m 20) (cond (Nat.beq m 20) (cX2_size) (⟨#[]⟩)) (cond (Nat.beq m 21) (cX2_cutTo) (⟨#[]⟩))) (cond (Nat.ble m 22) (cond (Nat.beq m 22) (cX2_letterOf) (⟨#[]⟩)) (cond (Nat.ble m 23) (cond (Nat.beq m 23) (cX2_outerOf) (⟨#[]⟩)) (cond (Nat.beq m 24) (cX2_findOrAdd) (⟨#[]⟩))))) (cond (Nat.ble m 26) (cond (Nat.ble m 25) (cond (Nat.beq m 25) (cX2_isWithin) (⟨#[]⟩)) (cond (Nat.beq m 26) (cX3_init) (⟨#[]⟩))) (cond (Nat.ble m 27) (cond (Nat.beq m 27) (cX3_begin) (⟨#[]⟩)) (cond (Nat.ble m 28) (cond (Nat.beq m 28) (cX3_isComplete) (⟨#[]⟩)) (cond (Nat.beq m 29) (cX3_take) (⟨#[]⟩)))))) (cond (Nat.ble m 34) (cond (Nat.ble m 31) (cond (Nat.ble m 30) (cond (Nat.beq m 30) (cX3_isDigit) (⟨#[]⟩)) (cond (Nat.beq m 31) (cX3_takeSpace) (⟨#[]⟩))) (cond (Nat.ble m 32) (cond (Nat.beq m 32) (cX3_takeOpening) (⟨#[]⟩)) (cond (Nat.ble m 33) (cond (Nat.beq m 33) (cX3_takeClosing) (⟨#[]⟩)) (cond (Nat.beq m 34) (cX3_takeLetter) (⟨#[]⟩))))) (cond (Nat.ble m 36) (cond (Nat.ble m 35) (cond (Nat.beq m 35) (cX3_takeColon) (⟨#[]⟩)) (cond (Nat.beq m 36) (cX3_takeFirstDigit) (⟨#[]⟩))) (cond (Nat.ble m 37) (cond (Nat.beq m 37) (cX3_takeNextDigit) (⟨#[]⟩)) (cond (Nat.ble m 38) (cond (Nat.beq m 38) (cX3_takeFieldEnd) (⟨#[]⟩)) (cond (Nat.beq m 39) (cX4_init) (⟨#[]⟩)))))))) (cond (Nat.ble m 59) (cond (Nat.ble m 49) (cond (Nat.ble m 44) (cond (Nat.ble m 41) (cond (Nat.ble m 40) (cond (Nat.beq m 40) (cX4_size) (⟨#[]⟩)) (cond (Nat.beq m 41) (cX4_isInside) (⟨#[]⟩))) (cond (Nat.ble m 42) (cond (Nat.beq m 42) (cX4_at) (⟨#[]⟩)) (cond (Nat.ble m 43) (cond (Nat.beq m 43) (cX4_put) (⟨#[]⟩)) (cond (Nat.beq m 44) (cX4_add) (⟨#[]⟩))))) (cond (Nat.ble m 46) (cond (Nat.ble m 45) (cond (Nat.beq m 45) (cX4_cutTo) (⟨#[]⟩)) (cond (Nat.beq m 46) (cX4_copyFrom) (⟨#[]⟩))) (cond (Nat.ble m 47) (cond (Nat.beq m 47) (cX5_init) (⟨#[]⟩)) (cond (Nat.ble m 48) (cond (Nat.beq m 48) (cX5_formAt) (⟨#[]⟩)) (cond (Nat.beq m 49) (cX5_numberFor) (⟨#[]⟩)))))) (cond (Nat.ble m 54) (cond (Nat.ble m 51) (cond (Nat.ble m 50) (cond (Nat.beq m 50) (cX5_keep) (⟨#[]⟩)) (cond (Nat.beq m 51) (cX6_init) (⟨#[]⟩))) (cond (Nat.ble m 52) (cond (Nat.beq m 52) (cX6_copyFrom) (⟨#[]⟩)) (cond (Nat.ble m 53) (cond (Nat.beq m 53) (cX6_addRecord) (⟨#[]⟩)) (cond (Nat.beq m 54) (cX6_shapeOf) (⟨#[]⟩))))) (cond (Nat.ble m 56) (cond (Nat.ble m 55) (cond (Nat.beq m 55) (cX6_setShapeOf) (⟨#[]⟩)) (cond (Nat.beq m 56) (cX6_has) (⟨#[]⟩))) (cond (Nat.ble m 57) (cond (Nat.beq m 57) (cX6_recordsRead) (⟨#[]⟩)) (cond (Nat.ble m 58) (cond (Nat.beq m 58) (cX6_recordsLeft) (⟨#[]⟩)) (cond (Nat.beq m 59) (cX6_recordsWith) (⟨#[]⟩))))))) (cond (Nat.ble m 69) (cond (Nat.ble m 64) (cond (Nat.ble m 61) (cond (Nat.ble m 60) (cond (Nat.beq m 60) (cX6_recordWith) (⟨#[]⟩)) (cond (Nat.beq m 61) (cX6_valueAt) (⟨#[]⟩))) (cond (Nat.ble m 62) (cond (Nat.beq m 62) (cX6_setValue) (⟨#[]⟩)) (cond (Nat.ble m 63) (cond (Nat.beq m 63) (cX7_init) (⟨#[]⟩)) (cond (Nat.beq m 64) (cX7_append) (⟨#[]⟩))))) (cond (Nat.ble m 66) (cond (Nat.ble m 65) (cond (Nat.beq m 65) (cX7_clearText) (⟨#[]⟩)) (cond (Nat.beq m 66) (cX7_read) (⟨#[]⟩))) (cond (Nat.ble m 67) (cond (Nat.beq m 67) (cX7_discard) (⟨#[]⟩)) (cond (Nat.ble m 68) (cond (Nat.beq m 68) (cX7_change) (⟨#[]⟩)) (cond (Nat.beq m 69) (cX7_drop) (⟨#[]⟩)))))) (cond (Nat.ble m 74) (cond (Nat.ble m 71) (cond (Nat.ble m 70) (cond (Nat.beq m 70) (cX7_setBound) (⟨#[]⟩)) (cond (Nat.beq m 71) (cX7_undo) (⟨#[]⟩))) (cond (Nat.ble m 72) (cond (Nat.beq m 72) (cX7_count) (⟨#[]⟩)) (cond (Nat.ble m 73) (cond (Nat.beq m 73) (cX7_record) (⟨#[]⟩)) (cond (Nat.beq m 74) (cX7_character) (⟨#[]⟩))))) (cond (Nat.ble m 77) (cond (Nat.ble m 75) (cond (Nat.beq m 75) (cX7_value) (⟨#[]⟩)) (cond (Nat.ble m 76) (cond (Nat.beq m 76) (cX7_path) (⟨#[]⟩)) (cond (Nat.beq m 77) (cX7_shape) (⟨#[]⟩)))) (cond (Nat.ble m 78) (cond (Nat.beq m 78) (cX7_column) (⟨#[]⟩)) (cond (Nat.ble m 79) (cond (Nat.beq m 79) (cX7_field) (⟨#[]⟩)) (cond (Nat.beq m 80) (cX7_sizeWith) (⟨#[]⟩))))))))) (cond (Nat.ble m 120) (cond (Nat.ble m 100) (cond (Nat.ble m 90) (cond (Nat.ble m 85) (cond (Nat.ble m 82) (cond (Nat.ble m 81) (cond (Nat.beq m 81) (cX7_bestBound) (⟨#[]⟩)) (cond (Nat.beq m 82) (cX7_like) (⟨#[]⟩))) (cond (Nat.ble m 83) (cond (Nat.beq m 83) (cX7_isPath) (⟨#[]⟩)) (cond (Nat.ble m 84) (cond (Nat.beq m 84) (cX7_isShape) (⟨#[]⟩)) (cond (Nat.beq m 85) (cX7_isBound) (⟨#[]⟩))))) (cond (Nat.ble m 87) (cond (Nat.ble m 86) (cond (Nat.beq m 86) (cX7_isCommon) (⟨#[]⟩)) (cond (Nat.beq m 87) (cX7_formOf) (⟨#[]⟩))) (cond (Nat.ble m 88) (cond (Nat.beq m 88) (cX7_takeText) (⟨#[]⟩)) (cond (Nat.ble m 89) (cond (Nat.beq m 89) (cX7_learnShape) (⟨#[]⟩)) (cond (Nat.beq m 90) (cX7_fillRemainder) (⟨#[]⟩)))))) (cond (Nat.ble m 95) (cond (Nat.ble m 92) (cond (Nat.ble m 91) (cond (Nat.beq m 91) (cX7_dropValues) (⟨#[]⟩)) (cond (Nat.beq m 92) (cX7_commonShapes) (⟨#[]⟩))) (cond (Nat.ble m 93) (cond (Nat.beq m 93) (cX7_rareRecords) (⟨#[]⟩)) (cond (Nat.ble m 94) (cond (Nat.beq m 94) (cX7_sizeFor) (⟨#[]⟩)) (cond (Nat.beq m 95) (cX7_costOf) (⟨#[]⟩))))) (cond (Nat.ble m 97) (cond (Nat.ble m 96) (cond (Nat.beq m 96) (cX7_recordsHolding) (⟨#[]⟩)) (cond (Nat.beq m 97) (cX7_sumOfPath) (⟨#[]⟩))) (cond (Nat.ble m 98) (cond (Nat.beq m 98) (cX7_sumOfRecord) (⟨#[]⟩)) (cond (Nat.ble m 99) (cond (Nat.beq m 99) (cX7_writeText) (⟨#[]⟩)) (cond (Nat.beq m 100) (cX7_writeClosings) (⟨#[]⟩))))))) (cond (Nat.ble m 110) (cond (Nat.ble m 105) (cond (Nat.ble m 102) (cond (Nat.ble m 101) (cond (Nat.beq m 101) (cX7_writeName) (⟨#[]⟩)) (cond (Nat.beq m 102) (cX7_writeNumber) (⟨#[]⟩))) (cond (Nat.ble m 103) (cond (Nat.beq m 103) (cX8_init) (⟨#[]⟩)) (cond (Nat.ble m 104) (cond (Nat.beq m 104) (cX8_in) (⟨#[]⟩)) (cond (Nat.beq m 105) (cX8_copies) (⟨#[]⟩))))) (cond (Nat.ble m 107) (cond (Nat.ble m 106) (cond (Nat.beq m 106) (cX8_records) (⟨#[]⟩)) (cond (Nat.beq m 107) (cX8_isPath) (⟨#[]⟩))) (cond (Nat.ble m 108) (cond (Nat.beq m 108) (cX8_isShape) (⟨#[]⟩)) (cond (Nat.ble m 109) (cond (Nat.beq m 109) (cX8_shapeOf) (⟨#[]⟩)) (cond (Nat.beq m 110) (cX8_isRecord) (⟨#[]⟩)))))) (cond (Nat.ble m 115) (cond (Nat.ble m 112) (cond (Nat.ble m 111) (cond (Nat.beq m 111) (cX8_valueOf) (⟨#[]⟩)) (cond (Nat.beq m 112) (cX8_letterOf) (⟨#[]⟩))) (cond (Nat.ble m 113) (cond (Nat.beq m 113) (cX8_innerOf) (⟨#[]⟩)) (cond (Nat.ble m 114) (cond (Nat.beq m 114) (cX8_fieldsOf) (⟨#[]⟩)) (cond (Nat.beq m 115) (cX8_fieldOf) (⟨#[]⟩))))) (cond (Nat.ble m 117) (cond (Nat.ble m 116) (cond (Nat.beq m 116) (cX8_leavesOf) (⟨#[]⟩)) (cond (Nat.beq m 117) (cX8_branchesOf) (⟨#[]⟩))) (cond (Nat.ble m 118) (cond (Nat.beq m 118) (cX8_leafAt) (⟨#[]⟩)) (cond (Nat.ble m 119) (cond (Nat.beq m 119) (cX8_isBranch) (⟨#[]⟩)) (cond (Nat.beq m 120) (cX8_haveOf) (⟨#[]⟩)))))))) (cond (Nat.ble m 140) (cond (Nat.ble m 130) (cond (Nat.ble m 125) (cond (Nat.ble m 122) (cond (Nat.ble m 121) (cond (Nat.beq m 121) (cX8_isCommon) (⟨#[]⟩)) (cond (Nat.beq m 122) (cX8_commonMany) (⟨#[]⟩))) (cond (Nat.ble m 123) (cond (Nat.beq m 123) (cX8_recordMany) (⟨#[]⟩)) (cond (Nat.ble m 124) (cond (Nat.beq m 124) (cX8_writes) (⟨#[]⟩)) (cond (Nat.beq m 125) (cX8_writesValue) (⟨#[]⟩))))) (cond (Nat.ble m 127) (cond (Nat.ble m 126) (cond (Nat.beq m 126) (cX8_writesAll) (⟨#[]⟩)) (cond (Nat.beq m 127) (cX8_stands) (⟨#[]⟩))) (cond (Nat.ble m 128) (cond (Nat.beq m 128) (cX8_readsNumber) (⟨#[]⟩)) (cond (Nat.ble m 129) (cond (Nat.beq m 129) (cX8_numberMany) (⟨#[]⟩)) (cond (Nat.beq m 130) (cX8_takesSign) (⟨#[]⟩)))))) (cond (Nat.ble m 135) (cond (Nat.ble m 132) (cond (Nat.ble m 131) (cond (Nat.beq m 131) (cX8_takesLetter) (⟨#[]⟩)) (cond (Nat.beq m 132) (cX8_faultOf) (⟨#[]⟩))) (cond (Nat.ble m 133) (cond (Nat.beq m 133) (cX8_pathWith) (⟨#[]⟩)) (cond (Nat.ble m 134) (cond (Nat.beq m 134) (cX8_laysPaths) (⟨#[]⟩)) (cond (Nat.beq m 135) (cX8_isRow) (⟨#[]⟩))))) (cond (Nat.ble m 137) (cond (Nat.ble m 136) (cond (Nat.beq m 136) (cX8_findsShape) (⟨#[]⟩)) (cond (Nat.beq m 137) (cX8_append) (⟨#[]⟩))) (cond (Nat.ble m 138) (cond (Nat.beq m 138) (cX8_clearText) (⟨#[]⟩)) (cond (Nat.ble m 139) (cond (Nat.beq m 139) (cX8_read) (⟨#[]⟩)) (cond (Nat.beq m 140) (cX8_discard) (⟨#[]⟩))))))) (cond (Nat.ble m 150) (cond (Nat.ble m 145) (cond (Nat.ble m 142) (cond (Nat.ble m 141) (cond (Nat.beq m 141) (cX8_change) (⟨#[]⟩)) (cond (Nat.beq m 142) (cX8_isWithin) (⟨#[]⟩))) (cond (Nat.ble m 143) (cond (Nat.beq m 143) (cX8_drop) (⟨#[]⟩)) (cond (Nat.ble m 144) (cond (Nat.beq m 144) (cX8_setBound) (⟨#[]⟩)) (cond (Nat.beq m 145) (cX8_undo) (⟨#[]⟩))))) (cond (Nat.ble m 147) (cond (Nat.ble m 146) (cond (Nat.beq m 146) (cX8_rareMany) (⟨#[]⟩)) (cond (Nat.beq m 147) (cX8_sizeBy) (⟨#[]⟩))) (cond (Nat.ble m 148) (cond (Nat.beq m 148) (cX8_count) (⟨#[]⟩)) (cond (Nat.ble m 149) (cond (Nat.beq m 149) (cX8_sumOf) (⟨#[]⟩)) (cond (Nat.beq m 150) (cX8_record) (⟨#[]⟩)))))) (cond (Nat.ble m 155) (cond (Nat.ble m 152) (cond (Nat.ble m 151) (cond (Nat.beq m 151) (cX8_character) (⟨#[]⟩)) (cond (Nat.beq m 152) (cX8_value) (⟨#[]⟩))) (cond (Nat.ble m 153) (cond (Nat.beq m 153) (cX8_overRecords) (⟨#[]⟩)) (cond (Nat.ble m 154) (cond (Nat.beq m 154) (cX8_path) (⟨#[]⟩)) (cond (Nat.beq m 155) (cX8_shape) (⟨#[]⟩))))) (cond (Nat.ble m 158) (cond (Nat.ble m 156) (cond (Nat.beq m 156) (cX8_column) (⟨#[]⟩)) (cond (Nat.ble m 157) (cond (Nat.beq m 157) (cX8_field) (⟨#[]⟩)) (cond (Nat.beq m 158) (cX8_sizeWith) (⟨#[]⟩)))) (cond (Nat.ble m 159) (cond (Nat.beq m 159) (cX8_bestBound) (⟨#[]⟩)) (cond (Nat.ble m 160) (cond (Nat.beq m 160) (cX8_inCommon) (⟨#[]⟩)) (cond (Nat.beq m 161) (cX8_like) (⟨#[]⟩)))))))))
def qret (m : Nat) : Option FieldType := cond (Nat.ble m 80) (cond (Nat.ble m 39) (cond (Nat.ble m 19) (cond (Nat.ble m 9) (cond (Nat.ble m 4) (cond (Nat.ble m 1) (cond (Nat.ble m 0) (cond (Nat.beq m 0) (none) (none)) (cond (Nat.beq m 1) (none) (none))) (cond (Nat.ble m 2) (cond (Nat.beq m 2) (none) (none)) (cond (Nat.ble m 3) (cond (Nat.beq m 3) (none) (none)) (cond (Nat.beq m 4) (some .int) (none))))) (cond (Nat.ble m 6) (cond (Nat.ble m 5) (cond (Nat.beq m 5) (some .int) (none)) (cond (Nat.beq m 6) (some .int) (none))) (cond (Nat.ble m 7) (cond (Nat.beq m 7) (some .int) (none)) (cond (Nat.ble m 8) (cond (Nat.beq m 8) (some .boolean) (none)) (cond (Nat.beq m 9) (some .int) (none)))))) (cond (Nat.ble m 14) (cond (Nat.ble m 11) (cond (Nat.ble m 10) (cond (Nat.beq m 10) (some .boolean) (none)) (cond (Nat.beq m 11) (some .int) (none))) (cond (Nat.ble m 12) (cond (Nat.beq m 12) (some .boolean) (none)) (cond (Nat.ble m 13) (cond (Nat.beq m 13) (some .int) (none)) (cond (Nat.beq m 14) (none) (none))))) (cond (Nat.ble m 16) (cond (Nat.ble m 15) (cond (Nat.beq m 15) (some .int) (none)) (cond (Nat.beq m 16) (none) (none))) (cond (Nat.ble m 17) (cond (Nat.beq m 17) (none) (none)) (cond (Nat.ble m 18) (cond (Nat.beq m 18) (none) (none)) (cond (Nat.beq m 19) (none) (none))))))) (cond (Nat.ble m 29) (cond (Nat.ble m 24) (cond (Nat.ble m 21) (cond (Nat.ble m 20) (cond (Nat.beq m 20) (some .int) (none)) (cond (Nat.beq m 21) (none) (none))) (cond (Nat.ble m 22) (cond (Nat.beq m 22) (some .int) (none)) (cond (Nat.ble m 23) (cond (Nat.beq m 23) (some .int) (none)) (cond (Nat.beq m 24) (some .int) (none))))) (cond (Nat.ble m 26) (cond (Nat.ble m 25) (cond (Nat.beq m 25) (some .boolean) (none)) (cond (Nat.beq m 26) (none) (none))) (cond (Nat.ble m 27) (cond (Nat.beq m 27) (none) (none)) (cond (Nat.ble m 28) (cond (Nat.beq m 28) (some .boolean) (none)) (cond (Nat.beq m 29) (some .boolean) (none)))))) (cond (Nat.ble m 34) (cond (Nat.ble m 31) (cond (Nat.ble m 30) (cond (Nat.beq m 30) (some .boolean) (none)) (cond (Nat.beq m 31) (none) (none))) (cond (Nat.ble m 32) (cond (Nat.beq m 32) (some .boolean) (none)) (cond (Nat.ble m 33) (cond (Nat.beq m 33) (some .boolean) (none)) (cond (Nat.beq m 34) (some .boolean) (none))))) (cond (Nat.ble m 36) (cond (Nat.ble m 35) (cond (Nat.beq m 35) (some .boolean) (none)) (cond (Nat.beq m 36) (some .boolean) (none))) (cond (Nat.ble m 37) (cond (Nat.beq m 37) (some .boolean) (none)) (cond (Nat.ble m 38) (cond (Nat.beq m 38) (some .boolean) (none)) (cond (Nat.beq m 39) (none) (none)))))))) (cond (Nat.ble m 59) (cond (Nat.ble m 49) (cond (Nat.ble m 44) (cond (Nat.ble m 41) (cond (Nat.ble m 40) (cond (Nat.beq m 40) (some .int) (none)) (cond (Nat.beq m 41) (some .boolean) (none))) (cond (Nat.ble m 42) (cond (Nat.beq m 42) (some .int) (none)) (cond (Nat.ble m 43) (cond (Nat.beq m 43) (none) (none)) (cond (Nat.beq m 44) (none) (none))))) (cond (Nat.ble m 46) (cond (Nat.ble m 45) (cond (Nat.beq m 45) (none) (none)) (cond (Nat.beq m 46) (none) (none))) (cond (Nat.ble m 47) (cond (Nat.beq m 47) (none) (none)) (cond (Nat.ble m 48) (cond (Nat.beq m 48) (some (.object "LikeRecords$Form")) (none)) (cond (Nat.beq m 49) (some .int) (none)))))) (cond (Nat.ble m 54) (cond (Nat.ble m 51) (cond (Nat.ble m 50) (cond (Nat.beq m 50) (none) (none)) (cond (Nat.beq m 51) (none) (none))) (cond (Nat.ble m 52) (cond (Nat.beq m 52) (none) (none)) (cond (Nat.ble m 53) (cond (Nat.beq m 53) (some .int) (none)) (cond (Nat.beq m 54) (some .int) (none))))) (cond (Nat.ble m 56) (cond (Nat.ble m 55) (cond (Nat.beq m 55) (none) (none)) (cond (Nat.beq m 56) (some .boolean) (none))) (cond (Nat.ble m 57) (cond (Nat.beq m 57) (some .int) (none)) (cond (Nat.ble m 58) (cond (Nat.beq m 58) (some .int) (none)) (cond (Nat.beq m 59) (some .int) (none))))))) (cond (Nat.ble m 69) (cond (Nat.ble m 64) (cond (Nat.ble m 61) (cond (Nat.ble m 60) (cond (Nat.beq m 60) (some .int) (none)) (cond (Nat.beq m 61) (some .int) (none))) (cond (Nat.ble m 62) (cond (Nat.beq m 62) (none) (none)) (cond (Nat.ble m 63) (cond (Nat.beq m 63) (none) (none)) (cond (Nat.beq m 64) (some .int) (none))))) (cond (Nat.ble m 66) (cond (Nat.ble m 65) (cond (Nat.beq m 65) (some .int) (none)) (cond (Nat.beq m 66) (some .int) (none))) (cond (Nat.ble m 67) (cond (Nat.beq m 67) (some .int) (none)) (cond (Nat.ble m 68) (cond (Nat.beq m 68) (some .int) (none)) (cond (Nat.beq m 69) (some .int) (none)))))) (cond (Nat.ble m 74) (cond (Nat.ble m 71) (cond (Nat.ble m 70) (cond (Nat.beq m 70) (some .int) (none)) (cond (Nat.beq m 71) (some .int) (none))) (cond (Nat.ble m 72) (cond (Nat.beq m 72) (some .int) (none)) (cond (Nat.ble m 73) (cond (Nat.beq m 73) (some .int) (none)) (cond (Nat.beq m 74) (some .int) (none))))) (cond (Nat.ble m 77) (cond (Nat.ble m 75) (cond (Nat.beq m 75) (some .int) (none)) (cond (Nat.ble m 76) (cond (Nat.beq m 76) (some .int) (none)) (cond (Nat.beq m 77) (some .int) (none)))) (cond (Nat.ble m 78) (cond (Nat.beq m 78) (some .int) (none)) (cond (Nat.ble m 79) (cond (Nat.beq m 79) (some .int) (none)) (cond (Nat.beq m 80) (some .int) (none))))))))) (cond (Nat.ble m 120) (cond (Nat.ble m 100) (cond (Nat.ble m 90) (cond (Nat.ble m 85) (cond (Nat.ble m 82) (cond (Nat.ble m 81) (cond (Nat.beq m 81) (some .int) (none)) (cond (Nat.beq m 82) (some .int) (none))) (cond (Nat.ble m 83) (cond (Nat.beq m 83) (some .boolean) (none)) (cond (Nat.ble m 84) (cond (Nat.beq m 84) (some .boolean) (none)) (cond (Nat.beq m 85) (some .boolean) (none))))) (cond (Nat.ble m 87) (cond (Nat.ble m 86) (cond (Nat.beq m 86) (some .boolean) (none)) (cond (Nat.beq m 87) (some (.object "LikeRecords$Form")) (none))) (cond (Nat.ble m 88) (cond (Nat.beq m 88) (some .int) (none)) (cond (Nat.ble m 89) (cond (Nat.beq m 89) (none) (none)) (cond (Nat.beq m 90) (none) (none)))))) (cond (Nat.ble m 95) (cond (Nat.ble m 92) (cond (Nat.ble m 91) (cond (Nat.beq m 91) (none) (none)) (cond (Nat.beq m 92) (some .int) (none))) (cond (Nat.ble m 93) (cond (Nat.beq m 93) (some .int) (none)) (cond (Nat.ble m 94) (cond (Nat.beq m 94) (some .int) (none)) (cond (Nat.beq m 95) (some .int) (none))))) (cond (Nat.ble m 97) (cond (Nat.ble m 96) (cond (Nat.beq m 96) (some .int) (none)) (cond (Nat.beq m 97) (some .int) (none))) (cond (Nat.ble m 98) (cond (Nat.beq m 98) (some .int) (none)) (cond (Nat.ble m 99) (cond (Nat.beq m 99) (some .int) (none)) (cond (Nat.beq m 100) (some .int) (none))))))) (cond (Nat.ble m 110) (cond (Nat.ble m 105) (cond (Nat.ble m 102) (cond (Nat.ble m 101) (cond (Nat.beq m 101) (none) (none)) (cond (Nat.beq m 102) (none) (none))) (cond (Nat.ble m 103) (cond (Nat.beq m 103) (none) (none)) (cond (Nat.ble m 104) (cond (Nat.beq m 104) (some .boolean) (none)) (cond (Nat.beq m 105) (none) (none))))) (cond (Nat.ble m 107) (cond (Nat.ble m 106) (cond (Nat.beq m 106) (none) (none)) (cond (Nat.beq m 107) (some .boolean) (none))) (cond (Nat.ble m 108) (cond (Nat.beq m 108) (some .boolean) (none)) (cond (Nat.ble m 109) (cond (Nat.beq m 109) (some .int) (none)) (cond (Nat.beq m 110) (some .boolean) (none)))))) (cond (Nat.ble m 115) (cond (Nat.ble m 112) (cond (Nat.ble m 111) (cond (Nat.beq m 111) (some .int) (none)) (cond (Nat.beq m 112) (some .int) (none))) (cond (Nat.ble m 113) (cond (Nat.beq m 113) (some .int) (none)) (cond (Nat.ble m 114) (cond (Nat.beq m 114) (some .int) (none)) (cond (Nat.beq m 115) (some .int) (none))))) (cond (Nat.ble m 117) (cond (Nat.ble m 116) (cond (Nat.beq m 116) (some .int) (none)) (cond (Nat.beq m 117) (some .int) (none))) (cond (Nat.ble m 118) (cond (Nat.beq m 118) (some .int) (none)) (cond (Nat.ble m 119) (cond (Nat.beq m 119) (some .boolean) (none)) (cond (Nat.beq m 120) (some .int) (none)))))))) (cond (Nat.ble m 140) (cond (Nat.ble m 130) (cond (Nat.ble m 125) (cond (Nat.ble m 122) (cond (Nat.ble m 121) (cond (Nat.beq m 121) (some .boolean) (none)) (cond (Nat.beq m 122) (some .int) (none))) (cond (Nat.ble m 123) (cond (Nat.beq m 123) (some .int) (none)) (cond (Nat.ble m 124) (cond (Nat.beq m 124) (none) (none)) (cond (Nat.beq m 125) (none) (none))))) (cond (Nat.ble m 127) (cond (Nat.ble m 126) (cond (Nat.beq m 126) (none) (none)) (cond (Nat.beq m 127) (some .boolean) (none))) (cond (Nat.ble m 128) (cond (Nat.beq m 128) (some .boolean) (none)) (cond (Nat.ble m 129) (cond (Nat.beq m 129) (some .int) (none)) (cond (Nat.beq m 130) (some .boolean) (none)))))) (cond (Nat.ble m 135) (cond (Nat.ble m 132) (cond (Nat.ble m 131) (cond (Nat.beq m 131) (none) (none)) (cond (Nat.beq m 132) (some .int) (none))) (cond (Nat.ble m 133) (cond (Nat.beq m 133) (some .int) (none)) (cond (Nat.ble m 134) (cond (Nat.beq m 134) (some .boolean) (none)) (cond (Nat.beq m 135) (some .boolean) (none))))) (cond (Nat.ble m 137) (cond (Nat.ble m 136) (cond (Nat.beq m 136) (some .int) (none)) (cond (Nat.beq m 137) (some .int) (none))) (cond (Nat.ble m 138) (cond (Nat.beq m 138) (some .int) (none)) (cond (Nat.ble m 139) (cond (Nat.beq m 139) (some .int) (none)) (cond (Nat.beq m 140) (some .int) (none))))))) (cond (Nat.ble m 150) (cond (Nat.ble m 145) (cond (Nat.ble m 142) (cond (Nat.ble m 141) (cond (Nat.beq m 141) (some .int) (none)) (cond (Nat.beq m 142) (some .boolean) (none))) (cond (Nat.ble m 143) (cond (Nat.beq m 143) (some .int) (none)) (cond (Nat.ble m 144) (cond (Nat.beq m 144) (some .int) (none)) (cond (Nat.beq m 145) (some .int) (none))))) (cond (Nat.ble m 147) (cond (Nat.ble m 146) (cond (Nat.beq m 146) (some .int) (none)) (cond (Nat.beq m 147) (some .int) (none))) (cond (Nat.ble m 148) (cond (Nat.beq m 148) (some .int) (none)) (cond (Nat.ble m 149) (cond (Nat.beq m 149) (some .int) (none)) (cond (Nat.beq m 150) (some .int) (none)))))) (cond (Nat.ble m 155) (cond (Nat.ble m 152) (cond (Nat.ble m 151) (cond (Nat.beq m 151) (some .int) (none)) (cond (Nat.beq m 152) (some .int) (none))) (cond (Nat.ble m 153) (cond (Nat.beq m 153) (some .int) (none)) (cond (Nat.ble m 154) (cond (Nat.beq m 154) (some .int) (none)) (cond (Nat.beq m 155) (some .int) (none))))) (cond (Nat.ble m 158) (cond (Nat.ble m 156) (cond (Nat.beq m 156) (some .int) (none)) (cond (Nat.ble m 157) (cond (Nat.beq m 157) (some .int) (none)) (cond (Nat.beq m 158) (some .int) (none)))) (cond (Nat.ble m 159) (cond (Nat.beq m 159) (some .int) (none)) (cond (Nat.ble m 160) (cond (Nat.beq m 160) (some .int) (none)) (cond (Nat.beq m 161) (some .int) (none)))))))))
def qfr (m : Nat) : Nat × Nat := cond (Nat.ble m 80) (cond (Nat.ble m 39) (cond (Nat.ble m 19) (cond (Nat.ble m 9) (cond (Nat.ble m 4) (cond (Nat.ble m 1) (cond (Nat.ble m 0) (cond (Nat.beq m 0) ((2, 42)) ((0, 0))) (cond (Nat.beq m 1) ((1, 21)) ((0, 0)))) (cond (Nat.ble m 2) (cond (Nat.beq m 2) ((1, 21)) ((0, 0))) (cond (Nat.ble m 3) (cond (Nat.beq m 3) ((3, 64)) ((0, 0))) (cond (Nat.beq m 4) ((1, 20)) ((0, 0)))))) (cond (Nat.ble m 6) (cond (Nat.ble m 5) (cond (Nat.beq m 5) ((0, 0)) ((0, 0))) (cond (Nat.beq m 6) ((1, 20)) ((0, 0)))) (cond (Nat.ble m 7) (cond (Nat.beq m 7) ((2, 42)) ((0, 0))) (cond (Nat.ble m 8) (cond (Nat.beq m 8) ((2, 42)) ((0, 0))) (cond (Nat.beq m 9) ((2, 42)) ((0, 0))))))) (cond (Nat.ble m 14) (cond (Nat.ble m 11) (cond (Nat.ble m 10) (cond (Nat.beq m 10) ((2, 42)) ((0, 0))) (cond (Nat.beq m 11) ((3, 63)) ((0, 0)))) (cond (Nat.ble m 12) (cond (Nat.beq m 12) ((3, 63)) ((0, 0))) (cond (Nat.ble m 13) (cond (Nat.beq m 13) ((3, 64)) ((0, 0))) (cond (Nat.beq m 14) ((3, 62)) ((0, 0)))))) (cond (Nat.ble m 16) (cond (Nat.ble m 15) (cond (Nat.beq m 15) ((0, 0)) ((0, 0))) (cond (Nat.beq m 16) ((4, 85)) ((0, 0)))) (cond (Nat.ble m 17) (cond (Nat.beq m 17) ((0, 0)) ((0, 0))) (cond (Nat.ble m 18) (cond (Nat.beq m 18) ((4, 85)) ((0, 0))) (cond (Nat.beq m 19) ((2, 42)) ((0, 0)))))))) (cond (Nat.ble m 29) (cond (Nat.ble m 24) (cond (Nat.ble m 21) (cond (Nat.ble m 20) (cond (Nat.beq m 20) ((1, 20)) ((0, 0))) (cond (Nat.beq m 21) ((1, 21)) ((0, 0)))) (cond (Nat.ble m 22) (cond (Nat.beq m 22) ((2, 42)) ((0, 0))) (cond (Nat.ble m 23) (cond (Nat.beq m 23) ((2, 42)) ((0, 0))) (cond (Nat.beq m 24) ((2, 42)) ((0, 0)))))) (cond (Nat.ble m 26) (cond (Nat.ble m 25) (cond (Nat.beq m 25) ((2, 42)) ((0, 0))) (cond (Nat.beq m 26) ((3, 62)) ((0, 0)))) (cond (Nat.ble m 27) (cond (Nat.beq m 27) ((2, 42)) ((0, 0))) (cond (Nat.ble m 28) (cond (Nat.beq m 28) ((0, 0)) ((0, 0))) (cond (Nat.beq m 29) ((5, 104)) ((0, 0))))))) (cond (Nat.ble m 34) (cond (Nat.ble m 31) (cond (Nat.ble m 30) (cond (Nat.beq m 30) ((0, 0)) ((0, 0))) (cond (Nat.beq m 31) ((0, 0)) ((0, 0)))) (cond (Nat.ble m 32) (cond (Nat.beq m 32) ((2, 42)) ((0, 0))) (cond (Nat.ble m 33) (cond (Nat.beq m 33) ((3, 63)) ((0, 0))) (cond (Nat.beq m 34) ((3, 65)) ((0, 0)))))) (cond (Nat.ble m 36) (cond (Nat.ble m 35) (cond (Nat.beq m 35) ((0, 0)) ((0, 0))) (cond (Nat.beq m 36) ((2, 42)) ((0, 0)))) (cond (Nat.ble m 37) (cond (Nat.beq m 37) ((2, 43)) ((0, 0))) (cond (Nat.ble m 38) (cond (Nat.beq m 38) ((4, 83)) ((0, 0))) (cond (Nat.beq m 39) ((1, 21)) ((0, 0))))))))) (cond (Nat.ble m 59) (cond (Nat.ble m 49) (cond (Nat.ble m 44) (cond (Nat.ble m 41) (cond (Nat.ble m 40) (cond (Nat.beq m 40) ((0, 0)) ((0, 0))) (cond (Nat.beq m 41) ((0, 0)) ((0, 0)))) (cond (Nat.ble m 42) (cond (Nat.beq m 42) ((1, 21)) ((0, 0))) (cond (Nat.ble m 43) (cond (Nat.beq m 43) ((1, 21)) ((0, 0))) (cond (Nat.beq m 44) ((0, 0)) ((0, 0)))))) (cond (Nat.ble m 46) (cond (Nat.ble m 45) (cond (Nat.beq m 45) ((0, 0)) ((0, 0))) (cond (Nat.beq m 46) ((2, 42)) ((0, 0)))) (cond (Nat.ble m 47) (cond (Nat.beq m 47) ((3, 62)) ((0, 0))) (cond (Nat.ble m 48) (cond (Nat.beq m 48) ((0, 0)) ((0, 0))) (cond (Nat.beq m 49) ((4, 85)) ((0, 0))))))) (cond (Nat.ble m 54) (cond (Nat.ble m 51) (cond (Nat.ble m 50) (cond (Nat.beq m 50) ((4, 85)) ((0, 0))) (cond (Nat.beq m 51) ((2, 42)) ((0, 0)))) (cond (Nat.ble m 52) (cond (Nat.beq m 52) ((3, 64)) ((0, 0))) (cond (Nat.ble m 53) (cond (Nat.beq m 53) ((2, 42)) ((0, 0))) (cond (Nat.beq m 54) ((2, 42)) ((0, 0)))))) (cond (Nat.ble m 56) (cond (Nat.ble m 55) (cond (Nat.beq m 55) ((2, 43)) ((0, 0))) (cond (Nat.beq m 56) ((2, 42)) ((0, 0)))) (cond (Nat.ble m 57) (cond (Nat.beq m 57) ((1, 20)) ((0, 0))) (cond (Nat.ble m 58) (cond (Nat.beq m 58) ((3, 63)) ((0, 0))) (cond (Nat.beq m 59) ((2, 42)) ((0, 0)))))))) (cond (Nat.ble m 69) (cond (Nat.ble m 64) (cond (Nat.ble m 61) (cond (Nat.ble m 60) (cond (Nat.beq m 60) ((2, 42)) ((0, 0))) (cond (Nat.beq m 61) ((2, 42)) ((0, 0)))) (cond (Nat.ble m 62) (cond (Nat.beq m 62) ((2, 43)) ((0, 0))) (cond (Nat.ble m 63) (cond (Nat.beq m 63) ((4, 83)) ((0, 0))) (cond (Nat.beq m 64) ((1, 21)) ((0, 0)))))) (cond (Nat.ble m 66) (cond (Nat.ble m 65) (cond (Nat.beq m 65) ((1, 21)) ((0, 0))) (cond (Nat.beq m 66) ((7, 146)) ((0, 0)))) (cond (Nat.ble m 67) (cond (Nat.beq m 67) ((5, 107)) ((0, 0))) (cond (Nat.ble m 68) (cond (Nat.beq m 68) ((5, 107)) ((0, 0))) (cond (Nat.beq m 69) ((6, 129)) ((0, 0))))))) (cond (Nat.ble m 74) (cond (Nat.ble m 71) (cond (Nat.ble m 70) (cond (Nat.beq m 70) ((5, 108)) ((0, 0))) (cond (Nat.beq m 71) ((5, 107)) ((0, 0)))) (cond (Nat.ble m 72) (cond (Nat.beq m 72) ((5, 110)) ((0, 0))) (cond (Nat.ble m 73) (cond (Nat.beq m 73) ((5, 113)) ((0, 0))) (cond (Nat.beq m 74) ((5, 113)) ((0, 0)))))) (cond (Nat.ble m 77) (cond (Nat.ble m 75) (cond (Nat.beq m 75) ((4, 86)) ((0, 0))) (cond (Nat.ble m 76) (cond (Nat.beq m 76) ((5, 110)) ((0, 0))) (cond (Nat.beq m 77) ((5, 113)) ((0, 0))))) (cond (Nat.ble m 78) (cond (Nat.beq m 78) ((4, 86)) ((0, 0))) (cond (Nat.ble m 79) (cond (Nat.beq m 79) ((3, 63)) ((0, 0))) (cond (Nat.beq m 80) ((5, 110)) ((0, 0)))))))))) (cond (Nat.ble m 120) (cond (Nat.ble m 100) (cond (Nat.ble m 90) (cond (Nat.ble m 85) (cond (Nat.ble m 82) (cond (Nat.ble m 81) (cond (Nat.beq m 81) ((5, 110)) ((0, 0))) (cond (Nat.beq m 82) ((4, 87)) ((0, 0)))) (cond (Nat.ble m 83) (cond (Nat.beq m 83) ((0, 0)) ((0, 0))) (cond (Nat.ble m 84) (cond (Nat.beq m 84) ((0, 0)) ((0, 0))) (cond (Nat.beq m 85) ((0, 0)) ((0, 0)))))) (cond (Nat.ble m 87) (cond (Nat.ble m 86) (cond (Nat.beq m 86) ((3, 65)) ((0, 0))) (cond (Nat.beq m 87) ((3, 63)) ((0, 0)))) (cond (Nat.ble m 88) (cond (Nat.beq m 88) ((6, 125)) ((0, 0))) (cond (Nat.ble m 89) (cond (Nat.beq m 89) ((5, 107)) ((0, 0))) (cond (Nat.beq m 90) ((3, 66)) ((0, 0))))))) (cond (Nat.ble m 95) (cond (Nat.ble m 92) (cond (Nat.ble m 91) (cond (Nat.beq m 91) ((3, 66)) ((0, 0))) (cond (Nat.beq m 92) ((4, 86)) ((0, 0)))) (cond (Nat.ble m 93) (cond (Nat.beq m 93) ((4, 86)) ((0, 0))) (cond (Nat.ble m 94) (cond (Nat.beq m 94) ((4, 85)) ((0, 0))) (cond (Nat.beq m 95) ((4, 86)) ((0, 0)))))) (cond (Nat.ble m 97) (cond (Nat.ble m 96) (cond (Nat.beq m 96) ((3, 65)) ((0, 0))) (cond (Nat.beq m 97) ((4, 86)) ((0, 0)))) (cond (Nat.ble m 98) (cond (Nat.beq m 98) ((3, 64)) ((0, 0))) (cond (Nat.ble m 99) (cond (Nat.beq m 99) ((4, 87)) ((0, 0))) (cond (Nat.beq m 100) ((3, 63)) ((0, 0)))))))) (cond (Nat.ble m 110) (cond (Nat.ble m 105) (cond (Nat.ble m 102) (cond (Nat.ble m 101) (cond (Nat.beq m 101) ((3, 63)) ((0, 0))) (cond (Nat.beq m 102) ((1, 21)) ((0, 0)))) (cond (Nat.ble m 103) (cond (Nat.beq m 103) ((1, 20)) ((0, 0))) (cond (Nat.ble m 104) (cond (Nat.beq m 104) ((0, 0)) ((0, 0))) (cond (Nat.beq m 105) ((0, 0)) ((0, 0)))))) (cond (Nat.ble m 107) (cond (Nat.ble m 106) (cond (Nat.beq m 106) ((1, 24)) ((0, 0))) (cond (Nat.beq m 107) ((1, 22)) ((0, 0)))) (cond (Nat.ble m 108) (cond (Nat.beq m 108) ((1, 22)) ((0, 0))) (cond (Nat.ble m 109) (cond (Nat.beq m 109) ((0, 0)) ((0, 0))) (cond (Nat.beq m 110) ((1, 22)) ((0, 0))))))) (cond (Nat.ble m 115) (cond (Nat.ble m 112) (cond (Nat.ble m 111) (cond (Nat.beq m 111) ((0, 0)) ((0, 0))) (cond (Nat.beq m 112) ((0, 0)) ((0, 0)))) (cond (Nat.ble m 113) (cond (Nat.beq m 113) ((0, 0)) ((0, 0))) (cond (Nat.ble m 114) (cond (Nat.beq m 114) ((0, 0)) ((0, 0))) (cond (Nat.beq m 115) ((0, 0)) ((0, 0)))))) (cond (Nat.ble m 117) (cond (Nat.ble m 116) (cond (Nat.beq m 116) ((1, 22)) ((0, 0))) (cond (Nat.beq m 117) ((2, 45)) ((0, 0)))) (cond (Nat.ble m 118) (cond (Nat.beq m 118) ((1, 22)) ((0, 0))) (cond (Nat.ble m 119) (cond (Nat.beq m 119) ((1, 22)) ((0, 0))) (cond (Nat.beq m 120) ((1, 21)) ((0, 0))))))))) (cond (Nat.ble m 140) (cond (Nat.ble m 130) (cond (Nat.ble m 125) (cond (Nat.ble m 122) (cond (Nat.ble m 121) (cond (Nat.beq m 121) ((2, 44)) ((0, 0))) (cond (Nat.beq m 122) ((3, 66)) ((0, 0)))) (cond (Nat.ble m 123) (cond (Nat.beq m 123) ((1, 21)) ((0, 0))) (cond (Nat.ble m 124) (cond (Nat.beq m 124) ((0, 0)) ((0, 0))) (cond (Nat.beq m 125) ((1, 21)) ((0, 0)))))) (cond (Nat.ble m 127) (cond (Nat.ble m 126) (cond (Nat.beq m 126) ((2, 42)) ((0, 0))) (cond (Nat.beq m 127) ((0, 0)) ((0, 0)))) (cond (Nat.ble m 128) (cond (Nat.beq m 128) ((1, 22)) ((0, 0))) (cond (Nat.ble m 129) (cond (Nat.beq m 129) ((0, 0)) ((0, 0))) (cond (Nat.beq m 130) ((0, 0)) ((0, 0))))))) (cond (Nat.ble m 135) (cond (Nat.ble m 132) (cond (Nat.ble m 131) (cond (Nat.beq m 131) ((0, 0)) ((0, 0))) (cond (Nat.beq m 132) ((2, 44)) ((0, 0)))) (cond (Nat.ble m 133) (cond (Nat.beq m 133) ((1, 21)) ((0, 0))) (cond (Nat.ble m 134) (cond (Nat.beq m 134) ((2, 44)) ((0, 0))) (cond (Nat.beq m 135) ((1, 22)) ((0, 0)))))) (cond (Nat.ble m 137) (cond (Nat.ble m 136) (cond (Nat.beq m 136) ((2, 45)) ((0, 0))) (cond (Nat.beq m 137) ((1, 22)) ((0, 0)))) (cond (Nat.ble m 138) (cond (Nat.beq m 138) ((0, 0)) ((0, 0))) (cond (Nat.ble m 139) (cond (Nat.beq m 139) ((3, 67)) ((0, 0))) (cond (Nat.beq m 140) ((2, 46)) ((0, 0)))))))) (cond (Nat.ble m 150) (cond (Nat.ble m 145) (cond (Nat.ble m 142) (cond (Nat.ble m 141) (cond (Nat.beq m 141) ((2, 46)) ((0, 0))) (cond (Nat.beq m 142) ((1, 21)) ((0, 0)))) (cond (Nat.ble m 143) (cond (Nat.beq m 143) ((3, 67)) ((0, 0))) (cond (Nat.ble m 144) (cond (Nat.beq m 144) ((4, 89)) ((0, 0))) (cond (Nat.beq m 145) ((1, 24)) ((0, 0)))))) (cond (Nat.ble m 147) (cond (Nat.ble m 146) (cond (Nat.beq m 146) ((3, 66)) ((0, 0))) (cond (Nat.beq m 147) ((3, 66)) ((0, 0)))) (cond (Nat.ble m 148) (cond (Nat.beq m 148) ((4, 90)) ((0, 0))) (cond (Nat.ble m 149) (cond (Nat.beq m 149) ((2, 45)) ((0, 0))) (cond (Nat.beq m 150) ((3, 69)) ((0, 0))))))) (cond (Nat.ble m 155) (cond (Nat.ble m 152) (cond (Nat.ble m 151) (cond (Nat.beq m 151) ((3, 69)) ((0, 0))) (cond (Nat.beq m 152) ((2, 46)) ((0, 0)))) (cond (Nat.ble m 153) (cond (Nat.beq m 153) ((3, 66)) ((0, 0))) (cond (Nat.ble m 154) (cond (Nat.beq m 154) ((4, 93)) ((0, 0))) (cond (Nat.beq m 155) ((3, 69)) ((0, 0)))))) (cond (Nat.ble m 158) (cond (Nat.ble m 156) (cond (Nat.beq m 156) ((3, 66)) ((0, 0))) (cond (Nat.ble m 157) (cond (Nat.beq m 157) ((2, 43)) ((0, 0))) (cond (Nat.beq m 158) ((4, 90)) ((0, 0))))) (cond (Nat.ble m 159) (cond (Nat.beq m 159) ((4, 90)) ((0, 0))) (cond (Nat.ble m 160) (cond (Nat.beq m 160) ((2, 46)) ((0, 0))) (cond (Nat.beq m 161) ((3, 71)) ((0, 0))))))))))
def qR (c : Nat) : String := cond (Nat.ble c 3) (cond (Nat.ble c 1) (cond (Nat.ble c 0) (cond (Nat.beq c 0) (RX0) ("")) (cond (Nat.beq c 1) (RX1) (""))) (cond (Nat.ble c 2) (cond (Nat.beq c 2) (RX2) ("")) (cond (Nat.beq c 3) (RX3) ("")))) (cond (Nat.ble c 5) (cond (Nat.ble c 4) (cond (Nat.beq c 4) (RX4) ("")) (cond (Nat.beq c 5) (RX5) (""))) (cond (Nat.ble c 6) (cond (Nat.beq c 6) (RX6) ("")) (cond (Nat.ble c 7) (cond (Nat.beq c 7) (RX7) ("")) (cond (Nat.beq c 8) (RX8) ("")))))
def qT (c : Nat) : u_T := cond (Nat.ble c 3) (cond (Nat.ble c 1) (cond (Nat.ble c 0) (cond (Nat.beq c 0) (TX0) (TX0)) (cond (Nat.beq c 1) (TX1) (TX0))) (cond (Nat.ble c 2) (cond (Nat.beq c 2) (TX2) (TX0)) (cond (Nat.beq c 3) (TX3) (TX0)))) (cond (Nat.ble c 5) (cond (Nat.ble c 4) (cond (Nat.beq c 4) (TX4) (TX0)) (cond (Nat.beq c 5) (TX5) (TX0))) (cond (Nat.ble c 6) (cond (Nat.beq c 6) (TX6) (TX0)) (cond (Nat.ble c 7) (cond (Nat.beq c 7) (TX7) (TX0)) (cond (Nat.beq c 8) (TX8) (TX0)))))
def qty (c : Nat) : Nat → FieldType := cond (Nat.ble c 3) (cond (Nat.ble c 1) (cond (Nat.ble c 0) (cond (Nat.beq c 0) (tyX0) (tyX0)) (cond (Nat.beq c 1) (tyX1) (tyX0))) (cond (Nat.ble c 2) (cond (Nat.beq c 2) (tyX2) (tyX0)) (cond (Nat.beq c 3) (tyX3) (tyX0)))) (cond (Nat.ble c 5) (cond (Nat.ble c 4) (cond (Nat.beq c 4) (tyX4) (tyX0)) (cond (Nat.beq c 5) (tyX5) (tyX0))) (cond (Nat.ble c 6) (cond (Nat.beq c 6) (tyX6) (tyX0)) (cond (Nat.ble c 7) (cond (Nat.beq c 7) (tyX7) (tyX0)) (cond (Nat.beq c 8) (tyX8) (tyX0)))))
def qfl : List (Nat × Nat × Nat × Nat × Nat) := [(0, 14, 0, 0, 132), (0, 20, 0, 1, 133), (1, 11, 1, 0, 220), (1, 18, 1, 1, 221), (2, 14, 2, 0, 117), (2, 20, 2, 1, 118), (3, 12, 3, 0, 141), (3, 21, 3, 1, 143), (3, 30, 3, 2, 145), (3, 34, 3, 3, 147), (3, 38, 3, 4, 148), (3, 41, 3, 5, 149), (3, 44, 3, 6, 150), (4, 15, 4, 0, 95), (4, 21, 4, 1, 96), (5, 11, 5, 0, 175), (5, 18, 5, 1, 176), (6, 14, 6, 0, 192), (6, 20, 6, 1, 193), (6, 23, 6, 2, 194), (6, 27, 6, 3, 196), (6, 30, 6, 4, 198), (7, 14, 7, 0, 227), (7, 18, 7, 1, 228), (7, 24, 7, 2, 229), (7, 28, 3, 0, 142), (7, 32, 7, 3, 230), (7, 36, 7, 4, 231), (7, 43, 7, 5, 232), (7, 50, 7, 6, 233), (7, 57, 7, 7, 234), (7, 71, 6, 2, 195), (7, 85, 3, 1, 144), (7, 88, 6, 3, 197), (7, 109, 3, 2, 146), (7, 160, 6, 4, 199), (8, 7, 8, 0, 667), (8, 13, 8, 1, 668), (8, 16, 8, 3, 670), (8, 19, 8, 4, 671), (8, 22, 8, 6, 673), (8, 25, 8, 8, 675), (8, 28, 8, 9, 676), (8, 31, 8, 10, 677), (8, 34, 8, 11, 678), (8, 37, 8, 13, 680), (8, 40, 8, 17, 684), (8, 43, 8, 2, 669), (8, 76, 8, 7, 674), (8, 95, 8, 12, 679), (8, 98, 8, 14, 681), (8, 101, 8, 15, 682), (8, 104, 8, 5, 672), (8, 107, 8, 16, 683), (8, 128, 8, 18, 685)]
theorem qfl_ok : qfl.all (fun q => decide (lw_tbl[q.2.2.2.2]? = some (Cond.fieldLink (qR q.1) q.2.1 (qT q.2.2.1 q.2.2.2.1).1 (qT q.2.2.1 q.2.2.2.1).2.1 (qT q.2.2.1 q.2.2.2.1).2.2.1))) = true := by decide +kernel
def qml : List (Nat × Nat × Nat × Nat) := [(0, 11, 39, 131), (0, 24, 45, 289), (0, 27, 44, 319), (0, 30, 46, 435), (0, 34, 40, 343), (0, 38, 42, 344), (0, 42, 8, 481), (0, 46, 4, 387), (0, 47, 7, 391), (0, 48, 10, 660), (1, 17, 51, 219), (1, 22, 17, 408), (1, 25, 52, 412), (2, 11, 39, 116), (2, 23, 40, 337), (2, 27, 45, 284), (2, 30, 42, 328), (2, 34, 44, 338), (3, 11, 19, 111), (3, 20, 0, 126), (3, 27, 39, 140), (3, 47, 21, 280), (3, 50, 1, 285), (3, 53, 45, 290), (3, 54, 31, 307), (3, 57, 32, 311), (3, 61, 33, 320), (3, 65, 34, 329), (3, 69, 35, 345), (3, 72, 30, 349), (3, 75, 36, 352), (3, 78, 37, 358), (3, 81, 38, 367), (3, 84, 2, 315), (3, 87, 23, 324), (3, 91, 24, 333), (3, 95, 10, 339), (3, 98, 40, 356), (3, 102, 44, 357), (3, 103, 42, 362), (3, 106, 43, 363), (4, 25, 41, 299), (4, 29, 40, 420), (4, 32, 42, 421), (4, 36, 44, 422), (5, 17, 0, 174), (5, 22, 48, 379), (5, 26, 12, 383), (5, 30, 3, 431), (6, 11, 39, 191), (6, 33, 46, 416), (6, 37, 44, 440), (6, 40, 42, 441), (6, 44, 40, 399), (6, 48, 43, 454), (6, 52, 56, 459), (7, 11, 39, 88), (7, 23, 26, 105), (7, 35, 47, 168), (7, 42, 0, 183), (7, 49, 51, 186), (7, 56, 14, 213), (7, 61, 40, 256), (7, 65, 44, 260), (7, 68, 45, 268), (7, 75, 27, 276), (7, 78, 88, 291), (7, 81, 28, 371), (7, 91, 49, 375), (7, 95, 57, 395), (7, 98, 20, 400), (7, 101, 16, 404), (7, 105, 89, 423), (7, 112, 53, 436), (7, 116, 56, 446), (7, 120, 55, 450), (7, 124, 58, 455), (7, 127, 83, 464), (7, 130, 87, 468), (7, 134, 11, 477), (7, 138, 61, 485), (7, 142, 62, 489), (7, 146, 10, 497), (7, 149, 90, 498), (7, 153, 91, 514), (7, 157, 85, 523), (7, 163, 92, 527), (7, 166, 15, 543), (7, 167, 18, 547), (7, 170, 93, 555), (7, 173, 94, 559), (7, 176, 54, 472), (7, 179, 5, 563), (7, 182, 6, 567), (7, 185, 99, 575), (7, 188, 98, 596), (7, 191, 42, 295), (7, 194, 22, 588), (7, 197, 23, 579), (7, 200, 96, 612), (7, 203, 97, 616), (7, 206, 95, 620), (7, 209, 84, 628), (7, 212, 48, 476), (7, 215, 59, 535), (7, 218, 86, 531), (7, 221, 60, 636), (7, 224, 4, 503), (7, 225, 7, 512), (7, 226, 13, 656), (7, 230, 29, 303), (7, 233, 50, 427), (7, 235, 1, 502), (7, 238, 9, 504), (7, 241, 25, 508), (7, 245, 2, 513), (7, 246, 8, 518), (7, 249, 100, 580), (7, 252, 101, 584), (7, 255, 102, 592), (8, 47, 105, 764), (8, 51, 104, 729), (8, 55, 109, 811), (8, 59, 114, 791), (8, 62, 115, 795), (8, 66, 116, 879), (8, 69, 120, 859), (8, 72, 121, 855), (8, 79, 124, 891), (8, 83, 113, 779), (8, 86, 112, 775), (8, 89, 111, 831), (8, 92, 125, 895), (8, 110, 127, 744), (8, 114, 131, 748), (8, 117, 129, 752), (8, 121, 128, 756), (8, 125, 130, 760), (8, 131, 133, 771), (8, 134, 135, 787), (8, 137, 132, 740), (8, 140, 134, 767), (8, 143, 136, 783), (8, 146, 106, 799), (8, 150, 110, 807), (8, 153, 123, 815), (8, 156, 107, 823), (8, 159, 118, 827), (8, 162, 119, 839), (8, 165, 142, 843), (8, 168, 122, 851), (8, 171, 146, 871), (8, 174, 147, 875), (8, 177, 126, 887), (8, 181, 117, 899), (8, 184, 149, 903), (8, 187, 153, 919), (8, 190, 108, 927), (8, 193, 160, 951)]
theorem qml_ok : qml.all (fun q => decide (lw_tbl[q.2.2.2]? = some (Cond.methodLink (qR q.1) q.2.1 (qy q.2.2.1)))) = true := by decide +kernel
def qcl : List (Nat × Nat × Nat × Nat) := [(0, 9, 4, 130), (1, 9, 6, 217), (2, 9, 4, 115), (3, 9, 2, 109), (3, 18, 0, 124), (3, 25, 4, 139), (5, 9, 0, 172), (6, 9, 4, 190), (7, 9, 4, 86), (7, 21, 3, 103), (7, 33, 5, 166), (7, 40, 0, 182), (7, 47, 6, 184), (7, 54, 1, 211)]
theorem qcl_ok : qcl.all (fun q => decide (lw_tbl[q.2.2.2]? = some (Cond.classLink (qR q.1) q.2.1 (qR q.2.2.1)))) = true := by decide +kernel
def qmx : List (Nat × Nat × Nat) := [(4, 9, 92)]
theorem qmx_ok : qmx.all (fun q => decide (lw_tbl[q.2.2]? = some (Cond.methodLink (qR q.1) q.2.1 Lib.Math.max.name))) = true := by decide +kernel
def qoi : List (Nat × Nat × Nat) := [(0, 3, 129), (1, 3, 216), (2, 3, 114), (3, 3, 108), (4, 3, 91), (5, 3, 171), (6, 3, 189), (7, 3, 83), (8, 1, 666)]
theorem qoi_ok : qoi.all (fun q => decide (lw_tbl[q.2.2]? = some (Cond.methodLink (qR q.1) q.2.1 Lib.objectInit))) = true := by decide +kernel
theorem qw_max : lw_tbl[93]? = some (Cond.static Lib.Math.max.name) ∧ lw_tbl[70]? = some (Cond.initialized "java/lang/Math") ∧ lw_tbl[94]? = some (Cond.code Lib.Math.max.name Lib.Math.max.code 2 (some .int)) := by decide +kernel
theorem qw_oin : lw_tbl[84]? = some (Cond.instanceMethod Lib.objectInit) ∧ lw_tbl[85]? = some (Cond.code Lib.objectInit ⟨#[0xb1]⟩ 1 none) := by decide +kernel
theorem qw_arr : lw_tbl[102]? = some (Cond.arrayClass .int) := by decide +kernel
def qao : List (Nat × Nat) := [(0, 173), (6, 218)]
theorem qao_ok : qao.all (fun q => decide (lw_tbl[q.2]? = some (Cond.arrayOver (.object (qR q.1))))) = true := by decide +kernel
theorem qu_0 : ∀ w ∈ u_ws RX0 TX0 2, w ∈ lw_tbl := by
  intro w hw
  have h : u_ws RX0 TX0 2 = [134, 136].filterMap (fun i => lw_tbl[i]?) := by decide +kernel
  rw [h] at hw
  obtain ⟨i, -, hi⟩ := List.mem_filterMap.mp hw
  exact List.mem_of_getElem? hi
theorem qu_1 : ∀ w ∈ u_ws RX1 TX1 2, w ∈ lw_tbl := by
  intro w hw
  have h : u_ws RX1 TX1 2 = [222, 224].filterMap (fun i => lw_tbl[i]?) := by decide +kernel
  rw [h] at hw
  obtain ⟨i, -, hi⟩ := List.mem_filterMap.mp hw
  exact List.mem_of_getElem? hi
theorem qu_2 : ∀ w ∈ u_ws RX2 TX2 2, w ∈ lw_tbl := by
  intro w hw
  have h : u_ws RX2 TX2 2 = [119, 121].filterMap (fun i => lw_tbl[i]?) := by decide +kernel
  rw [h] at hw
  obtain ⟨i, -, hi⟩ := List.mem_filterMap.mp hw
  exact List.mem_of_getElem? hi
theorem qu_3 : ∀ w ∈ u_ws RX3 TX3 7, w ∈ lw_tbl := by
  intro w hw
  have h : u_ws RX3 TX3 7 = [151, 153, 155, 157, 159, 161, 163].filterMap (fun i => lw_tbl[i]?) := by decide +kernel
  rw [h] at hw
  obtain ⟨i, -, hi⟩ := List.mem_filterMap.mp hw
  exact List.mem_of_getElem? hi
theorem qu_4 : ∀ w ∈ u_ws RX4 TX4 2, w ∈ lw_tbl := by
  intro w hw
  have h : u_ws RX4 TX4 2 = [97, 99].filterMap (fun i => lw_tbl[i]?) := by decide +kernel
  rw [h] at hw
  obtain ⟨i, -, hi⟩ := List.mem_filterMap.mp hw
  exact List.mem_of_getElem? hi
theorem qu_5 : ∀ w ∈ u_ws RX5 TX5 2, w ∈ lw_tbl := by
  intro w hw
  have h : u_ws RX5 TX5 2 = [177, 179].filterMap (fun i => lw_tbl[i]?) := by decide +kernel
  rw [h] at hw
  obtain ⟨i, -, hi⟩ := List.mem_filterMap.mp hw
  exact List.mem_of_getElem? hi
theorem qu_6 : ∀ w ∈ u_ws RX6 TX6 5, w ∈ lw_tbl := by
  intro w hw
  have h : u_ws RX6 TX6 5 = [200, 202, 204, 206, 208].filterMap (fun i => lw_tbl[i]?) := by decide +kernel
  rw [h] at hw
  obtain ⟨i, -, hi⟩ := List.mem_filterMap.mp hw
  exact List.mem_of_getElem? hi
theorem qu_7 : ∀ w ∈ u_ws RX7 TX7 8, w ∈ lw_tbl := by
  intro w hw
  have h : u_ws RX7 TX7 8 = [235, 237, 239, 241, 243, 245, 247, 249].filterMap (fun i => lw_tbl[i]?) := by decide +kernel
  rw [h] at hw
  obtain ⟨i, -, hi⟩ := List.mem_filterMap.mp hw
  exact List.mem_of_getElem? hi
theorem qu_8 : ∀ w ∈ u_ws RX8 TX8 19, w ∈ lw_tbl := by
  intro w hw
  have h : u_ws RX8 TX8 19 = [686, 688, 690, 692, 694, 696, 698, 700, 702, 704, 706, 708, 710, 712, 714, 716, 718, 720, 722].filterMap (fun i => lw_tbl[i]?) := by decide +kernel
  rw [h] at hw
  obtain ⟨i, -, hi⟩ := List.mem_filterMap.mp hw
  exact List.mem_of_getElem? hi
def qcp (c : Nat) : Nat × Nat := cond (Nat.ble c 3) (cond (Nat.ble c 1) (cond (Nat.ble c 0) (cond (Nat.beq c 0) ((125, 73)) ((0, 0))) (cond (Nat.beq c 1) ((212, 76)) ((0, 0)))) (cond (Nat.ble c 2) (cond (Nat.beq c 2) ((110, 72)) ((0, 0))) (cond (Nat.beq c 3) ((104, 71)) ((0, 0))))) (cond (Nat.ble c 5) (cond (Nat.ble c 4) (cond (Nat.beq c 4) ((87, 69)) ((0, 0))) (cond (Nat.beq c 5) ((167, 74)) ((0, 0)))) (cond (Nat.ble c 6) (cond (Nat.beq c 6) ((185, 75)) ((0, 0))) (cond (Nat.ble c 7) (cond (Nat.beq c 7) ((79, 68)) ((0, 0))) (cond (Nat.beq c 8) ((662, 77)) ((0, 0))))))
theorem qcp_ok : (List.range 9).all (fun c => decide (lw_tbl[(qcp c).1]? = some (Cond.instantiable (qR c) (qfs c).length) ∧ lw_tbl[(qcp c).2]? = some (Cond.initialized (qR c)))) = true := by decide +kernel
def qmp (m : Nat) : Nat × Nat × Nat := cond (Nat.ble m 80) (cond (Nat.ble m 39) (cond (Nat.ble m 19) (cond (Nat.ble m 9) (cond (Nat.ble m 4) (cond (Nat.ble m 1) (cond (Nat.ble m 0) (cond (Nat.beq m 0) ((128, 127, 127)) ((0, 0, 0))) (cond (Nat.beq m 1) ((288, 286, 287)) ((0, 0, 0)))) (cond (Nat.ble m 2) (cond (Nat.beq m 2) ((318, 316, 317)) ((0, 0, 0))) (cond (Nat.ble m 3) (cond (Nat.beq m 3) ((434, 432, 433)) ((0, 0, 0))) (cond (Nat.beq m 4) ((390, 388, 389)) ((0, 0, 0)))))) (cond (Nat.ble m 6) (cond (Nat.ble m 5) (cond (Nat.beq m 5) ((566, 564, 565)) ((0, 0, 0))) (cond (Nat.beq m 6) ((570, 568, 569)) ((0, 0, 0)))) (cond (Nat.ble m 7) (cond (Nat.beq m 7) ((394, 392, 393)) ((0, 0, 0))) (cond (Nat.ble m 8) (cond (Nat.beq m 8) ((484, 482, 483)) ((0, 0, 0))) (cond (Nat.beq m 9) ((507, 505, 506)) ((0, 0, 0))))))) (cond (Nat.ble m 14) (cond (Nat.ble m 11) (cond (Nat.ble m 10) (cond (Nat.beq m 10) ((342, 340, 341)) ((0, 0, 0))) (cond (Nat.beq m 11) ((480, 478, 479)) ((0, 0, 0)))) (cond (Nat.ble m 12) (cond (Nat.beq m 12) ((386, 384, 385)) ((0, 0, 0))) (cond (Nat.ble m 13) (cond (Nat.beq m 13) ((659, 657, 658)) ((0, 0, 0))) (cond (Nat.beq m 14) ((215, 214, 214)) ((0, 0, 0)))))) (cond (Nat.ble m 16) (cond (Nat.ble m 15) (cond (Nat.beq m 15) ((546, 544, 545)) ((0, 0, 0))) (cond (Nat.beq m 16) ((407, 405, 406)) ((0, 0, 0)))) (cond (Nat.ble m 17) (cond (Nat.beq m 17) ((411, 410, 10)) ((0, 0, 0))) (cond (Nat.ble m 18) (cond (Nat.beq m 18) ((550, 548, 549)) ((0, 0, 0))) (cond (Nat.beq m 19) ((113, 112, 112)) ((0, 0, 0)))))))) (cond (Nat.ble m 29) (cond (Nat.ble m 24) (cond (Nat.ble m 21) (cond (Nat.ble m 20) (cond (Nat.beq m 20) ((403, 401, 402)) ((0, 0, 0))) (cond (Nat.beq m 21) ((283, 281, 282)) ((0, 0, 0)))) (cond (Nat.ble m 22) (cond (Nat.beq m 22) ((591, 589, 590)) ((0, 0, 0))) (cond (Nat.ble m 23) (cond (Nat.beq m 23) ((327, 325, 326)) ((0, 0, 0))) (cond (Nat.beq m 24) ((336, 334, 335)) ((0, 0, 0)))))) (cond (Nat.ble m 26) (cond (Nat.ble m 25) (cond (Nat.beq m 25) ((511, 509, 510)) ((0, 0, 0))) (cond (Nat.beq m 26) ((107, 106, 106)) ((0, 0, 0)))) (cond (Nat.ble m 27) (cond (Nat.beq m 27) ((279, 277, 278)) ((0, 0, 0))) (cond (Nat.ble m 28) (cond (Nat.beq m 28) ((374, 372, 373)) ((0, 0, 0))) (cond (Nat.beq m 29) ((306, 304, 305)) ((0, 0, 0))))))) (cond (Nat.ble m 34) (cond (Nat.ble m 31) (cond (Nat.ble m 30) (cond (Nat.beq m 30) ((351, 350, 350)) ((0, 0, 0))) (cond (Nat.beq m 31) ((310, 309, 2)) ((0, 0, 0)))) (cond (Nat.ble m 32) (cond (Nat.beq m 32) ((314, 313, 3)) ((0, 0, 0))) (cond (Nat.ble m 33) (cond (Nat.beq m 33) ((323, 322, 4)) ((0, 0, 0))) (cond (Nat.beq m 34) ((332, 331, 5)) ((0, 0, 0)))))) (cond (Nat.ble m 36) (cond (Nat.ble m 35) (cond (Nat.beq m 35) ((348, 347, 6)) ((0, 0, 0))) (cond (Nat.beq m 36) ((355, 354, 7)) ((0, 0, 0)))) (cond (Nat.ble m 37) (cond (Nat.beq m 37) ((361, 360, 8)) ((0, 0, 0))) (cond (Nat.ble m 38) (cond (Nat.beq m 38) ((370, 369, 9)) ((0, 0, 0))) (cond (Nat.beq m 39) ((90, 89, 89)) ((0, 0, 0))))))))) (cond (Nat.ble m 59) (cond (Nat.ble m 49) (cond (Nat.ble m 44) (cond (Nat.ble m 41) (cond (Nat.ble m 40) (cond (Nat.beq m 40) ((259, 257, 258)) ((0, 0, 0))) (cond (Nat.beq m 41) ((302, 301, 1)) ((0, 0, 0)))) (cond (Nat.ble m 42) (cond (Nat.beq m 42) ((298, 296, 297)) ((0, 0, 0))) (cond (Nat.ble m 43) (cond (Nat.beq m 43) ((366, 364, 365)) ((0, 0, 0))) (cond (Nat.beq m 44) ((263, 261, 262)) ((0, 0, 0)))))) (cond (Nat.ble m 46) (cond (Nat.ble m 45) (cond (Nat.beq m 45) ((271, 269, 270)) ((0, 0, 0))) (cond (Nat.beq m 46) ((419, 417, 418)) ((0, 0, 0)))) (cond (Nat.ble m 47) (cond (Nat.beq m 47) ((170, 169, 169)) ((0, 0, 0))) (cond (Nat.ble m 48) (cond (Nat.beq m 48) ((382, 380, 381)) ((0, 0, 0))) (cond (Nat.beq m 49) ((378, 376, 377)) ((0, 0, 0))))))) (cond (Nat.ble m 54) (cond (Nat.ble m 51) (cond (Nat.ble m 50) (cond (Nat.beq m 50) ((430, 428, 429)) ((0, 0, 0))) (cond (Nat.beq m 51) ((188, 187, 187)) ((0, 0, 0)))) (cond (Nat.ble m 52) (cond (Nat.beq m 52) ((415, 413, 414)) ((0, 0, 0))) (cond (Nat.ble m 53) (cond (Nat.beq m 53) ((439, 437, 438)) ((0, 0, 0))) (cond (Nat.beq m 54) ((475, 473, 474)) ((0, 0, 0)))))) (cond (Nat.ble m 56) (cond (Nat.ble m 55) (cond (Nat.beq m 55) ((453, 451, 452)) ((0, 0, 0))) (cond (Nat.beq m 56) ((449, 447, 448)) ((0, 0, 0)))) (cond (Nat.ble m 57) (cond (Nat.beq m 57) ((398, 396, 397)) ((0, 0, 0))) (cond (Nat.ble m 58) (cond (Nat.beq m 58) ((458, 456, 457)) ((0, 0, 0))) (cond (Nat.beq m 59) ((538, 536, 537)) ((0, 0, 0)))))))) (cond (Nat.ble m 69) (cond (Nat.ble m 64) (cond (Nat.ble m 61) (cond (Nat.ble m 60) (cond (Nat.beq m 60) ((639, 637, 638)) ((0, 0, 0))) (cond (Nat.beq m 61) ((488, 486, 487)) ((0, 0, 0)))) (cond (Nat.ble m 62) (cond (Nat.beq m 62) ((492, 490, 491)) ((0, 0, 0))) (cond (Nat.ble m 63) (cond (Nat.beq m 63) ((82, 81, 81)) ((0, 0, 0))) (cond (Nat.beq m 64) ((255, 253, 254)) ((0, 0, 0)))))) (cond (Nat.ble m 66) (cond (Nat.ble m 65) (cond (Nat.beq m 65) ((267, 265, 266)) ((0, 0, 0))) (cond (Nat.beq m 66) ((275, 273, 274)) ((0, 0, 0)))) (cond (Nat.ble m 67) (cond (Nat.beq m 67) ((445, 443, 444)) ((0, 0, 0))) (cond (Nat.ble m 68) (cond (Nat.beq m 68) ((463, 461, 462)) ((0, 0, 0))) (cond (Nat.beq m 69) ((496, 494, 495)) ((0, 0, 0))))))) (cond (Nat.ble m 74) (cond (Nat.ble m 71) (cond (Nat.ble m 70) (cond (Nat.beq m 70) ((522, 520, 521)) ((0, 0, 0))) (cond (Nat.beq m 71) ((542, 540, 541)) ((0, 0, 0)))) (cond (Nat.ble m 72) (cond (Nat.beq m 72) ((554, 552, 553)) ((0, 0, 0))) (cond (Nat.ble m 73) (cond (Nat.beq m 73) ((574, 572, 573)) ((0, 0, 0))) (cond (Nat.beq m 74) ((603, 601, 602)) ((0, 0, 0)))))) (cond (Nat.ble m 77) (cond (Nat.ble m 75) (cond (Nat.beq m 75) ((607, 605, 606)) ((0, 0, 0))) (cond (Nat.ble m 76) (cond (Nat.beq m 76) ((611, 609, 610)) ((0, 0, 0))) (cond (Nat.beq m 77) ((627, 625, 626)) ((0, 0, 0))))) (cond (Nat.ble m 78) (cond (Nat.beq m 78) ((635, 633, 634)) ((0, 0, 0))) (cond (Nat.ble m 79) (cond (Nat.beq m 79) ((643, 641, 642)) ((0, 0, 0))) (cond (Nat.beq m 80) ((647, 645, 646)) ((0, 0, 0)))))))))) (cond (Nat.ble m 120) (cond (Nat.ble m 100) (cond (Nat.ble m 90) (cond (Nat.ble m 85) (cond (Nat.ble m 82) (cond (Nat.ble m 81) (cond (Nat.beq m 81) ((651, 649, 650)) ((0, 0, 0))) (cond (Nat.beq m 82) ((655, 653, 654)) ((0, 0, 0)))) (cond (Nat.ble m 83) (cond (Nat.beq m 83) ((467, 466, 12)) ((0, 0, 0))) (cond (Nat.ble m 84) (cond (Nat.beq m 84) ((631, 630, 29)) ((0, 0, 0))) (cond (Nat.beq m 85) ((526, 525, 16)) ((0, 0, 0)))))) (cond (Nat.ble m 87) (cond (Nat.ble m 86) (cond (Nat.beq m 86) ((534, 533, 18)) ((0, 0, 0))) (cond (Nat.beq m 87) ((471, 470, 13)) ((0, 0, 0)))) (cond (Nat.ble m 88) (cond (Nat.beq m 88) ((294, 293, 0)) ((0, 0, 0))) (cond (Nat.ble m 89) (cond (Nat.beq m 89) ((426, 425, 11)) ((0, 0, 0))) (cond (Nat.beq m 90) ((501, 500, 14)) ((0, 0, 0))))))) (cond (Nat.ble m 95) (cond (Nat.ble m 92) (cond (Nat.ble m 91) (cond (Nat.beq m 91) ((517, 516, 15)) ((0, 0, 0))) (cond (Nat.beq m 92) ((530, 529, 17)) ((0, 0, 0)))) (cond (Nat.ble m 93) (cond (Nat.beq m 93) ((558, 557, 19)) ((0, 0, 0))) (cond (Nat.ble m 94) (cond (Nat.beq m 94) ((562, 561, 20)) ((0, 0, 0))) (cond (Nat.beq m 95) ((623, 622, 28)) ((0, 0, 0)))))) (cond (Nat.ble m 97) (cond (Nat.ble m 96) (cond (Nat.beq m 96) ((615, 614, 26)) ((0, 0, 0))) (cond (Nat.beq m 97) ((619, 618, 27)) ((0, 0, 0)))) (cond (Nat.ble m 98) (cond (Nat.beq m 98) ((599, 598, 25)) ((0, 0, 0))) (cond (Nat.ble m 99) (cond (Nat.beq m 99) ((578, 577, 21)) ((0, 0, 0))) (cond (Nat.beq m 100) ((583, 582, 22)) ((0, 0, 0)))))))) (cond (Nat.ble m 110) (cond (Nat.ble m 105) (cond (Nat.ble m 102) (cond (Nat.ble m 101) (cond (Nat.beq m 101) ((587, 586, 23)) ((0, 0, 0))) (cond (Nat.beq m 102) ((595, 594, 24)) ((0, 0, 0)))) (cond (Nat.ble m 103) (cond (Nat.beq m 103) ((665, 664, 664)) ((0, 0, 0))) (cond (Nat.ble m 104) (cond (Nat.beq m 104) ((731, 730, 730)) ((0, 0, 0))) (cond (Nat.beq m 105) ((766, 765, 765)) ((0, 0, 0)))))) (cond (Nat.ble m 107) (cond (Nat.ble m 106) (cond (Nat.beq m 106) ((802, 801, 44)) ((0, 0, 0))) (cond (Nat.beq m 107) ((826, 825, 48)) ((0, 0, 0)))) (cond (Nat.ble m 108) (cond (Nat.beq m 108) ((930, 929, 65)) ((0, 0, 0))) (cond (Nat.ble m 109) (cond (Nat.beq m 109) ((814, 813, 46)) ((0, 0, 0))) (cond (Nat.beq m 110) ((810, 809, 45)) ((0, 0, 0))))))) (cond (Nat.ble m 115) (cond (Nat.ble m 112) (cond (Nat.ble m 111) (cond (Nat.beq m 111) ((834, 833, 50)) ((0, 0, 0))) (cond (Nat.beq m 112) ((778, 777, 38)) ((0, 0, 0)))) (cond (Nat.ble m 113) (cond (Nat.beq m 113) ((782, 781, 39)) ((0, 0, 0))) (cond (Nat.ble m 114) (cond (Nat.beq m 114) ((794, 793, 42)) ((0, 0, 0))) (cond (Nat.beq m 115) ((798, 797, 43)) ((0, 0, 0)))))) (cond (Nat.ble m 117) (cond (Nat.ble m 116) (cond (Nat.beq m 116) ((882, 881, 58)) ((0, 0, 0))) (cond (Nat.beq m 117) ((902, 901, 62)) ((0, 0, 0)))) (cond (Nat.ble m 118) (cond (Nat.beq m 118) ((830, 829, 49)) ((0, 0, 0))) (cond (Nat.ble m 119) (cond (Nat.beq m 119) ((842, 841, 51)) ((0, 0, 0))) (cond (Nat.beq m 120) ((862, 861, 55)) ((0, 0, 0))))))))) (cond (Nat.ble m 140) (cond (Nat.ble m 130) (cond (Nat.ble m 125) (cond (Nat.ble m 122) (cond (Nat.ble m 121) (cond (Nat.beq m 121) ((858, 857, 54)) ((0, 0, 0))) (cond (Nat.beq m 122) ((854, 853, 53)) ((0, 0, 0)))) (cond (Nat.ble m 123) (cond (Nat.beq m 123) ((818, 817, 47)) ((0, 0, 0))) (cond (Nat.ble m 124) (cond (Nat.beq m 124) ((894, 893, 60)) ((0, 0, 0))) (cond (Nat.beq m 125) ((898, 897, 61)) ((0, 0, 0)))))) (cond (Nat.ble m 127) (cond (Nat.ble m 126) (cond (Nat.beq m 126) ((890, 889, 59)) ((0, 0, 0))) (cond (Nat.beq m 127) ((747, 746, 31)) ((0, 0, 0)))) (cond (Nat.ble m 128) (cond (Nat.beq m 128) ((759, 758, 34)) ((0, 0, 0))) (cond (Nat.ble m 129) (cond (Nat.beq m 129) ((755, 754, 33)) ((0, 0, 0))) (cond (Nat.beq m 130) ((763, 762, 35)) ((0, 0, 0))))))) (cond (Nat.ble m 135) (cond (Nat.ble m 132) (cond (Nat.ble m 131) (cond (Nat.beq m 131) ((751, 750, 32)) ((0, 0, 0))) (cond (Nat.beq m 132) ((743, 742, 30)) ((0, 0, 0)))) (cond (Nat.ble m 133) (cond (Nat.beq m 133) ((774, 773, 37)) ((0, 0, 0))) (cond (Nat.ble m 134) (cond (Nat.beq m 134) ((770, 769, 36)) ((0, 0, 0))) (cond (Nat.beq m 135) ((790, 789, 41)) ((0, 0, 0)))))) (cond (Nat.ble m 137) (cond (Nat.ble m 136) (cond (Nat.beq m 136) ((786, 785, 40)) ((0, 0, 0))) (cond (Nat.beq m 137) ((728, 726, 727)) ((0, 0, 0)))) (cond (Nat.ble m 138) (cond (Nat.beq m 138) ((735, 733, 734)) ((0, 0, 0))) (cond (Nat.ble m 139) (cond (Nat.beq m 139) ((739, 737, 738)) ((0, 0, 0))) (cond (Nat.beq m 140) ((806, 804, 805)) ((0, 0, 0)))))))) (cond (Nat.ble m 150) (cond (Nat.ble m 145) (cond (Nat.ble m 142) (cond (Nat.ble m 141) (cond (Nat.beq m 141) ((822, 820, 821)) ((0, 0, 0))) (cond (Nat.beq m 142) ((846, 845, 52)) ((0, 0, 0)))) (cond (Nat.ble m 143) (cond (Nat.beq m 143) ((838, 836, 837)) ((0, 0, 0))) (cond (Nat.ble m 144) (cond (Nat.beq m 144) ((850, 848, 849)) ((0, 0, 0))) (cond (Nat.beq m 145) ((866, 864, 865)) ((0, 0, 0)))))) (cond (Nat.ble m 147) (cond (Nat.ble m 146) (cond (Nat.beq m 146) ((874, 873, 56)) ((0, 0, 0))) (cond (Nat.beq m 147) ((878, 877, 57)) ((0, 0, 0)))) (cond (Nat.ble m 148) (cond (Nat.beq m 148) ((870, 868, 869)) ((0, 0, 0))) (cond (Nat.ble m 149) (cond (Nat.beq m 149) ((906, 905, 63)) ((0, 0, 0))) (cond (Nat.beq m 150) ((886, 884, 885)) ((0, 0, 0))))))) (cond (Nat.ble m 155) (cond (Nat.ble m 152) (cond (Nat.ble m 151) (cond (Nat.beq m 151) ((910, 908, 909)) ((0, 0, 0))) (cond (Nat.beq m 152) ((914, 912, 913)) ((0, 0, 0)))) (cond (Nat.ble m 153) (cond (Nat.beq m 153) ((922, 921, 64)) ((0, 0, 0))) (cond (Nat.ble m 154) (cond (Nat.beq m 154) ((918, 916, 917)) ((0, 0, 0))) (cond (Nat.beq m 155) ((926, 924, 925)) ((0, 0, 0)))))) (cond (Nat.ble m 158) (cond (Nat.ble m 156) (cond (Nat.beq m 156) ((934, 932, 933)) ((0, 0, 0))) (cond (Nat.ble m 157) (cond (Nat.beq m 157) ((938, 936, 937)) ((0, 0, 0))) (cond (Nat.beq m 158) ((942, 940, 941)) ((0, 0, 0))))) (cond (Nat.ble m 159) (cond (Nat.beq m 159) ((946, 944, 945)) ((0, 0, 0))) (cond (Nat.ble m 160) (cond (Nat.beq m 160) ((954, 953, 66)) ((0, 0, 0))) (cond (Nat.beq m 161) ((950, 948, 949)) ((0, 0, 0))))))))))
def qrt_ok (m : Nat) : Bool := match qRt m, qret m with
  | 0, none => true
  | 1, some .int => true
  | 2, some .boolean => true
  | 3, some (.object _) => true
  | _, _ => false
theorem qmp_ok2 : (List.range 162).all (fun m => match qKi m with
  | 0 => decide (lw_tbl[(qmp m).2.1]? = some (Cond.static (qy m)) ∧ (parseMethodDescriptor (qy m).desc).map (fun d => d.parameters.length) = some (qNa m))
  | 1 => decide (lw_tbl[(qmp m).2.1]? = some (Cond.instanceMethod (qy m)) ∧ lw_tbl[(qmp m).2.2]? = some (Cond.selects (qR (qCl m)) (qy m) (qy m)) ∧ (parseMethodDescriptor (qy m).desc).map (fun d => d.parameters.length + 1) = some (qNa m))
  | 2 => decide (lw_tbl[(qmp m).2.1]? = some (Cond.instanceMethod (qy m)) ∧ (qy m).name = "<init>" ∧ qret m = none ∧ (parseMethodDescriptor (qy m).desc).map (fun d => d.parameters.length + 1) = some (qNa m))
  | _ => false) = true := by decide +kernel
theorem qmp_ok3 : (List.range 162).all (fun m => decide ((qy m).cls = qR (qCl m) ∧ qCl m < 9 ∧ plainName (qy m).cls = true ∧ (qy m).cls ≠ "java/lang/invoke/MethodHandle" ∧ (qy m).cls ≠ "java/lang/invoke/VarHandle" ∧ qrt_ok m = true)) = true := by decide +kernel

set_option maxRecDepth 20000 in
theorem qcw_0 : lw_tbl[128]? = some (Cond.code (qy 0) (qb 0) (qNl 0) (qret 0)) := rfl
set_option maxRecDepth 20000 in
theorem qcw_1 : lw_tbl[288]? = some (Cond.code (qy 1) (qb 1) (qNl 1) (qret 1)) := rfl
set_option maxRecDepth 20000 in
theorem qcw_2 : lw_tbl[318]? = some (Cond.code (qy 2) (qb 2) (qNl 2) (qret 2)) := rfl
set_option maxRecDepth 20000 in
theorem qcw_3 : lw_tbl[434]? = some (Cond.code (qy 3) (qb 3) (qNl 3) (qret 3)) := rfl
set_option maxRecDepth 20000 in
theorem qcw_4 : lw_tbl[390]? = some (Cond.code (qy 4) (qb 4) (qNl 4) (qret 4)) := rfl
set_option maxRecDepth 20000 in
theorem qcw_5 : lw_tbl[566]? = some (Cond.code (qy 5) (qb 5) (qNl 5) (qret 5)) := rfl
set_option maxRecDepth 20000 in
theorem qcw_6 : lw_tbl[570]? = some (Cond.code (qy 6) (qb 6) (qNl 6) (qret 6)) := rfl
set_option maxRecDepth 20000 in
theorem qcw_7 : lw_tbl[394]? = some (Cond.code (qy 7) (qb 7) (qNl 7) (qret 7)) := rfl
set_option maxRecDepth 20000 in
theorem qcw_8 : lw_tbl[484]? = some (Cond.code (qy 8) (qb 8) (qNl 8) (qret 8)) := rfl
set_option maxRecDepth 20000 in
theorem qcw_9 : lw_tbl[507]? = some (Cond.code (qy 9) (qb 9) (qNl 9) (qret 9)) := rfl
set_option maxRecDepth 20000 in
theorem qcw_10 : lw_tbl[342]? = some (Cond.code (qy 10) (qb 10) (qNl 10) (qret 10)) := rfl
set_option maxRecDepth 20000 in
theorem qcw_11 : lw_tbl[480]? = some (Cond.code (qy 11) (qb 11) (qNl 11) (qret 11)) := rfl
set_option maxRecDepth 20000 in
theorem qcw_12 : lw_tbl[386]? = some (Cond.code (qy 12) (qb 12) (qNl 12) (qret 12)) := rfl
set_option maxRecDepth 20000 in
theorem qcw_13 : lw_tbl[659]? = some (Cond.code (qy 13) (qb 13) (qNl 13) (qret 13)) := rfl
set_option maxRecDepth 20000 in
theorem qcw_14 : lw_tbl[215]? = some (Cond.code (qy 14) (qb 14) (qNl 14) (qret 14)) := rfl
set_option maxRecDepth 20000 in
theorem qcw_15 : lw_tbl[546]? = some (Cond.code (qy 15) (qb 15) (qNl 15) (qret 15)) := rfl
set_option maxRecDepth 20000 in
theorem qcw_16 : lw_tbl[407]? = some (Cond.code (qy 16) (qb 16) (qNl 16) (qret 16)) := rfl
set_option maxRecDepth 20000 in
theorem qcw_17 : lw_tbl[411]? = some (Cond.code (qy 17) (qb 17) (qNl 17) (qret 17)) := rfl
set_option maxRecDepth 20000 in
theorem qcw_18 : lw_tbl[550]? = some (Cond.code (qy 18) (qb 18) (qNl 18) (qret 18)) := rfl
set_option maxRecDepth 20000 in
theorem qcw_19 : lw_tbl[113]? = some (Cond.code (qy 19) (qb 19) (qNl 19) (qret 19)) := rfl
set_option maxRecDepth 20000 in
theorem qcw_20 : lw_tbl[403]? = some (Cond.code (qy 20) (qb 20) (qNl 20) (qret 20)) := rfl
set_option maxRecDepth 20000 in
theorem qcw_21 : lw_tbl[283]? = some (Cond.code (qy 21) (qb 21) (qNl 21) (qret 21)) := rfl
set_option maxRecDepth 20000 in
theorem qcw_22 : lw_tbl[591]? = some (Cond.code (qy 22) (qb 22) (qNl 22) (qret 22)) := rfl
set_option maxRecDepth 20000 in
theorem qcw_23 : lw_tbl[327]? = some (Cond.code (qy 23) (qb 23) (qNl 23) (qret 23)) := rfl
set_option maxRecDepth 20000 in
theorem qcw_24 : lw_tbl[336]? = some (Cond.code (qy 24) (qb 24) (qNl 24) (qret 24)) := rfl
set_option maxRecDepth 20000 in
theorem qcw_25 : lw_tbl[511]? = some (Cond.code (qy 25) (qb 25) (qNl 25) (qret 25)) := rfl
set_option maxRecDepth 20000 in
theorem qcw_26 : lw_tbl[107]? = some (Cond.code (qy 26) (qb 26) (qNl 26) (qret 26)) := rfl
set_option maxRecDepth 20000 in
theorem qcw_27 : lw_tbl[279]? = some (Cond.code (qy 27) (qb 27) (qNl 27) (qret 27)) := rfl
set_option maxRecDepth 20000 in
theorem qcw_28 : lw_tbl[374]? = some (Cond.code (qy 28) (qb 28) (qNl 28) (qret 28)) := rfl
set_option maxRecDepth 20000 in
theorem qcw_29 : lw_tbl[306]? = some (Cond.code (qy 29) (qb 29) (qNl 29) (qret 29)) := rfl
set_option maxRecDepth 20000 in
theorem qcw_30 : lw_tbl[351]? = some (Cond.code (qy 30) (qb 30) (qNl 30) (qret 30)) := rfl
set_option maxRecDepth 20000 in
theorem qcw_31 : lw_tbl[310]? = some (Cond.code (qy 31) (qb 31) (qNl 31) (qret 31)) := rfl
set_option maxRecDepth 20000 in
theorem qcw_32 : lw_tbl[314]? = some (Cond.code (qy 32) (qb 32) (qNl 32) (qret 32)) := rfl
set_option maxRecDepth 20000 in
theorem qcw_33 : lw_tbl[323]? = some (Cond.code (qy 33) (qb 33) (qNl 33) (qret 33)) := rfl
set_option maxRecDepth 20000 in
theorem qcw_34 : lw_tbl[332]? = some (Cond.code (qy 34) (qb 34) (qNl 34) (qret 34)) := rfl
set_option maxRecDepth 20000 in
theorem qcw_35 : lw_tbl[348]? = some (Cond.code (qy 35) (qb 35) (qNl 35) (qret 35)) := rfl
set_option maxRecDepth 20000 in
theorem qcw_36 : lw_tbl[355]? = some (Cond.code (qy 36) (qb 36) (qNl 36) (qret 36)) := rfl
set_option maxRecDepth 20000 in
theorem qcw_37 : lw_tbl[361]? = some (Cond.code (qy 37) (qb 37) (qNl 37) (qret 37)) := rfl
set_option maxRecDepth 20000 in
theorem qcw_38 : lw_tbl[370]? = some (Cond.code (qy 38) (qb 38) (qNl 38) (qret 38)) := rfl
set_option maxRecDepth 20000 in
theorem qcw_39 : lw_tbl[90]? = some (Cond.code (qy 39) (qb 39) (qNl 39) (qret 39)) := rfl
set_option maxRecDepth 20000 in
theorem qcw_40 : lw_tbl[259]? = some (Cond.code (qy 40) (qb 40) (qNl 40) (qret 40)) := rfl
set_option maxRecDepth 20000 in
theorem qcw_41 : lw_tbl[302]? = some (Cond.code (qy 41) (qb 41) (qNl 41) (qret 41)) := rfl
set_option maxRecDepth 20000 in
theorem qcw_42 : lw_tbl[298]? = some (Cond.code (qy 42) (qb 42) (qNl 42) (qret 42)) := rfl
set_option maxRecDepth 20000 in
theorem qcw_43 : lw_tbl[366]? = some (Cond.code (qy 43) (qb 43) (qNl 43) (qret 43)) := rfl
set_option maxRecDepth 20000 in
theorem qcw_44 : lw_tbl[263]? = some (Cond.code (qy 44) (qb 44) (qNl 44) (qret 44)) := rfl
set_option maxRecDepth 20000 in
theorem qcw_45 : lw_tbl[271]? = some (Cond.code (qy 45) (qb 45) (qNl 45) (qret 45)) := rfl
set_option maxRecDepth 20000 in
theorem qcw_46 : lw_tbl[419]? = some (Cond.code (qy 46) (qb 46) (qNl 46) (qret 46)) := rfl
set_option maxRecDepth 20000 in
theorem qcw_47 : lw_tbl[170]? = some (Cond.code (qy 47) (qb 47) (qNl 47) (qret 47)) := rfl
set_option maxRecDepth 20000 in
theorem qcw_48 : lw_tbl[382]? = some (Cond.code (qy 48) (qb 48) (qNl 48) (qret 48)) := rfl
set_option maxRecDepth 20000 in
theorem qcw_49 : lw_tbl[378]? = some (Cond.code (qy 49) (qb 49) (qNl 49) (qret 49)) := rfl
set_option maxRecDepth 20000 in
theorem qcw_50 : lw_tbl[430]? = some (Cond.code (qy 50) (qb 50) (qNl 50) (qret 50)) := rfl
set_option maxRecDepth 20000 in
theorem qcw_51 : lw_tbl[188]? = some (Cond.code (qy 51) (qb 51) (qNl 51) (qret 51)) := rfl
set_option maxRecDepth 20000 in
theorem qcw_52 : lw_tbl[415]? = some (Cond.code (qy 52) (qb 52) (qNl 52) (qret 52)) := rfl
set_option maxRecDepth 20000 in
theorem qcw_53 : lw_tbl[439]? = some (Cond.code (qy 53) (qb 53) (qNl 53) (qret 53)) := rfl
set_option maxRecDepth 20000 in
theorem qcw_54 : lw_tbl[475]? = some (Cond.code (qy 54) (qb 54) (qNl 54) (qret 54)) := rfl
set_option maxRecDepth 20000 in
theorem qcw_55 : lw_tbl[453]? = some (Cond.code (qy 55) (qb 55) (qNl 55) (qret 55)) := rfl
set_option maxRecDepth 20000 in
theorem qcw_56 : lw_tbl[449]? = some (Cond.code (qy 56) (qb 56) (qNl 56) (qret 56)) := rfl
set_option maxRecDepth 20000 in
theorem qcw_57 : lw_tbl[398]? = some (Cond.code (qy 57) (qb 57) (qNl 57) (qret 57)) := rfl
set_option maxRecDepth 20000 in
theorem qcw_58 : lw_tbl[458]? = some (Cond.code (qy 58) (qb 58) (qNl 58) (qret 58)) := rfl
set_option maxRecDepth 20000 in
theorem qcw_59 : lw_tbl[538]? = some (Cond.code (qy 59) (qb 59) (qNl 59) (qret 59)) := rfl
set_option maxRecDepth 20000 in
theorem qcw_60 : lw_tbl[639]? = some (Cond.code (qy 60) (qb 60) (qNl 60) (qret 60)) := rfl
set_option maxRecDepth 20000 in
theorem qcw_61 : lw_tbl[488]? = some (Cond.code (qy 61) (qb 61) (qNl 61) (qret 61)) := rfl
set_option maxRecDepth 20000 in
theorem qcw_62 : lw_tbl[492]? = some (Cond.code (qy 62) (qb 62) (qNl 62) (qret 62)) := rfl
set_option maxRecDepth 20000 in
theorem qcw_63 : lw_tbl[82]? = some (Cond.code (qy 63) (qb 63) (qNl 63) (qret 63)) := rfl
set_option maxRecDepth 20000 in
theorem qcw_64 : lw_tbl[255]? = some (Cond.code (qy 64) (qb 64) (qNl 64) (qret 64)) := rfl
set_option maxRecDepth 20000 in
theorem qcw_65 : lw_tbl[267]? = some (Cond.code (qy 65) (qb 65) (qNl 65) (qret 65)) := rfl
set_option maxRecDepth 20000 in
theorem qcw_66 : lw_tbl[275]? = some (Cond.code (qy 66) (qb 66) (qNl 66) (qret 66)) := rfl
set_option maxRecDepth 20000 in
theorem qcw_67 : lw_tbl[445]? = some (Cond.code (qy 67) (qb 67) (qNl 67) (qret 67)) := rfl
set_option maxRecDepth 20000 in
theorem qcw_68 : lw_tbl[463]? = some (Cond.code (qy 68) (qb 68) (qNl 68) (qret 68)) := rfl
set_option maxRecDepth 20000 in
theorem qcw_69 : lw_tbl[496]? = some (Cond.code (qy 69) (qb 69) (qNl 69) (qret 69)) := rfl
set_option maxRecDepth 20000 in
theorem qcw_70 : lw_tbl[522]? = some (Cond.code (qy 70) (qb 70) (qNl 70) (qret 70)) := rfl
set_option maxRecDepth 20000 in
theorem qcw_71 : lw_tbl[542]? = some (Cond.code (qy 71) (qb 71) (qNl 71) (qret 71)) := rfl
set_option maxRecDepth 20000 in
theorem qcw_72 : lw_tbl[554]? = some (Cond.code (qy 72) (qb 72) (qNl 72) (qret 72)) := rfl
set_option maxRecDepth 20000 in
theorem qcw_73 : lw_tbl[574]? = some (Cond.code (qy 73) (qb 73) (qNl 73) (qret 73)) := rfl
set_option maxRecDepth 20000 in
theorem qcw_74 : lw_tbl[603]? = some (Cond.code (qy 74) (qb 74) (qNl 74) (qret 74)) := rfl
set_option maxRecDepth 20000 in
theorem qcw_75 : lw_tbl[607]? = some (Cond.code (qy 75) (qb 75) (qNl 75) (qret 75)) := rfl
set_option maxRecDepth 20000 in
theorem qcw_76 : lw_tbl[611]? = some (Cond.code (qy 76) (qb 76) (qNl 76) (qret 76)) := rfl
set_option maxRecDepth 20000 in
theorem qcw_77 : lw_tbl[627]? = some (Cond.code (qy 77) (qb 77) (qNl 77) (qret 77)) := rfl
set_option maxRecDepth 20000 in
theorem qcw_78 : lw_tbl[635]? = some (Cond.code (qy 78) (qb 78) (qNl 78) (qret 78)) := rfl
set_option maxRecDepth 20000 in
theorem qcw_79 : lw_tbl[643]? = some (Cond.code (qy 79) (qb 79) (qNl 79) (qret 79)) := rfl
set_option maxRecDepth 20000 in
theorem qcw_80 : lw_tbl[647]? = some (Cond.code (qy 80) (qb 80) (qNl 80) (qret 80)) := rfl
set_option maxRecDepth 20000 in
theorem qcw_81 : lw_tbl[651]? = some (Cond.code (qy 81) (qb 81) (qNl 81) (qret 81)) := rfl
set_option maxRecDepth 20000 in
theorem qcw_82 : lw_tbl[655]? = some (Cond.code (qy 82) (qb 82) (qNl 82) (qret 82)) := rfl
set_option maxRecDepth 20000 in
theorem qcw_83 : lw_tbl[467]? = some (Cond.code (qy 83) (qb 83) (qNl 83) (qret 83)) := rfl
set_option maxRecDepth 20000 in
theorem qcw_84 : lw_tbl[631]? = some (Cond.code (qy 84) (qb 84) (qNl 84) (qret 84)) := rfl
set_option maxRecDepth 20000 in
theorem qcw_85 : lw_tbl[526]? = some (Cond.code (qy 85) (qb 85) (qNl 85) (qret 85)) := rfl
set_option maxRecDepth 20000 in
theorem qcw_86 : lw_tbl[534]? = some (Cond.code (qy 86) (qb 86) (qNl 86) (qret 86)) := rfl
set_option maxRecDepth 20000 in
theorem qcw_87 : lw_tbl[471]? = some (Cond.code (qy 87) (qb 87) (qNl 87) (qret 87)) := rfl
set_option maxRecDepth 20000 in
theorem qcw_88 : lw_tbl[294]? = some (Cond.code (qy 88) (qb 88) (qNl 88) (qret 88)) := rfl
set_option maxRecDepth 20000 in
theorem qcw_89 : lw_tbl[426]? = some (Cond.code (qy 89) (qb 89) (qNl 89) (qret 89)) := rfl
set_option maxRecDepth 20000 in
theorem qcw_90 : lw_tbl[501]? = some (Cond.code (qy 90) (qb 90) (qNl 90) (qret 90)) := rfl
set_option maxRecDepth 20000 in
theorem qcw_91 : lw_tbl[517]? = some (Cond.code (qy 91) (qb 91) (qNl 91) (qret 91)) := rfl
set_option maxRecDepth 20000 in
theorem qcw_92 : lw_tbl[530]? = some (Cond.code (qy 92) (qb 92) (qNl 92) (qret 92)) := rfl
set_option maxRecDepth 20000 in
theorem qcw_93 : lw_tbl[558]? = some (Cond.code (qy 93) (qb 93) (qNl 93) (qret 93)) := rfl
set_option maxRecDepth 20000 in
theorem qcw_94 : lw_tbl[562]? = some (Cond.code (qy 94) (qb 94) (qNl 94) (qret 94)) := rfl
set_option maxRecDepth 20000 in
theorem qcw_95 : lw_tbl[623]? = some (Cond.code (qy 95) (qb 95) (qNl 95) (qret 95)) := rfl
set_option maxRecDepth 20000 in
theorem qcw_96 : lw_tbl[615]? = some (Cond.code (qy 96) (qb 96) (qNl 96) (qret 96)) := rfl
set_option maxRecDepth 20000 in
theorem qcw_97 : lw_tbl[619]? = some (Cond.code (qy 97) (qb 97) (qNl 97) (qret 97)) := rfl
set_option maxRecDepth 20000 in
theorem qcw_98 : lw_tbl[599]? = some (Cond.code (qy 98) (qb 98) (qNl 98) (qret 98)) := rfl
set_option maxRecDepth 20000 in
theorem qcw_99 : lw_tbl[578]? = some (Cond.code (qy 99) (qb 99) (qNl 99) (qret 99)) := rfl
set_option maxRecDepth 20000 in
theorem qcw_100 : lw_tbl[583]? = some (Cond.code (qy 100) (qb 100) (qNl 100) (qret 100)) := rfl
set_option maxRecDepth 20000 in
theorem qcw_101 : lw_tbl[587]? = some (Cond.code (qy 101) (qb 101) (qNl 101) (qret 101)) := rfl
set_option maxRecDepth 20000 in
theorem qcw_102 : lw_tbl[595]? = some (Cond.code (qy 102) (qb 102) (qNl 102) (qret 102)) := rfl
set_option maxRecDepth 20000 in
theorem qcw_103 : lw_tbl[665]? = some (Cond.code (qy 103) (qb 103) (qNl 103) (qret 103)) := rfl
set_option maxRecDepth 20000 in
theorem qcw_104 : lw_tbl[731]? = some (Cond.code (qy 104) (qb 104) (qNl 104) (qret 104)) := rfl
set_option maxRecDepth 20000 in
theorem qcw_105 : lw_tbl[766]? = some (Cond.code (qy 105) (qb 105) (qNl 105) (qret 105)) := rfl
set_option maxRecDepth 20000 in
theorem qcw_106 : lw_tbl[802]? = some (Cond.code (qy 106) (qb 106) (qNl 106) (qret 106)) := rfl
set_option maxRecDepth 20000 in
theorem qcw_107 : lw_tbl[826]? = some (Cond.code (qy 107) (qb 107) (qNl 107) (qret 107)) := rfl
set_option maxRecDepth 20000 in
theorem qcw_108 : lw_tbl[930]? = some (Cond.code (qy 108) (qb 108) (qNl 108) (qret 108)) := rfl
set_option maxRecDepth 20000 in
theorem qcw_109 : lw_tbl[814]? = some (Cond.code (qy 109) (qb 109) (qNl 109) (qret 109)) := rfl
set_option maxRecDepth 20000 in
theorem qcw_110 : lw_tbl[810]? = some (Cond.code (qy 110) (qb 110) (qNl 110) (qret 110)) := rfl
set_option maxRecDepth 20000 in
theorem qcw_111 : lw_tbl[834]? = some (Cond.code (qy 111) (qb 111) (qNl 111) (qret 111)) := rfl
set_option maxRecDepth 20000 in
theorem qcw_112 : lw_tbl[778]? = some (Cond.code (qy 112) (qb 112) (qNl 112) (qret 112)) := rfl
set_option maxRecDepth 20000 in
theorem qcw_113 : lw_tbl[782]? = some (Cond.code (qy 113) (qb 113) (qNl 113) (qret 113)) := rfl
set_option maxRecDepth 20000 in
theorem qcw_114 : lw_tbl[794]? = some (Cond.code (qy 114) (qb 114) (qNl 114) (qret 114)) := rfl
set_option maxRecDepth 20000 in
theorem qcw_115 : lw_tbl[798]? = some (Cond.code (qy 115) (qb 115) (qNl 115) (qret 115)) := rfl
set_option maxRecDepth 20000 in
theorem qcw_116 : lw_tbl[882]? = some (Cond.code (qy 116) (qb 116) (qNl 116) (qret 116)) := rfl
set_option maxRecDepth 20000 in
theorem qcw_117 : lw_tbl[902]? = some (Cond.code (qy 117) (qb 117) (qNl 117) (qret 117)) := rfl
set_option maxRecDepth 20000 in
theorem qcw_118 : lw_tbl[830]? = some (Cond.code (qy 118) (qb 118) (qNl 118) (qret 118)) := rfl
set_option maxRecDepth 20000 in
theorem qcw_119 : lw_tbl[842]? = some (Cond.code (qy 119) (qb 119) (qNl 119) (qret 119)) := rfl
set_option maxRecDepth 20000 in
theorem qcw_120 : lw_tbl[862]? = some (Cond.code (qy 120) (qb 120) (qNl 120) (qret 120)) := rfl
set_option maxRecDepth 20000 in
theorem qcw_121 : lw_tbl[858]? = some (Cond.code (qy 121) (qb 121) (qNl 121) (qret 121)) := rfl
set_option maxRecDepth 20000 in
theorem qcw_122 : lw_tbl[854]? = some (Cond.code (qy 122) (qb 122) (qNl 122) (qret 122)) := rfl
set_option maxRecDepth 20000 in
theorem qcw_123 : lw_tbl[818]? = some (Cond.code (qy 123) (qb 123) (qNl 123) (qret 123)) := rfl
set_option maxRecDepth 20000 in
theorem qcw_124 : lw_tbl[894]? = some (Cond.code (qy 124) (qb 124) (qNl 124) (qret 124)) := rfl
set_option maxRecDepth 20000 in
theorem qcw_125 : lw_tbl[898]? = some (Cond.code (qy 125) (qb 125) (qNl 125) (qret 125)) := rfl
set_option maxRecDepth 20000 in
theorem qcw_126 : lw_tbl[890]? = some (Cond.code (qy 126) (qb 126) (qNl 126) (qret 126)) := rfl
set_option maxRecDepth 20000 in
theorem qcw_127 : lw_tbl[747]? = some (Cond.code (qy 127) (qb 127) (qNl 127) (qret 127)) := rfl
set_option maxRecDepth 20000 in
theorem qcw_128 : lw_tbl[759]? = some (Cond.code (qy 128) (qb 128) (qNl 128) (qret 128)) := rfl
set_option maxRecDepth 20000 in
theorem qcw_129 : lw_tbl[755]? = some (Cond.code (qy 129) (qb 129) (qNl 129) (qret 129)) := rfl
set_option maxRecDepth 20000 in
theorem qcw_130 : lw_tbl[763]? = some (Cond.code (qy 130) (qb 130) (qNl 130) (qret 130)) := rfl
set_option maxRecDepth 20000 in
theorem qcw_131 : lw_tbl[751]? = some (Cond.code (qy 131) (qb 131) (qNl 131) (qret 131)) := rfl
set_option maxRecDepth 20000 in
theorem qcw_132 : lw_tbl[743]? = some (Cond.code (qy 132) (qb 132) (qNl 132) (qret 132)) := rfl
set_option maxRecDepth 20000 in
theorem qcw_133 : lw_tbl[774]? = some (Cond.code (qy 133) (qb 133) (qNl 133) (qret 133)) := rfl
set_option maxRecDepth 20000 in
theorem qcw_134 : lw_tbl[770]? = some (Cond.code (qy 134) (qb 134) (qNl 134) (qret 134)) := rfl
set_option maxRecDepth 20000 in
theorem qcw_135 : lw_tbl[790]? = some (Cond.code (qy 135) (qb 135) (qNl 135) (qret 135)) := rfl
set_option maxRecDepth 20000 in
theorem qcw_136 : lw_tbl[786]? = some (Cond.code (qy 136) (qb 136) (qNl 136) (qret 136)) := rfl
set_option maxRecDepth 20000 in
theorem qcw_137 : lw_tbl[728]? = some (Cond.code (qy 137) (qb 137) (qNl 137) (qret 137)) := rfl
set_option maxRecDepth 20000 in
theorem qcw_138 : lw_tbl[735]? = some (Cond.code (qy 138) (qb 138) (qNl 138) (qret 138)) := rfl
set_option maxRecDepth 20000 in
theorem qcw_139 : lw_tbl[739]? = some (Cond.code (qy 139) (qb 139) (qNl 139) (qret 139)) := rfl
set_option maxRecDepth 20000 in
theorem qcw_140 : lw_tbl[806]? = some (Cond.code (qy 140) (qb 140) (qNl 140) (qret 140)) := rfl
set_option maxRecDepth 20000 in
theorem qcw_141 : lw_tbl[822]? = some (Cond.code (qy 141) (qb 141) (qNl 141) (qret 141)) := rfl
set_option maxRecDepth 20000 in
theorem qcw_142 : lw_tbl[846]? = some (Cond.code (qy 142) (qb 142) (qNl 142) (qret 142)) := rfl
set_option maxRecDepth 20000 in
theorem qcw_143 : lw_tbl[838]? = some (Cond.code (qy 143) (qb 143) (qNl 143) (qret 143)) := rfl
set_option maxRecDepth 20000 in
theorem qcw_144 : lw_tbl[850]? = some (Cond.code (qy 144) (qb 144) (qNl 144) (qret 144)) := rfl
set_option maxRecDepth 20000 in
theorem qcw_145 : lw_tbl[866]? = some (Cond.code (qy 145) (qb 145) (qNl 145) (qret 145)) := rfl
set_option maxRecDepth 20000 in
theorem qcw_146 : lw_tbl[874]? = some (Cond.code (qy 146) (qb 146) (qNl 146) (qret 146)) := rfl
set_option maxRecDepth 20000 in
theorem qcw_147 : lw_tbl[878]? = some (Cond.code (qy 147) (qb 147) (qNl 147) (qret 147)) := rfl
set_option maxRecDepth 20000 in
theorem qcw_148 : lw_tbl[870]? = some (Cond.code (qy 148) (qb 148) (qNl 148) (qret 148)) := rfl
set_option maxRecDepth 20000 in
theorem qcw_149 : lw_tbl[906]? = some (Cond.code (qy 149) (qb 149) (qNl 149) (qret 149)) := rfl
set_option maxRecDepth 20000 in
theorem qcw_150 : lw_tbl[886]? = some (Cond.code (qy 150) (qb 150) (qNl 150) (qret 150)) := rfl
set_option maxRecDepth 20000 in
theorem qcw_151 : lw_tbl[910]? = some (Cond.code (qy 151) (qb 151) (qNl 151) (qret 151)) := rfl
set_option maxRecDepth 20000 in
theorem qcw_152 : lw_tbl[914]? = some (Cond.code (qy 152) (qb 152) (qNl 152) (qret 152)) := rfl
set_option maxRecDepth 20000 in
theorem qcw_153 : lw_tbl[922]? = some (Cond.code (qy 153) (qb 153) (qNl 153) (qret 153)) := rfl
set_option maxRecDepth 20000 in
theorem qcw_154 : lw_tbl[918]? = some (Cond.code (qy 154) (qb 154) (qNl 154) (qret 154)) := rfl
set_option maxRecDepth 20000 in
theorem qcw_155 : lw_tbl[926]? = some (Cond.code (qy 155) (qb 155) (qNl 155) (qret 155)) := rfl
set_option maxRecDepth 20000 in
theorem qcw_156 : lw_tbl[934]? = some (Cond.code (qy 156) (qb 156) (qNl 156) (qret 156)) := rfl
set_option maxRecDepth 20000 in
theorem qcw_157 : lw_tbl[938]? = some (Cond.code (qy 157) (qb 157) (qNl 157) (qret 157)) := rfl
set_option maxRecDepth 20000 in
theorem qcw_158 : lw_tbl[942]? = some (Cond.code (qy 158) (qb 158) (qNl 158) (qret 158)) := rfl
set_option maxRecDepth 20000 in
theorem qcw_159 : lw_tbl[946]? = some (Cond.code (qy 159) (qb 159) (qNl 159) (qret 159)) := rfl
set_option maxRecDepth 20000 in
theorem qcw_160 : lw_tbl[954]? = some (Cond.code (qy 160) (qb 160) (qNl 160) (qret 160)) := rfl
set_option maxRecDepth 20000 in
theorem qcw_161 : lw_tbl[950]? = some (Cond.code (qy 161) (qb 161) (qNl 161) (qret 161)) := rfl
def qcwP (m : Nat) : Prop := Cond.code (qy m) (qb m) (qNl m) (qret m) ∈ lw_tbl
theorem qcwA_0 : ∀ m, m < 20 → qcwP m := lt_s (lt_s (lt_s (lt_s (lt_s (lt_s (lt_s (lt_s (lt_s (lt_s (lt_s (lt_s (lt_s (lt_s (lt_s (lt_s (lt_s (lt_s (lt_s (lt_s (lt_0) (List.mem_of_getElem? qcw_0)) (List.mem_of_getElem? qcw_1)) (List.mem_of_getElem? qcw_2)) (List.mem_of_getElem? qcw_3)) (List.mem_of_getElem? qcw_4)) (List.mem_of_getElem? qcw_5)) (List.mem_of_getElem? qcw_6)) (List.mem_of_getElem? qcw_7)) (List.mem_of_getElem? qcw_8)) (List.mem_of_getElem? qcw_9)) (List.mem_of_getElem? qcw_10)) (List.mem_of_getElem? qcw_11)) (List.mem_of_getElem? qcw_12)) (List.mem_of_getElem? qcw_13)) (List.mem_of_getElem? qcw_14)) (List.mem_of_getElem? qcw_15)) (List.mem_of_getElem? qcw_16)) (List.mem_of_getElem? qcw_17)) (List.mem_of_getElem? qcw_18)) (List.mem_of_getElem? qcw_19)
theorem qcwA_20 : ∀ m, m < 40 → qcwP m := lt_s (lt_s (lt_s (lt_s (lt_s (lt_s (lt_s (lt_s (lt_s (lt_s (lt_s (lt_s (lt_s (lt_s (lt_s (lt_s (lt_s (lt_s (lt_s (lt_s (qcwA_0) (List.mem_of_getElem? qcw_20)) (List.mem_of_getElem? qcw_21)) (List.mem_of_getElem? qcw_22)) (List.mem_of_getElem? qcw_23)) (List.mem_of_getElem? qcw_24)) (List.mem_of_getElem? qcw_25)) (List.mem_of_getElem? qcw_26)) (List.mem_of_getElem? qcw_27)) (List.mem_of_getElem? qcw_28)) (List.mem_of_getElem? qcw_29)) (List.mem_of_getElem? qcw_30)) (List.mem_of_getElem? qcw_31)) (List.mem_of_getElem? qcw_32)) (List.mem_of_getElem? qcw_33)) (List.mem_of_getElem? qcw_34)) (List.mem_of_getElem? qcw_35)) (List.mem_of_getElem? qcw_36)) (List.mem_of_getElem? qcw_37)) (List.mem_of_getElem? qcw_38)) (List.mem_of_getElem? qcw_39)
theorem qcwA_40 : ∀ m, m < 60 → qcwP m := lt_s (lt_s (lt_s (lt_s (lt_s (lt_s (lt_s (lt_s (lt_s (lt_s (lt_s (lt_s (lt_s (lt_s (lt_s (lt_s (lt_s (lt_s (lt_s (lt_s (qcwA_20) (List.mem_of_getElem? qcw_40)) (List.mem_of_getElem? qcw_41)) (List.mem_of_getElem? qcw_42)) (List.mem_of_getElem? qcw_43)) (List.mem_of_getElem? qcw_44)) (List.mem_of_getElem? qcw_45)) (List.mem_of_getElem? qcw_46)) (List.mem_of_getElem? qcw_47)) (List.mem_of_getElem? qcw_48)) (List.mem_of_getElem? qcw_49)) (List.mem_of_getElem? qcw_50)) (List.mem_of_getElem? qcw_51)) (List.mem_of_getElem? qcw_52)) (List.mem_of_getElem? qcw_53)) (List.mem_of_getElem? qcw_54)) (List.mem_of_getElem? qcw_55)) (List.mem_of_getElem? qcw_56)) (List.mem_of_getElem? qcw_57)) (List.mem_of_getElem? qcw_58)) (List.mem_of_getElem? qcw_59)
theorem qcwA_60 : ∀ m, m < 80 → qcwP m := lt_s (lt_s (lt_s (lt_s (lt_s (lt_s (lt_s (lt_s (lt_s (lt_s (lt_s (lt_s (lt_s (lt_s (lt_s (lt_s (lt_s (lt_s (lt_s (lt_s (qcwA_40) (List.mem_of_getElem? qcw_60)) (List.mem_of_getElem? qcw_61)) (List.mem_of_getElem? qcw_62)) (List.mem_of_getElem? qcw_63)) (List.mem_of_getElem? qcw_64)) (List.mem_of_getElem? qcw_65)) (List.mem_of_getElem? qcw_66)) (List.mem_of_getElem? qcw_67)) (List.mem_of_getElem? qcw_68)) (List.mem_of_getElem? qcw_69)) (List.mem_of_getElem? qcw_70)) (List.mem_of_getElem? qcw_71)) (List.mem_of_getElem? qcw_72)) (List.mem_of_getElem? qcw_73)) (List.mem_of_getElem? qcw_74)) (List.mem_of_getElem? qcw_75)) (List.mem_of_getElem? qcw_76)) (List.mem_of_getElem? qcw_77)) (List.mem_of_getElem? qcw_78)) (List.mem_of_getElem? qcw_79)
theorem qcwA_80 : ∀ m, m < 100 → qcwP m := lt_s (lt_s (lt_s (lt_s (lt_s (lt_s (lt_s (lt_s (lt_s (lt_s (lt_s (lt_s (lt_s (lt_s (lt_s (lt_s (lt_s (lt_s (lt_s (lt_s (qcwA_60) (List.mem_of_getElem? qcw_80)) (List.mem_of_getElem? qcw_81)) (List.mem_of_getElem? qcw_82)) (List.mem_of_getElem? qcw_83)) (List.mem_of_getElem? qcw_84)) (List.mem_of_getElem? qcw_85)) (List.mem_of_getElem? qcw_86)) (List.mem_of_getElem? qcw_87)) (List.mem_of_getElem? qcw_88)) (List.mem_of_getElem? qcw_89)) (List.mem_of_getElem? qcw_90)) (List.mem_of_getElem? qcw_91)) (List.mem_of_getElem? qcw_92)) (List.mem_of_getElem? qcw_93)) (List.mem_of_getElem? qcw_94)) (List.mem_of_getElem? qcw_95)) (List.mem_of_getElem? qcw_96)) (List.mem_of_getElem? qcw_97)) (List.mem_of_getElem? qcw_98)) (List.mem_of_getElem? qcw_99)
theorem qcwA_100 : ∀ m, m < 120 → qcwP m := lt_s (lt_s (lt_s (lt_s (lt_s (lt_s (lt_s (lt_s (lt_s (lt_s (lt_s (lt_s (lt_s (lt_s (lt_s (lt_s (lt_s (lt_s (lt_s (lt_s (qcwA_80) (List.mem_of_getElem? qcw_100)) (List.mem_of_getElem? qcw_101)) (List.mem_of_getElem? qcw_102)) (List.mem_of_getElem? qcw_103)) (List.mem_of_getElem? qcw_104)) (List.mem_of_getElem? qcw_105)) (List.mem_of_getElem? qcw_106)) (List.mem_of_getElem? qcw_107)) (List.mem_of_getElem? qcw_108)) (List.mem_of_getElem? qcw_109)) (List.mem_of_getElem? qcw_110)) (List.mem_of_getElem? qcw_111)) (List.mem_of_getElem? qcw_112)) (List.mem_of_getElem? qcw_113)) (List.mem_of_getElem? qcw_114)) (List.mem_of_getElem? qcw_115)) (List.mem_of_getElem? qcw_116)) (List.mem_of_getElem? qcw_117)) (List.mem_of_getElem? qcw_118)) (List.mem_of_getElem? qcw_119)
theorem qcwA_120 : ∀ m, m < 140 → qcwP m := lt_s (lt_s (lt_s (lt_s (lt_s (lt_s (lt_s (lt_s (lt_s (lt_s (lt_s (lt_s (lt_s (lt_s (lt_s (lt_s (lt_s (lt_s (lt_s (lt_s (qcwA_100) (List.mem_of_getElem? qcw_120)) (List.mem_of_getElem? qcw_121)) (List.mem_of_getElem? qcw_122)) (List.mem_of_getElem? qcw_123)) (List.mem_of_getElem? qcw_124)) (List.mem_of_getElem? qcw_125)) (List.mem_of_getElem? qcw_126)) (List.mem_of_getElem? qcw_127)) (List.mem_of_getElem? qcw_128)) (List.mem_of_getElem? qcw_129)) (List.mem_of_getElem? qcw_130)) (List.mem_of_getElem? qcw_131)) (List.mem_of_getElem? qcw_132)) (List.mem_of_getElem? qcw_133)) (List.mem_of_getElem? qcw_134)) (List.mem_of_getElem? qcw_135)) (List.mem_of_getElem? qcw_136)) (List.mem_of_getElem? qcw_137)) (List.mem_of_getElem? qcw_138)) (List.mem_of_getElem? qcw_139)
theorem qcwA_140 : ∀ m, m < 160 → qcwP m := lt_s (lt_s (lt_s (lt_s (lt_s (lt_s (lt_s (lt_s (lt_s (lt_s (lt_s (lt_s (lt_s (lt_s (lt_s (lt_s (lt_s (lt_s (lt_s (lt_s (qcwA_120) (List.mem_of_getElem? qcw_140)) (List.mem_of_getElem? qcw_141)) (List.mem_of_getElem? qcw_142)) (List.mem_of_getElem? qcw_143)) (List.mem_of_getElem? qcw_144)) (List.mem_of_getElem? qcw_145)) (List.mem_of_getElem? qcw_146)) (List.mem_of_getElem? qcw_147)) (List.mem_of_getElem? qcw_148)) (List.mem_of_getElem? qcw_149)) (List.mem_of_getElem? qcw_150)) (List.mem_of_getElem? qcw_151)) (List.mem_of_getElem? qcw_152)) (List.mem_of_getElem? qcw_153)) (List.mem_of_getElem? qcw_154)) (List.mem_of_getElem? qcw_155)) (List.mem_of_getElem? qcw_156)) (List.mem_of_getElem? qcw_157)) (List.mem_of_getElem? qcw_158)) (List.mem_of_getElem? qcw_159)
theorem qcwA_160 : ∀ m, m < 162 → qcwP m := lt_s (lt_s (qcwA_140) (List.mem_of_getElem? qcw_160)) (List.mem_of_getElem? qcw_161)
def qN : Nat := 162
theorem qcw_all : ∀ m, m < qN → qcwP m := qcwA_160
/-- the words that are kept over calls -/
def qtb : List Cond := lw_tbl.filter goodWord
theorem qtb_in {w : Cond} (h : w ∈ lw_tbl) (g : goodWord w = true) : w ∈ qtb := List.mem_filter.mpr ⟨h, g⟩
theorem qtb_at {w : Cond} {i : Nat} (h : lw_tbl[i]? = some w) (g : goodWord w = true) : w ∈ qtb := qtb_in (List.mem_of_getElem? h) g
theorem qtb_good {w : Cond} (h : w ∈ qtb) : (w.onTables && w.keeps) = true ∨ ∃ ty, w = .arrayClass ty := good_of_word (List.mem_filter.mp h).2
/-- an instruction of a method against the bytes and the words -/
def qcc (a : Int) : ClassFile.Cond := if a = 0 then .eq else if a = 1 then .ne else if a = 2 then .lt else if a = 3 then .ge else if a = 4 then .gt else .le
def qdec (m pc : Nat) (i : ClassFile.Instr) (n : Nat) : Bool := decide (decode (qb m) pc = .ok (i, n))
def qok (m pc : Nat) (x : qX) : Bool :=
  let a := x.2.1
  let b := x.2.2.1
  let c := x.2.2.2.1
  let nx := x.2.2.2.2
  match x.1 with
  | 0 => (qdec m pc (.iconst a) 1 && decide (nx = pc + 1)) || (qdec m pc (.bipush a) 2 && decide (nx = pc + 2 ∧ (Int8.ofInt a).toInt32 = Int32.ofInt a)) || (qdec m pc (.sipush a) 3 && decide (nx = pc + 3 ∧ (Int16.ofInt a).toInt32 = Int32.ofInt a))
  | 1 => (decide (b < 4 ∧ nx = pc + 1) && qdec m pc (.iload_n (Fin.ofNat 4 b)) 1) || (qdec m pc (.iload b) 2 && decide (nx = pc + 2))
  | 2 => (decide (b < 4 ∧ nx = pc + 1) && qdec m pc (.aload_n (Fin.ofNat 4 b)) 1) || (qdec m pc (.aload b) 2 && decide (nx = pc + 2))
  | 3 => (decide (b < 4 ∧ nx = pc + 1) && qdec m pc (.istore_n (Fin.ofNat 4 b)) 1) || (qdec m pc (.istore b) 2 && decide (nx = pc + 2))
  | 4 => (decide (b < 4 ∧ nx = pc + 1) && qdec m pc (.astore_n (Fin.ofNat 4 b)) 1) || (qdec m pc (.astore b) 2 && decide (nx = pc + 2))
  | 5 => qdec m pc (.iinc b a) 3 && decide (nx = pc + 3)
  | 6 => qdec m pc .iadd 1 && decide (nx = pc + 1)
  | 7 => qdec m pc .isub 1 && decide (nx = pc + 1)
  | 8 => qdec m pc .imul 1 && decide (nx = pc + 1)
  | 9 => qdec m pc .idiv 1 && decide (nx = pc + 1)
  | 10 => qdec m pc .irem 1 && decide (nx = pc + 1)
  | 12 => qdec m pc .dup 1 && decide (nx = pc + 1)
  | 13 => qdec m pc .dup2 1 && decide (nx = pc + 1)
  | 14 => qdec m pc .pop 1 && decide (nx = pc + 1)
  | 15 => qdec m pc (.goto ((b : Int) - pc)) 3
  | 16 => qdec m pc (.if_icmp (qcc a) ((b : Int) - pc)) 3 && decide (nx = pc + 3)
  | 17 => qdec m pc (.ifCond (qcc a) ((b : Int) - pc)) 3 && decide (nx = pc + 3)
  | 18 => qdec m pc (.ifnull ((b : Int) - pc)) 3 && decide (nx = pc + 3)
  | 19 => qdec m pc (.ifnonnull ((b : Int) - pc)) 3 && decide (nx = pc + 3)
  | 20 => qdec m pc (.tableswitch ((b : Int) - pc) a (a + c.length - 1) (c.map (fun (t : Nat) => (t : Int) - pc)).toArray) (nx - pc)
  | 21 => qdec m pc (.getfield b) 3 && decide (nx = pc + 3) && qfl.any (fun q => q.1 == qCl m && q.2.1 == b && q.2.2.1 == c.headD 0 && q.2.2.2.1 == a.toNat)
  | 22 => qdec m pc (.getfield b) 3 && decide (nx = pc + 3) && qfl.any (fun q => q.1 == qCl m && q.2.1 == b && q.2.2.1 == c.headD 0 && q.2.2.2.1 == a.toNat)
  | 23 => qdec m pc (.putfield b) 3 && decide (nx = pc + 3) && qfl.any (fun q => q.1 == qCl m && q.2.1 == b && q.2.2.1 == c.headD 0 && q.2.2.2.1 == a.toNat) && decide ((qT (c.headD 0) a.toNat).2.2.2 = false)
  | 24 => qdec m pc (.putfield b) 3 && decide (nx = pc + 3) && qfl.any (fun q => q.1 == qCl m && q.2.1 == b && q.2.2.1 == c.headD 0 && q.2.2.2.1 == a.toNat) && decide ((qT (c.headD 0) a.toNat).2.2.2 = true ∧ (qy m).name = "<init>" ∧ (qT (c.headD 0) a.toNat).1 = qR (qCl m))
  | 25 => qdec m pc .iaload 1 && decide (nx = pc + 1)
  | 26 => qdec m pc .iastore 1 && decide (nx = pc + 1)
  | 27 => qdec m pc .aaload 1 && decide (nx = pc + 1)
  | 28 => qdec m pc .aastore 1 && decide (nx = pc + 1)
  | 29 => qdec m pc .arraylength 1 && decide (nx = pc + 1)
  | 30 => qdec m pc (.newarray .int) 2 && decide (nx = pc + 2)
  | 31 => qdec m pc (.anewarray b) 3 && decide (nx = pc + 3 ∧ c.headD 0 < 9) && qcl.any (fun q => q.1 == qCl m && q.2.1 == b && q.2.2.1 == c.headD 0) && qao.any (fun q => q.1 == c.headD 0)
  | 32 => qdec m pc (.new b) 3 && decide (nx = pc + 3 ∧ c.headD 0 < 9) && qcl.any (fun q => q.1 == qCl m && q.2.1 == b && q.2.2.1 == c.headD 0)
  | 33 => qdec m pc (.invokestatic b) 3 && decide (nx = pc + 3 ∧ 1 ≤ (qfr m).1 ∧ 21 ≤ (qfr m).2) && qmx.any (fun q => q.1 == qCl m && q.2.1 == b)
  | 34 => qdec m pc (.invokespecial b) 3 && decide (nx = pc + 3 ∧ 1 ≤ (qfr m).1 ∧ 20 ≤ (qfr m).2) && qoi.any (fun q => q.1 == qCl m && q.2.1 == b)
  | 40 => decide (nx = pc + 3 ∧ b < qN ∧ 0 ≤ a ∧ (qfr b).1 + 1 ≤ (qfr m).1 ∧ 19 + qNl b + (qfr b).2 ≤ (qfr m).2) && qml.any (fun q => q.1 == qCl m && q.2.1 == a.toNat && q.2.2.1 == b) && (match qKi b with
    | 0 => qdec m pc (.invokestatic a.toNat) 3
    | 1 => qdec m pc (.invokevirtual a.toNat) 3
    | 2 => qdec m pc (.invokespecial a.toNat) 3
    | _ => false)
  | 41 => qdec m pc .ireturn 1 && decide (qRt m = 1)
  | 42 => qdec m pc .ireturn 1 && decide (qRt m = 2)
  | 43 => qdec m pc .areturn 1 && decide (qRt m = 3)
  | 44 => qdec m pc .return_ 1 && decide (qRt m = 0)
  | _ => false
def qokP (m : Nat) : Prop := ∀ (pc : Nat) (x : qX), qcd m pc = some x → qok m pc x = true
end
section
theorem qble {a b : Nat} (h : b < a) : Nat.ble a b = false := by
  cases e : Nat.ble a b with
  | false => rfl
  | true => exact absurd (Nat.le_of_ble_eq_true e) (by omega)
/-- a tree of places holds nothing behind its last place: checked up to there, it is checked -/
theorem qok_of {m n : Nat} {f : Nat → Option qX} (hf : qcd m = f) (hn : ∀ pc, n ≤ pc → f pc = none) (h : (List.range n).all (fun pc => match f pc with
  | none => true
  | some x => qok m pc x) = true) : qokP m := by
  intro pc x hx
  rw [hf] at hx
  by_cases hp : pc < n
  · have h1 := List.all_eq_true.mp h pc (List.mem_range.mpr hp)
    rw [hx] at h1
    exact h1
  · rw [hn pc (by omega)] at hx
    cases hx
theorem qk_0 : qokP 0 := qok_of (f := qc0) rfl (n := 23) (fun pc h => by unfold qc0; rw [qble (by omega : 22 < pc)]; rfl) (by decide +kernel)
theorem qk_1 : qokP 1 := qok_of (f := qc1) rfl (n := 14) (fun pc h => by unfold qc1; rw [qble (by omega : 13 < pc)]; rfl) (by decide +kernel)
theorem qk_2 : qokP 2 := qok_of (f := qc2) rfl (n := 25) (fun pc h => by unfold qc2; rw [qble (by omega : 24 < pc)]; rfl) (by decide +kernel)
theorem qk_3 : qokP 3 := qok_of (f := qc3) rfl (n := 20) (fun pc h => by unfold qc3; rw [qble (by omega : 19 < pc)]; rfl) (by decide +kernel)
theorem qk_4 : qokP 4 := qok_of (f := qc4) rfl (n := 8) (fun pc h => by unfold qc4; rw [qble (by omega : 7 < pc)]; rfl) (by decide +kernel)
theorem qk_5 : qokP 5 := qok_of (f := qc5) rfl (n := 5) (fun pc h => by unfold qc5; rw [qble (by omega : 4 < pc)]; rfl) (by decide +kernel)
theorem qk_6 : qokP 6 := qok_of (f := qc6) rfl (n := 13) (fun pc h => by unfold qc6; rw [qble (by omega : 12 < pc)]; rfl) (by decide +kernel)
theorem qk_7 : qokP 7 := qok_of (f := qc7) rfl (n := 9) (fun pc h => by unfold qc7; rw [qble (by omega : 8 < pc)]; rfl) (by decide +kernel)
theorem qk_8 : qokP 8 := qok_of (f := qc8) rfl (n := 19) (fun pc h => by unfold qc8; rw [qble (by omega : 18 < pc)]; rfl) (by decide +kernel)
theorem qk_9 : qokP 9 := qok_of (f := qc9) rfl (n := 24) (fun pc h => by unfold qc9; rw [qble (by omega : 23 < pc)]; rfl) (by decide +kernel)
theorem qk_10 : qokP 10 := qok_of (f := qc10) rfl (n := 35) (fun pc h => by unfold qc10; rw [qble (by omega : 34 < pc)]; rfl) (by decide +kernel)
theorem qk_11 : qokP 11 := qok_of (f := qc11) rfl (n := 49) (fun pc h => by unfold qc11; rw [qble (by omega : 48 < pc)]; rfl) (by decide +kernel)
theorem qk_12 : qokP 12 := qok_of (f := qc12) rfl (n := 55) (fun pc h => by unfold qc12; rw [qble (by omega : 54 < pc)]; rfl) (by decide +kernel)
theorem qk_13 : qokP 13 := qok_of (f := qc13) rfl (n := 49) (fun pc h => by unfold qc13; rw [qble (by omega : 48 < pc)]; rfl) (by decide +kernel)
theorem qk_14 : qokP 14 := qok_of (f := qc14) rfl (n := 48) (fun pc h => by unfold qc14; rw [qble (by omega : 47 < pc)]; rfl) (by decide +kernel)
theorem qk_15 : qokP 15 := qok_of (f := qc15) rfl (n := 5) (fun pc h => by unfold qc15; rw [qble (by omega : 4 < pc)]; rfl) (by decide +kernel)
theorem qk_16 : qokP 16 := qok_of (f := qc16) rfl (n := 65) (fun pc h => by unfold qc16; rw [qble (by omega : 64 < pc)]; rfl) (by decide +kernel)
theorem qk_17 : qokP 17 := qok_of (f := qc17) rfl (n := 65) (fun pc h => by unfold qc17; rw [qble (by omega : 64 < pc)]; rfl) (by decide +kernel)
theorem qk_18 : qokP 18 := qok_of (f := qc18) rfl (n := 51) (fun pc h => by unfold qc18; rw [qble (by omega : 50 < pc)]; rfl) (by decide +kernel)
theorem qk_19 : qokP 19 := qok_of (f := qc19) rfl (n := 31) (fun pc h => by unfold qc19; rw [qble (by omega : 30 < pc)]; rfl) (by decide +kernel)
theorem qk_20 : qokP 20 := qok_of (f := qc20) rfl (n := 8) (fun pc h => by unfold qc20; rw [qble (by omega : 7 < pc)]; rfl) (by decide +kernel)
theorem qk_21 : qokP 21 := qok_of (f := qc21) rfl (n := 17) (fun pc h => by unfold qc21; rw [qble (by omega : 16 < pc)]; rfl) (by decide +kernel)
theorem qk_22 : qokP 22 := qok_of (f := qc22) rfl (n := 9) (fun pc h => by unfold qc22; rw [qble (by omega : 8 < pc)]; rfl) (by decide +kernel)
theorem qk_23 : qokP 23 := qok_of (f := qc23) rfl (n := 9) (fun pc h => by unfold qc23; rw [qble (by omega : 8 < pc)]; rfl) (by decide +kernel)
theorem qk_24 : qokP 24 := qok_of (f := qc24) rfl (n := 71) (fun pc h => by unfold qc24; rw [qble (by omega : 70 < pc)]; rfl) (by decide +kernel)
theorem qk_25 : qokP 25 := qok_of (f := qc25) rfl (n := 41) (fun pc h => by unfold qc25; rw [qble (by omega : 40 < pc)]; rfl) (by decide +kernel)
theorem qk_26 : qokP 26 := qok_of (f := qc26) rfl (n := 62) (fun pc h => by unfold qc26; rw [qble (by omega : 61 < pc)]; rfl) (by decide +kernel)
theorem qk_27 : qokP 27 := qok_of (f := qc27) rfl (n := 46) (fun pc h => by unfold qc27; rw [qble (by omega : 45 < pc)]; rfl) (by decide +kernel)
theorem qk_28 : qokP 28 := qok_of (f := qc28) rfl (n := 15) (fun pc h => by unfold qc28; rw [qble (by omega : 14 < pc)]; rfl) (by decide +kernel)
theorem qk_29 : qokP 29 := qok_of (f := qc29) rfl (n := 153) (fun pc h => by unfold qc29; rw [qble (by omega : 152 < pc)]; rfl) (by decide +kernel)
theorem qk_30 : qokP 30 := qok_of (f := qc30) rfl (n := 18) (fun pc h => by unfold qc30; rw [qble (by omega : 17 < pc)]; rfl) (by decide +kernel)
theorem qk_31 : qokP 31 := qok_of (f := qc31) rfl (n := 15) (fun pc h => by unfold qc31; rw [qble (by omega : 14 < pc)]; rfl) (by decide +kernel)
theorem qk_32 : qokP 32 := qok_of (f := qc32) rfl (n := 55) (fun pc h => by unfold qc32; rw [qble (by omega : 54 < pc)]; rfl) (by decide +kernel)
theorem qk_33 : qokP 33 := qok_of (f := qc33) rfl (n := 45) (fun pc h => by unfold qc33; rw [qble (by omega : 44 < pc)]; rfl) (by decide +kernel)
theorem qk_34 : qokP 34 := qok_of (f := qc34) rfl (n := 72) (fun pc h => by unfold qc34; rw [qble (by omega : 71 < pc)]; rfl) (by decide +kernel)
theorem qk_35 : qokP 35 := qok_of (f := qc35) rfl (n := 17) (fun pc h => by unfold qc35; rw [qble (by omega : 16 < pc)]; rfl) (by decide +kernel)
theorem qk_36 : qokP 36 := qok_of (f := qc36) rfl (n := 43) (fun pc h => by unfold qc36; rw [qble (by omega : 42 < pc)]; rfl) (by decide +kernel)
theorem qk_37 : qokP 37 := qok_of (f := qc37) rfl (n := 50) (fun pc h => by unfold qc37; rw [qble (by omega : 49 < pc)]; rfl) (by decide +kernel)
theorem qk_38 : qokP 38 := qok_of (f := qc38) rfl (n := 28) (fun pc h => by unfold qc38; rw [qble (by omega : 27 < pc)]; rfl) (by decide +kernel)
theorem qk_39 : qokP 39 := qok_of (f := qc39) rfl (n := 21) (fun pc h => by unfold qc39; rw [qble (by omega : 20 < pc)]; rfl) (by decide +kernel)
theorem qk_40 : qokP 40 := qok_of (f := qc40) rfl (n := 5) (fun pc h => by unfold qc40; rw [qble (by omega : 4 < pc)]; rfl) (by decide +kernel)
theorem qk_41 : qokP 41 := qok_of (f := qc41) rfl (n := 27) (fun pc h => by unfold qc41; rw [qble (by omega : 26 < pc)]; rfl) (by decide +kernel)
theorem qk_42 : qokP 42 := qok_of (f := qc42) rfl (n := 20) (fun pc h => by unfold qc42; rw [qble (by omega : 19 < pc)]; rfl) (by decide +kernel)
theorem qk_43 : qokP 43 := qok_of (f := qc43) rfl (n := 16) (fun pc h => by unfold qc43; rw [qble (by omega : 15 < pc)]; rfl) (by decide +kernel)
theorem qk_44 : qokP 44 := qok_of (f := qc44) rfl (n := 40) (fun pc h => by unfold qc44; rw [qble (by omega : 39 < pc)]; rfl) (by decide +kernel)
theorem qk_45 : qokP 45 := qok_of (f := qc45) rfl (n := 18) (fun pc h => by unfold qc45; rw [qble (by omega : 17 < pc)]; rfl) (by decide +kernel)
theorem qk_46 : qokP 46 := qok_of (f := qc46) rfl (n := 31) (fun pc h => by unfold qc46; rw [qble (by omega : 30 < pc)]; rfl) (by decide +kernel)
theorem qk_47 : qokP 47 := qok_of (f := qc47) rfl (n := 55) (fun pc h => by unfold qc47; rw [qble (by omega : 54 < pc)]; rfl) (by decide +kernel)
theorem qk_48 : qokP 48 := qok_of (f := qc48) rfl (n := 38) (fun pc h => by unfold qc48; rw [qble (by omega : 37 < pc)]; rfl) (by decide +kernel)
theorem qk_49 : qokP 49 := qok_of (f := qc49) rfl (n := 29) (fun pc h => by unfold qc49; rw [qble (by omega : 28 < pc)]; rfl) (by decide +kernel)
theorem qk_50 : qokP 50 := qok_of (f := qc50) rfl (n := 23) (fun pc h => by unfold qc50; rw [qble (by omega : 22 < pc)]; rfl) (by decide +kernel)
theorem qk_51 : qokP 51 := qok_of (f := qc51) rfl (n := 47) (fun pc h => by unfold qc51; rw [qble (by omega : 46 < pc)]; rfl) (by decide +kernel)
theorem qk_52 : qokP 52 := qok_of (f := qc52) rfl (n := 47) (fun pc h => by unfold qc52; rw [qble (by omega : 46 < pc)]; rfl) (by decide +kernel)
theorem qk_53 : qokP 53 := qok_of (f := qc53) rfl (n := 44) (fun pc h => by unfold qc53; rw [qble (by omega : 43 < pc)]; rfl) (by decide +kernel)
theorem qk_54 : qokP 54 := qok_of (f := qc54) rfl (n := 9) (fun pc h => by unfold qc54; rw [qble (by omega : 8 < pc)]; rfl) (by decide +kernel)
theorem qk_55 : qokP 55 := qok_of (f := qc55) rfl (n := 10) (fun pc h => by unfold qc55; rw [qble (by omega : 9 < pc)]; rfl) (by decide +kernel)
theorem qk_56 : qokP 56 := qok_of (f := qc56) rfl (n := 19) (fun pc h => by unfold qc56; rw [qble (by omega : 18 < pc)]; rfl) (by decide +kernel)
theorem qk_57 : qokP 57 := qok_of (f := qc57) rfl (n := 8) (fun pc h => by unfold qc57; rw [qble (by omega : 7 < pc)]; rfl) (by decide +kernel)
theorem qk_58 : qokP 58 := qok_of (f := qc58) rfl (n := 34) (fun pc h => by unfold qc58; rw [qble (by omega : 33 < pc)]; rfl) (by decide +kernel)
theorem qk_59 : qokP 59 := qok_of (f := qc59) rfl (n := 38) (fun pc h => by unfold qc59; rw [qble (by omega : 37 < pc)]; rfl) (by decide +kernel)
theorem qk_60 : qokP 60 := qok_of (f := qc60) rfl (n := 50) (fun pc h => by unfold qc60; rw [qble (by omega : 49 < pc)]; rfl) (by decide +kernel)
theorem qk_61 : qokP 61 := qok_of (f := qc61) rfl (n := 14) (fun pc h => by unfold qc61; rw [qble (by omega : 13 < pc)]; rfl) (by decide +kernel)
theorem qk_62 : qokP 62 := qok_of (f := qc62) rfl (n := 15) (fun pc h => by unfold qc62; rw [qble (by omega : 14 < pc)]; rfl) (by decide +kernel)
theorem qk_63 : qokP 63 := qok_of (f := qc63) rfl (n := 97) (fun pc h => by unfold qc63; rw [qble (by omega : 96 < pc)]; rfl) (by decide +kernel)
theorem qk_64 : qokP 64 := qok_of (f := qc64) rfl (n := 45) (fun pc h => by unfold qc64; rw [qble (by omega : 44 < pc)]; rfl) (by decide +kernel)
theorem qk_65 : qokP 65 := qok_of (f := qc65) rfl (n := 18) (fun pc h => by unfold qc65; rw [qble (by omega : 17 < pc)]; rfl) (by decide +kernel)
theorem qk_66 : qokP 66 := qok_of (f := qc66) rfl (n := 162) (fun pc h => by unfold qc66; rw [qble (by omega : 161 < pc)]; rfl) (by decide +kernel)
theorem qk_67 : qokP 67 := qok_of (f := qc67) rfl (n := 42) (fun pc h => by unfold qc67; rw [qble (by omega : 41 < pc)]; rfl) (by decide +kernel)
theorem qk_68 : qokP 68 := qok_of (f := qc68) rfl (n := 90) (fun pc h => by unfold qc68; rw [qble (by omega : 89 < pc)]; rfl) (by decide +kernel)
theorem qk_69 : qokP 69 := qok_of (f := qc69) rfl (n := 126) (fun pc h => by unfold qc69; rw [qble (by omega : 125 < pc)]; rfl) (by decide +kernel)
theorem qk_70 : qokP 70 := qok_of (f := qc70) rfl (n := 34) (fun pc h => by unfold qc70; rw [qble (by omega : 33 < pc)]; rfl) (by decide +kernel)
theorem qk_71 : qokP 71 := qok_of (f := qc71) rfl (n := 32) (fun pc h => by unfold qc71; rw [qble (by omega : 31 < pc)]; rfl) (by decide +kernel)
theorem qk_72 : qokP 72 := qok_of (f := qc72) rfl (n := 136) (fun pc h => by unfold qc72; rw [qble (by omega : 135 < pc)]; rfl) (by decide +kernel)
theorem qk_73 : qokP 73 := qok_of (f := qc73) rfl (n := 94) (fun pc h => by unfold qc73; rw [qble (by omega : 93 < pc)]; rfl) (by decide +kernel)
theorem qk_74 : qokP 74 := qok_of (f := qc74) rfl (n := 47) (fun pc h => by unfold qc74; rw [qble (by omega : 46 < pc)]; rfl) (by decide +kernel)
theorem qk_75 : qokP 75 := qok_of (f := qc75) rfl (n := 52) (fun pc h => by unfold qc75; rw [qble (by omega : 51 < pc)]; rfl) (by decide +kernel)
theorem qk_76 : qokP 76 := qok_of (f := qc76) rfl (n := 95) (fun pc h => by unfold qc76; rw [qble (by omega : 94 < pc)]; rfl) (by decide +kernel)
theorem qk_77 : qokP 77 := qok_of (f := qc77) rfl (n := 99) (fun pc h => by unfold qc77; rw [qble (by omega : 98 < pc)]; rfl) (by decide +kernel)
theorem qk_78 : qokP 78 := qok_of (f := qc78) rfl (n := 76) (fun pc h => by unfold qc78; rw [qble (by omega : 75 < pc)]; rfl) (by decide +kernel)
theorem qk_79 : qokP 79 := qok_of (f := qc79) rfl (n := 42) (fun pc h => by unfold qc79; rw [qble (by omega : 41 < pc)]; rfl) (by decide +kernel)
theorem qk_80 : qokP 80 := qok_of (f := qc80) rfl (n := 18) (fun pc h => by unfold qc80; rw [qble (by omega : 17 < pc)]; rfl) (by decide +kernel)
theorem qk_81 : qokP 81 := qok_of (f := qc81) rfl (n := 33) (fun pc h => by unfold qc81; rw [qble (by omega : 32 < pc)]; rfl) (by decide +kernel)
theorem qk_82 : qokP 82 := qok_of (f := qc82) rfl (n := 92) (fun pc h => by unfold qc82; rw [qble (by omega : 91 < pc)]; rfl) (by decide +kernel)
theorem qk_83 : qokP 83 := qok_of (f := qc83) rfl (n := 21) (fun pc h => by unfold qc83; rw [qble (by omega : 20 < pc)]; rfl) (by decide +kernel)
theorem qk_84 : qokP 84 := qok_of (f := qc84) rfl (n := 21) (fun pc h => by unfold qc84; rw [qble (by omega : 20 < pc)]; rfl) (by decide +kernel)
theorem qk_85 : qokP 85 := qok_of (f := qc85) rfl (n := 17) (fun pc h => by unfold qc85; rw [qble (by omega : 16 < pc)]; rfl) (by decide +kernel)
theorem qk_86 : qokP 86 := qok_of (f := qc86) rfl (n := 24) (fun pc h => by unfold qc86; rw [qble (by omega : 23 < pc)]; rfl) (by decide +kernel)
theorem qk_87 : qokP 87 := qok_of (f := qc87) rfl (n := 16) (fun pc h => by unfold qc87; rw [qble (by omega : 15 < pc)]; rfl) (by decide +kernel)
theorem qk_88 : qokP 88 := qok_of (f := qc88) rfl (n := 47) (fun pc h => by unfold qc88; rw [qble (by omega : 46 < pc)]; rfl) (by decide +kernel)
theorem qk_89 : qokP 89 := qok_of (f := qc89) rfl (n := 34) (fun pc h => by unfold qc89; rw [qble (by omega : 33 < pc)]; rfl) (by decide +kernel)
theorem qk_90 : qokP 90 := qok_of (f := qc90) rfl (n := 52) (fun pc h => by unfold qc90; rw [qble (by omega : 51 < pc)]; rfl) (by decide +kernel)
theorem qk_91 : qokP 91 := qok_of (f := qc91) rfl (n := 77) (fun pc h => by unfold qc91; rw [qble (by omega : 76 < pc)]; rfl) (by decide +kernel)
theorem qk_92 : qokP 92 := qok_of (f := qc92) rfl (n := 34) (fun pc h => by unfold qc92; rw [qble (by omega : 33 < pc)]; rfl) (by decide +kernel)
theorem qk_93 : qokP 93 := qok_of (f := qc93) rfl (n := 42) (fun pc h => by unfold qc93; rw [qble (by omega : 41 < pc)]; rfl) (by decide +kernel)
theorem qk_94 : qokP 94 := qok_of (f := qc94) rfl (n := 96) (fun pc h => by unfold qc94; rw [qble (by omega : 95 < pc)]; rfl) (by decide +kernel)
theorem qk_95 : qokP 95 := qok_of (f := qc95) rfl (n := 81) (fun pc h => by unfold qc95; rw [qble (by omega : 80 < pc)]; rfl) (by decide +kernel)
theorem qk_96 : qokP 96 := qok_of (f := qc96) rfl (n := 49) (fun pc h => by unfold qc96; rw [qble (by omega : 48 < pc)]; rfl) (by decide +kernel)
theorem qk_97 : qokP 97 := qok_of (f := qc97) rfl (n := 54) (fun pc h => by unfold qc97; rw [qble (by omega : 53 < pc)]; rfl) (by decide +kernel)
theorem qk_98 : qokP 98 := qok_of (f := qc98) rfl (n := 32) (fun pc h => by unfold qc98; rw [qble (by omega : 31 < pc)]; rfl) (by decide +kernel)
theorem qk_99 : qokP 99 := qok_of (f := qc99) rfl (n := 142) (fun pc h => by unfold qc99; rw [qble (by omega : 141 < pc)]; rfl) (by decide +kernel)
theorem qk_100 : qokP 100 := qok_of (f := qc100) rfl (n := 42) (fun pc h => by unfold qc100; rw [qble (by omega : 41 < pc)]; rfl) (by decide +kernel)
theorem qk_101 : qokP 101 := qok_of (f := qc101) rfl (n := 55) (fun pc h => by unfold qc101; rw [qble (by omega : 54 < pc)]; rfl) (by decide +kernel)
theorem qk_102 : qokP 102 := qok_of (f := qc102) rfl (n := 58) (fun pc h => by unfold qc102; rw [qble (by omega : 57 < pc)]; rfl) (by decide +kernel)
theorem qk_103 : qokP 103 := qok_of (f := qc103) rfl (n := 103) (fun pc h => by unfold qc103; rw [qble (by omega : 102 < pc)]; rfl) (by decide +kernel)
theorem qk_104 : qokP 104 := qok_of (f := qc104) rfl (n := 16) (fun pc h => by unfold qc104; rw [qble (by omega : 15 < pc)]; rfl) (by decide +kernel)
theorem qk_105 : qokP 105 := qok_of (f := qc105) rfl (n := 30) (fun pc h => by unfold qc105; rw [qble (by omega : 29 < pc)]; rfl) (by decide +kernel)
theorem qk_106 : qokP 106 := qok_of (f := qc106) rfl (n := 72) (fun pc h => by unfold qc106; rw [qble (by omega : 71 < pc)]; rfl) (by decide +kernel)
theorem qk_107 : qokP 107 := qok_of (f := qc107) rfl (n := 14) (fun pc h => by unfold qc107; rw [qble (by omega : 13 < pc)]; rfl) (by decide +kernel)
theorem qk_108 : qokP 108 := qok_of (f := qc108) rfl (n := 14) (fun pc h => by unfold qc108; rw [qble (by omega : 13 < pc)]; rfl) (by decide +kernel)
theorem qk_109 : qokP 109 := qok_of (f := qc109) rfl (n := 14) (fun pc h => by unfold qc109; rw [qble (by omega : 13 < pc)]; rfl) (by decide +kernel)
theorem qk_110 : qokP 110 := qok_of (f := qc110) rfl (n := 32) (fun pc h => by unfold qc110; rw [qble (by omega : 31 < pc)]; rfl) (by decide +kernel)
theorem qk_111 : qokP 111 := qok_of (f := qc111) rfl (n := 18) (fun pc h => by unfold qc111; rw [qble (by omega : 17 < pc)]; rfl) (by decide +kernel)
theorem qk_112 : qokP 112 := qok_of (f := qc112) rfl (n := 11) (fun pc h => by unfold qc112; rw [qble (by omega : 10 < pc)]; rfl) (by decide +kernel)
theorem qk_113 : qokP 113 := qok_of (f := qc113) rfl (n := 13) (fun pc h => by unfold qc113; rw [qble (by omega : 12 < pc)]; rfl) (by decide +kernel)
theorem qk_114 : qokP 114 := qok_of (f := qc114) rfl (n := 13) (fun pc h => by unfold qc114; rw [qble (by omega : 12 < pc)]; rfl) (by decide +kernel)
theorem qk_115 : qokP 115 := qok_of (f := qc115) rfl (n := 17) (fun pc h => by unfold qc115; rw [qble (by omega : 16 < pc)]; rfl) (by decide +kernel)
theorem qk_116 : qokP 116 := qok_of (f := qc116) rfl (n := 40) (fun pc h => by unfold qc116; rw [qble (by omega : 39 < pc)]; rfl) (by decide +kernel)
theorem qk_117 : qokP 117 := qok_of (f := qc117) rfl (n := 12) (fun pc h => by unfold qc117; rw [qble (by omega : 11 < pc)]; rfl) (by decide +kernel)
theorem qk_118 : qokP 118 := qok_of (f := qc118) rfl (n := 57) (fun pc h => by unfold qc118; rw [qble (by omega : 56 < pc)]; rfl) (by decide +kernel)
theorem qk_119 : qokP 119 := qok_of (f := qc119) rfl (n := 47) (fun pc h => by unfold qc119; rw [qble (by omega : 46 < pc)]; rfl) (by decide +kernel)
theorem qk_120 : qokP 120 := qok_of (f := qc120) rfl (n := 39) (fun pc h => by unfold qc120; rw [qble (by omega : 38 < pc)]; rfl) (by decide +kernel)
theorem qk_121 : qokP 121 := qok_of (f := qc121) rfl (n := 15) (fun pc h => by unfold qc121; rw [qble (by omega : 14 < pc)]; rfl) (by decide +kernel)
theorem qk_122 : qokP 122 := qok_of (f := qc122) rfl (n := 39) (fun pc h => by unfold qc122; rw [qble (by omega : 38 < pc)]; rfl) (by decide +kernel)
theorem qk_123 : qokP 123 := qok_of (f := qc123) rfl (n := 40) (fun pc h => by unfold qc123; rw [qble (by omega : 39 < pc)]; rfl) (by decide +kernel)
theorem qk_124 : qokP 124 := qok_of (f := qc124) rfl (n := 21) (fun pc h => by unfold qc124; rw [qble (by omega : 20 < pc)]; rfl) (by decide +kernel)
theorem qk_125 : qokP 125 := qok_of (f := qc125) rfl (n := 49) (fun pc h => by unfold qc125; rw [qble (by omega : 48 < pc)]; rfl) (by decide +kernel)
theorem qk_126 : qokP 126 := qok_of (f := qc126) rfl (n := 200) (fun pc h => by unfold qc126; rw [qble (by omega : 199 < pc)]; rfl) (by decide +kernel)
theorem qk_127 : qokP 127 := qok_of (f := qc127) rfl (n := 58) (fun pc h => by unfold qc127; rw [qble (by omega : 57 < pc)]; rfl) (by decide +kernel)
theorem qk_128 : qokP 128 := qok_of (f := qc128) rfl (n := 97) (fun pc h => by unfold qc128; rw [qble (by omega : 96 < pc)]; rfl) (by decide +kernel)
theorem qk_129 : qokP 129 := qok_of (f := qc129) rfl (n := 41) (fun pc h => by unfold qc129; rw [qble (by omega : 40 < pc)]; rfl) (by decide +kernel)
theorem qk_130 : qokP 130 := qok_of (f := qc130) rfl (n := 186) (fun pc h => by unfold qc130; rw [qble (by omega : 185 < pc)]; rfl) (by decide +kernel)
theorem qk_131 : qokP 131 := qok_of (f := qc131) rfl (n := 55) (fun pc h => by unfold qc131; rw [qble (by omega : 54 < pc)]; rfl) (by decide +kernel)
theorem qk_132 : qokP 132 := qok_of (f := qc132) rfl (n := 196) (fun pc h => by unfold qc132; rw [qble (by omega : 195 < pc)]; rfl) (by decide +kernel)
theorem qk_133 : qokP 133 := qok_of (f := qc133) rfl (n := 41) (fun pc h => by unfold qc133; rw [qble (by omega : 40 < pc)]; rfl) (by decide +kernel)
theorem qk_134 : qokP 134 := qok_of (f := qc134) rfl (n := 159) (fun pc h => by unfold qc134; rw [qble (by omega : 158 < pc)]; rfl) (by decide +kernel)
theorem qk_135 : qokP 135 := qok_of (f := qc135) rfl (n := 61) (fun pc h => by unfold qc135; rw [qble (by omega : 60 < pc)]; rfl) (by decide +kernel)
theorem qk_136 : qokP 136 := qok_of (f := qc136) rfl (n := 115) (fun pc h => by unfold qc136; rw [qble (by omega : 114 < pc)]; rfl) (by decide +kernel)
theorem qk_137 : qokP 137 := qok_of (f := qc137) rfl (n := 50) (fun pc h => by unfold qc137; rw [qble (by omega : 49 < pc)]; rfl) (by decide +kernel)
theorem qk_138 : qokP 138 := qok_of (f := qc138) rfl (n := 12) (fun pc h => by unfold qc138; rw [qble (by omega : 11 < pc)]; rfl) (by decide +kernel)
theorem qk_139 : qokP 139 := qok_of (f := qc139) rfl (n := 187) (fun pc h => by unfold qc139; rw [qble (by omega : 186 < pc)]; rfl) (by decide +kernel)
theorem qk_140 : qokP 140 := qok_of (f := qc140) rfl (n := 38) (fun pc h => by unfold qc140; rw [qble (by omega : 37 < pc)]; rfl) (by decide +kernel)
theorem qk_141 : qokP 141 := qok_of (f := qc141) rfl (n := 90) (fun pc h => by unfold qc141; rw [qble (by omega : 89 < pc)]; rfl) (by decide +kernel)
theorem qk_142 : qokP 142 := qok_of (f := qc142) rfl (n := 33) (fun pc h => by unfold qc142; rw [qble (by omega : 32 < pc)]; rfl) (by decide +kernel)
theorem qk_143 : qokP 143 := qok_of (f := qc143) rfl (n := 250) (fun pc h => by unfold qc143; rw [qble (by omega : 249 < pc)]; rfl) (by decide +kernel)
theorem qk_144 : qokP 144 := qok_of (f := qc144) rfl (n := 33) (fun pc h => by unfold qc144; rw [qble (by omega : 32 < pc)]; rfl) (by decide +kernel)
theorem qk_145 : qokP 145 := qok_of (f := qc145) rfl (n := 45) (fun pc h => by unfold qc145; rw [qble (by omega : 44 < pc)]; rfl) (by decide +kernel)
theorem qk_146 : qokP 146 := qok_of (f := qc146) rfl (n := 58) (fun pc h => by unfold qc146; rw [qble (by omega : 57 < pc)]; rfl) (by decide +kernel)
theorem qk_147 : qokP 147 := qok_of (f := qc147) rfl (n := 114) (fun pc h => by unfold qc147; rw [qble (by omega : 113 < pc)]; rfl) (by decide +kernel)
theorem qk_148 : qokP 148 := qok_of (f := qc148) rfl (n := 128) (fun pc h => by unfold qc148; rw [qble (by omega : 127 < pc)]; rfl) (by decide +kernel)
theorem qk_149 : qokP 149 := qok_of (f := qc149) rfl (n := 34) (fun pc h => by unfold qc149; rw [qble (by omega : 33 < pc)]; rfl) (by decide +kernel)
theorem qk_150 : qokP 150 := qok_of (f := qc150) rfl (n := 88) (fun pc h => by unfold qc150; rw [qble (by omega : 87 < pc)]; rfl) (by decide +kernel)
theorem qk_151 : qokP 151 := qok_of (f := qc151) rfl (n := 44) (fun pc h => by unfold qc151; rw [qble (by omega : 43 < pc)]; rfl) (by decide +kernel)
theorem qk_152 : qokP 152 := qok_of (f := qc152) rfl (n := 47) (fun pc h => by unfold qc152; rw [qble (by omega : 46 < pc)]; rfl) (by decide +kernel)
theorem qk_153 : qokP 153 := qok_of (f := qc153) rfl (n := 150) (fun pc h => by unfold qc153; rw [qble (by omega : 149 < pc)]; rfl) (by decide +kernel)
theorem qk_154 : qokP 154 := qok_of (f := qc154) rfl (n := 51) (fun pc h => by unfold qc154; rw [qble (by omega : 50 < pc)]; rfl) (by decide +kernel)
theorem qk_155 : qokP 155 := qok_of (f := qc155) rfl (n := 102) (fun pc h => by unfold qc155; rw [qble (by omega : 101 < pc)]; rfl) (by decide +kernel)
theorem qk_156 : qokP 156 := qok_of (f := qc156) rfl (n := 96) (fun pc h => by unfold qc156; rw [qble (by omega : 95 < pc)]; rfl) (by decide +kernel)
theorem qk_157 : qokP 157 := qok_of (f := qc157) rfl (n := 35) (fun pc h => by unfold qc157; rw [qble (by omega : 34 < pc)]; rfl) (by decide +kernel)
theorem qk_158 : qokP 158 := qok_of (f := qc158) rfl (n := 20) (fun pc h => by unfold qc158; rw [qble (by omega : 19 < pc)]; rfl) (by decide +kernel)
theorem qk_159 : qokP 159 := qok_of (f := qc159) rfl (n := 37) (fun pc h => by unfold qc159; rw [qble (by omega : 36 < pc)]; rfl) (by decide +kernel)
theorem qk_160 : qokP 160 := qok_of (f := qc160) rfl (n := 74) (fun pc h => by unfold qc160; rw [qble (by omega : 73 < pc)]; rfl) (by decide +kernel)
theorem qk_161 : qokP 161 := qok_of (f := qc161) rfl (n := 106) (fun pc h => by unfold qc161; rw [qble (by omega : 105 < pc)]; rfl) (by decide +kernel)
theorem qkA_0 : ∀ m, m < 20 → qokP m := lt_s (lt_s (lt_s (lt_s (lt_s (lt_s (lt_s (lt_s (lt_s (lt_s (lt_s (lt_s (lt_s (lt_s (lt_s (lt_s (lt_s (lt_s (lt_s (lt_s (lt_0) qk_0) qk_1) qk_2) qk_3) qk_4) qk_5) qk_6) qk_7) qk_8) qk_9) qk_10) qk_11) qk_12) qk_13) qk_14) qk_15) qk_16) qk_17) qk_18) qk_19
theorem qkA_20 : ∀ m, m < 40 → qokP m := lt_s (lt_s (lt_s (lt_s (lt_s (lt_s (lt_s (lt_s (lt_s (lt_s (lt_s (lt_s (lt_s (lt_s (lt_s (lt_s (lt_s (lt_s (lt_s (lt_s (qkA_0) qk_20) qk_21) qk_22) qk_23) qk_24) qk_25) qk_26) qk_27) qk_28) qk_29) qk_30) qk_31) qk_32) qk_33) qk_34) qk_35) qk_36) qk_37) qk_38) qk_39
theorem qkA_40 : ∀ m, m < 60 → qokP m := lt_s (lt_s (lt_s (lt_s (lt_s (lt_s (lt_s (lt_s (lt_s (lt_s (lt_s (lt_s (lt_s (lt_s (lt_s (lt_s (lt_s (lt_s (lt_s (lt_s (qkA_20) qk_40) qk_41) qk_42) qk_43) qk_44) qk_45) qk_46) qk_47) qk_48) qk_49) qk_50) qk_51) qk_52) qk_53) qk_54) qk_55) qk_56) qk_57) qk_58) qk_59
theorem qkA_60 : ∀ m, m < 80 → qokP m := lt_s (lt_s (lt_s (lt_s (lt_s (lt_s (lt_s (lt_s (lt_s (lt_s (lt_s (lt_s (lt_s (lt_s (lt_s (lt_s (lt_s (lt_s (lt_s (lt_s (qkA_40) qk_60) qk_61) qk_62) qk_63) qk_64) qk_65) qk_66) qk_67) qk_68) qk_69) qk_70) qk_71) qk_72) qk_73) qk_74) qk_75) qk_76) qk_77) qk_78) qk_79
theorem qkA_80 : ∀ m, m < 100 → qokP m := lt_s (lt_s (lt_s (lt_s (lt_s (lt_s (lt_s (lt_s (lt_s (lt_s (lt_s (lt_s (lt_s (lt_s (lt_s (lt_s (lt_s (lt_s (lt_s (lt_s (qkA_60) qk_80) qk_81) qk_82) qk_83) qk_84) qk_85) qk_86) qk_87) qk_88) qk_89) qk_90) qk_91) qk_92) qk_93) qk_94) qk_95) qk_96) qk_97) qk_98) qk_99
theorem qkA_100 : ∀ m, m < 120 → qokP m := lt_s (lt_s (lt_s (lt_s (lt_s (lt_s (lt_s (lt_s (lt_s (lt_s (lt_s (lt_s (lt_s (lt_s (lt_s (lt_s (lt_s (lt_s (lt_s (lt_s (qkA_80) qk_100) qk_101) qk_102) qk_103) qk_104) qk_105) qk_106) qk_107) qk_108) qk_109) qk_110) qk_111) qk_112) qk_113) qk_114) qk_115) qk_116) qk_117) qk_118) qk_119
theorem qkA_120 : ∀ m, m < 140 → qokP m := lt_s (lt_s (lt_s (lt_s (lt_s (lt_s (lt_s (lt_s (lt_s (lt_s (lt_s (lt_s (lt_s (lt_s (lt_s (lt_s (lt_s (lt_s (lt_s (lt_s (qkA_100) qk_120) qk_121) qk_122) qk_123) qk_124) qk_125) qk_126) qk_127) qk_128) qk_129) qk_130) qk_131) qk_132) qk_133) qk_134) qk_135) qk_136) qk_137) qk_138) qk_139
theorem qkA_140 : ∀ m, m < 160 → qokP m := lt_s (lt_s (lt_s (lt_s (lt_s (lt_s (lt_s (lt_s (lt_s (lt_s (lt_s (lt_s (lt_s (lt_s (lt_s (lt_s (lt_s (lt_s (lt_s (lt_s (qkA_120) qk_140) qk_141) qk_142) qk_143) qk_144) qk_145) qk_146) qk_147) qk_148) qk_149) qk_150) qk_151) qk_152) qk_153) qk_154) qk_155) qk_156) qk_157) qk_158) qk_159
theorem qkA_160 : ∀ m, m < 162 → qokP m := lt_s (lt_s (qkA_140) qk_160) qk_161
theorem qk_all : ∀ m, m < qN → qokP m := qkA_160
end
section
/-! The abstract machine's values and memory against the machine's: relations, and what keeps them -/
def qat (ws : va_W) (k q : Nat) : Prop := ∃ e, ws[k]? = some (q, e)
def qext (ws ws' : va_W) : Prop := ∀ k q, qat ws k q → qat ws' k q
theorem qext_rf {ws : va_W} : qext ws ws := fun _ _ h => h
theorem qext_tr {a b c : va_W} (h : qext a b) (g : qext b c) : qext a c := fun k q x => g k q (h k q x)
theorem qext_app {a b : va_W} : qext a (a ++ b) := by
  rintro k q ⟨e, h⟩
  have hk : k < a.length := (List.getElem?_eq_some_iff.mp h).1
  exact ⟨e, by rw [List.getElem?_append_left hk]; exact h⟩
theorem qext_set {ws : va_W} {k q : Nat} {e e' : va_E} (h : ws[k]? = some (q, e)) : qext ws (ws.set k (q, e')) := by
  rintro i q' ⟨e0, h0⟩
  by_cases hi : k = i
  · subst hi
    rw [h] at h0
    cases h0
    have hk := (List.getElem?_eq_some_iff.mp h).1
    exact ⟨e', by rw [List.getElem?_set_self hk]⟩
  · exact ⟨e0, by rw [List.getElem?_set_ne hi]; exact h0⟩
def qvr (ws : va_W) : (Int ⊕ Nat) → Value → Prop
  | .inl x, v => v = .int (Int32.ofInt x) ∧ qin x
  | .inr k, v => ∃ q, qat ws k q ∧ v = .ref q
theorem qvr_ext {ws ws' : va_W} (h : qext ws ws') : ∀ {x : Int ⊕ Nat} {v : Value}, qvr ws x v → qvr ws' x v
  | .inl _, _, g => g
  | .inr _, _, ⟨q, g1, g2⟩ => ⟨q, h _ _ g1, g2⟩
theorem qvr_cat {ws : va_W} : ∀ {x : Int ⊕ Nat} {v : Value}, qvr ws x v → v.category = 1
  | .inl _, _, g => by rw [g.1]; rfl
  | .inr _, _, ⟨q, _, g2⟩ => by rw [g2]; rfl
def qsr (ws : va_W) : List qA → List Value → Prop
  | [], [] => True
  | some x :: S, v :: st => qvr ws x v ∧ qsr ws S st
  | _, _ => False
theorem qsr_ext {ws ws' : va_W} (h : qext ws ws') : ∀ {S : List qA} {st : List Value}, qsr ws S st → qsr ws' S st
  | [], [], _ => trivial
  | some _ :: _, _ :: _, g => ⟨qvr_ext h g.1, qsr_ext h g.2⟩
  | none :: _, _, g => by cases g
  | [], _ :: _, g => by cases g
  | some _ :: _, [], g => by cases g
theorem qsr_len {ws : va_W} : ∀ {S : List qA} {st : List Value}, qsr ws S st → S.length = st.length
  | [], [], _ => rfl
  | some _ :: _, _ :: _, g => by simp [qsr_len g.2]
  | none :: _, _, g => by cases g
  | [], _ :: _, g => by cases g
  | some _ :: _, [], g => by cases g
theorem qsr_cat {ws : va_W} : ∀ {S : List qA} {st : List Value}, qsr ws S st → ∀ v ∈ st, v.category = 1
  | [], [], _ => fun v h => by cases h
  | some _ :: _, _ :: _, g => fun v h => by
    rcases List.mem_cons.mp h with rfl | h
    · exact qvr_cat g.1
    · exact qsr_cat g.2 v h
  | none :: _, _, g => by cases g
  | [], _ :: _, g => by cases g
  | some _ :: _, [], g => by cases g
theorem qsr_cons {ws : va_W} {x : Int ⊕ Nat} {S : List qA} {st : List Value} (h : qsr ws (some x :: S) st) : ∃ v st', st = v :: st' ∧ qvr ws x v ∧ qsr ws S st' := by
  cases st with
  | nil => cases h
  | cons v st' => exact ⟨v, st', rfl, h.1, h.2⟩
theorem qsr_int {ws : va_W} {x : Int} {S : List qA} {st : List Value} (h : qsr ws (qI x :: S) st) : ∃ st', st = .int (Int32.ofInt x) :: st' ∧ qin x ∧ qsr ws S st' := by
  obtain ⟨v, st', rfl, h1, h2⟩ := qsr_cons h
  obtain ⟨rfl, h3⟩ := h1
  exact ⟨st', rfl, h3, h2⟩
theorem qsr_ref {ws : va_W} {k : Nat} {S : List qA} {st : List Value} (h : qsr ws (qK k :: S) st) : ∃ q st', st = .ref q :: st' ∧ qat ws k q ∧ qsr ws S st' := by
  obtain ⟨v, st', rfl, h1, h2⟩ := qsr_cons h
  obtain ⟨q, h3, rfl⟩ := h1
  exact ⟨q, st', rfl, h3, h2⟩
theorem qsr_nil {ws : va_W} {st : List Value} (h : qsr ws [] st) : st = [] := by
  cases st with
  | nil => rfl
  | cons v st' => cases h
theorem qsr_app {ws : va_W} : ∀ {S1 S2 : List qA} {s1 s2 : List Value}, qsr ws S1 s1 → qsr ws S2 s2 → qsr ws (S1 ++ S2) (s1 ++ s2)
  | [], _, [], _, _, g => g
  | some _ :: _, _, _ :: _, _, h, g => ⟨h.1, qsr_app h.2 g⟩
  | none :: _, _, _, _, h, _ => by cases h
  | [], _, _ :: _, _, h, _ => by cases h
  | some _ :: _, _, [], _, h, _ => by cases h
theorem qsr_rev {ws : va_W} : ∀ {S : List qA} {st : List Value}, qsr ws S st → qsr ws S.reverse st.reverse
  | [], [], _ => trivial
  | some _ :: _, _ :: _, g => by
    rw [List.reverse_cons, List.reverse_cons]
    exact qsr_app (qsr_rev g.2) ⟨g.1, trivial⟩
  | none :: _, _, g => by cases g
  | [], _ :: _, g => by cases g
  | some _ :: _, [], g => by cases g
theorem qsr_take {ws : va_W} : ∀ {S : List qA} {st : List Value} (n : Nat), qsr ws S st → qsr ws (S.take n) (st.take n)
  | _, _, 0, _ => by simp [qsr]
  | [], [], _ + 1, _ => by simp [qsr]
  | some _ :: _, _ :: _, n + 1, g => by
    rw [List.take_succ_cons, List.take_succ_cons]
    exact ⟨g.1, qsr_take n g.2⟩
  | none :: _, _, _ + 1, g => by cases g
  | [], _ :: _, _ + 1, g => by cases g
  | some _ :: _, [], _ + 1, g => by cases g
theorem qsr_drop {ws : va_W} : ∀ {S : List qA} {st : List Value} (n : Nat), qsr ws S st → qsr ws (S.drop n) (st.drop n)
  | _, _, 0, g => g
  | [], [], _ + 1, _ => by simp [qsr]
  | some _ :: _, _ :: _, n + 1, g => by
    rw [List.drop_succ_cons, List.drop_succ_cons]
    exact qsr_drop n g.2
  | none :: _, _, _ + 1, g => by cases g
  | [], _ :: _, _ + 1, g => by cases g
  | some _ :: _, [], _ + 1, g => by cases g
/-- locals -/
def qlr (ws : va_W) (L : List qA) (ls : Array Slot) : Prop := ls.size = L.length ∧ lv_wf ls ∧ ∀ (i : Nat) (x : Int ⊕ Nat), L[i]? = some (some x) → ∃ v, qvr ws x v ∧ ls[i]? = some (.val v)
theorem qlr_ext {ws ws' : va_W} (h : qext ws ws') {L : List qA} {ls : Array Slot} (g : qlr ws L ls) : qlr ws' L ls :=
  ⟨g.1, g.2.1, fun i x hx => by
    obtain ⟨v, h1, h2⟩ := g.2.2 i x hx
    exact ⟨v, qvr_ext h h1, h2⟩⟩
def qlv (ls : Array Slot) : List (Nat × Value) := (List.range ls.size).filterMap (fun (i : Nat) => match (ls[i]? : Option Slot) with
  | some (Slot.val v) => some (i, v)
  | _ => none)
theorem qlv_mem {ls : Array Slot} {i : Nat} {v : Value} : (i, v) ∈ qlv ls ↔ ls[i]? = some (.val v) := by
  unfold qlv
  rw [List.mem_filterMap]
  constructor
  · rintro ⟨j, -, h⟩
    split at h
    · rename_i w hw
      cases h
      exact hw
    · cases h
  · intro h
    have hi : i < ls.size := (Array.getElem?_eq_some_iff.mp h).1
    exact ⟨i, List.mem_range.mpr hi, by rw [h]⟩
theorem qlv_has {ls : Array Slot} (h : lv_wf ls) : lv_has ls ls.size (qlv ls) := ⟨rfl, h, fun q hq => qlv_mem.mp hq⟩
theorem qlr_set {ws : va_W} {L : List qA} {ls ls' : Array Slot} {b : Nat} {x : Int ⊕ Nat} {v : Value} (h : qlr ws L ls) (hv : qvr ws x v) (h' : lv_has ls' ls.size ((b, v) :: (qlv ls).filter (fun q => !(q.1 == b) && !(q.1 + 1 == b && q.2.category == 2)))) : qlr ws (L.set b (some x)) ls' := by
  refine ⟨by rw [h'.1, h.1, List.length_set], h'.2.1, fun i y hy => ?_⟩
  by_cases hi : b = i
  · subst hi
    have hb : b < L.length := by
      have h9 := (List.getElem?_eq_some_iff.mp hy).1
      rwa [List.length_set] at h9
    rw [List.getElem?_set_self hb] at hy
    cases hy
    exact ⟨v, hv, h'.2.2 (b, v) List.mem_cons_self⟩
  · rw [List.getElem?_set_ne hi] at hy
    obtain ⟨w, h1, h2⟩ := h.2.2 i y hy
    refine ⟨w, h1, h'.2.2 (i, w) (List.mem_cons_of_mem _ (List.mem_filter.mpr ⟨qlv_mem.mpr h2, ?_⟩))⟩
    simp [qvr_cat h1, Ne.symm hi]
/-- the memory -/
def qrf (ws : va_W) : Option Nat → Option Nat → Prop
  | none, z => z = none
  | some k, z => ∃ q, qat ws k q ∧ z = some q
theorem qrf_ext {ws ws' : va_W} (h : qext ws ws') : ∀ {x z : Option Nat}, qrf ws x z → qrf ws' x z
  | none, _, g => g
  | some _, _, ⟨q, g1, g2⟩ => ⟨q, h _ _ g1, g2⟩
def qcr (ws : va_W) (tys : List (ClassId × FieldType)) (kd : Nat × Nat) (mk : Int → Int) (rk : Int → Option Nat) (e : va_E) : Prop :=
  match kd with
  | (0, ci) => ∃ fs : List Value, e = .inr (ci, fs) ∧ fs.length = (qfs ci).length ∧ (∀ j : Nat, (qfs ci)[j]? = some false → fs[j]? = some (.int (Int32.ofInt (mk j))) ∧ qin (mk j)) ∧ (∀ j : Nat, (qfs ci)[j]? = some true → ∃ z, qrf ws (rk j) z ∧ fs[j]? = some (va_rf z))
  | (1, n) => ∃ (cA : ClassId) (f : Nat → Int32), e = .inl (cA, n, .inl f) ∧ (cA, FieldType.int) ∈ tys ∧ n ≤ 100000 ∧ ∀ j : Nat, j < n → f j = Int32.ofInt (mk j) ∧ qin (mk j)
  | (ci + 2, n) => ∃ (cA : ClassId) (f : Nat → Option Nat), e = .inl (cA, n, .inr (.inr (.inr (.inr f)))) ∧ (cA, FieldType.object (qR ci)) ∈ tys ∧ n ≤ 100000 ∧ ∀ j : Nat, j < n → qrf ws (rk j) (f j)
theorem qcr_ext {ws ws' : va_W} {tys : List (ClassId × FieldType)} {kd : Nat × Nat} {mk : Int → Int} {rk : Int → Option Nat} {e : va_E} (h : qext ws ws') (g : qcr ws tys kd mk rk e) : qcr ws' tys kd mk rk e := by
  unfold qcr at g ⊢
  split at g
  · obtain ⟨fs, h1, h2, h3, h4⟩ := g
    exact ⟨fs, h1, h2, h3, fun j hj => by
      obtain ⟨z, h5, h6⟩ := h4 j hj
      exact ⟨z, qrf_ext h h5, h6⟩⟩
  · exact g
  · obtain ⟨cA, f, h1, h2, h3, h4⟩ := g
    exact ⟨cA, f, h1, h2, h3, fun j hj => qrf_ext h (h4 j hj)⟩
theorem qcr_tys {ws : va_W} {tys tys' : List (ClassId × FieldType)} {kd : Nat × Nat} {mk : Int → Int} {rk : Int → Option Nat} {e : va_E} (h : ∀ x ∈ tys, x ∈ tys') (g : qcr ws tys kd mk rk e) : qcr ws tys' kd mk rk e := by
  unfold qcr at g ⊢
  split at g
  · exact g
  · obtain ⟨cA, f, h1, h2, h3⟩ := g
    exact ⟨cA, f, h1, h _ h2, h3⟩
  · obtain ⟨cA, f, h1, h2, h3⟩ := g
    exact ⟨cA, f, h1, h _ h2, h3⟩
def qhr (ws : va_W) (tys : List (ClassId × FieldType)) (σ : qM) : Prop := ws.length = σ.1.length ∧ ∀ (k : Nat) (kd : Nat × Nat), σ.1[k]? = some kd → ∃ q e, ws[k]? = some (q, e) ∧ qcr ws tys kd (σ.2.1 k) (σ.2.2 k) e
theorem qhr_at {ws : va_W} {tys : List (ClassId × FieldType)} {σ : qM} (h : qhr ws tys σ) {k q : Nat} {kd : Nat × Nat} (hk : σ.1[k]? = some kd) (hq : qat ws k q) : ∃ e, ws[k]? = some (q, e) ∧ qcr ws tys kd (σ.2.1 k) (σ.2.2 k) e := by
  obtain ⟨q', e, h1, h2⟩ := h.2 k kd hk
  obtain ⟨e', h3⟩ := hq
  rw [h1] at h3
  cases h3
  exact ⟨e, h1, h2⟩
theorem qhr_set {ws : va_W} {tys : List (ClassId × FieldType)} {σ σ' : qM} {k q : Nat} {e e' : va_E} {kd : Nat × Nat} (h : qhr ws tys σ) (hk : σ.1[k]? = some kd) (hq : ws[k]? = some (q, e)) (hT : σ'.1 = σ.1) (hm : ∀ a, a ≠ k → σ'.2.1 a = σ.2.1 a ∧ σ'.2.2 a = σ.2.2 a) (hc : qcr (ws.set k (q, e')) tys kd (σ'.2.1 k) (σ'.2.2 k) e') : qhr (ws.set k (q, e')) tys σ' := by
  refine ⟨by rw [List.length_set, hT]; exact h.1, fun i kd' hi => ?_⟩
  rw [hT] at hi
  by_cases hik : k = i
  · subst hik
    rw [hk] at hi
    cases hi
    have hl := (List.getElem?_eq_some_iff.mp hq).1
    exact ⟨q, e', by rw [List.getElem?_set_self hl], hc⟩
  · obtain ⟨q1, e1, h1, h2⟩ := h.2 i kd' hi
    refine ⟨q1, e1, by rw [List.getElem?_set_ne hik]; exact h1, ?_⟩
    rw [(hm i (Ne.symm hik)).1, (hm i (Ne.symm hik)).2]
    exact qcr_ext (qext_set hq) h2
theorem qhr_new {ws : va_W} {tys tys' : List (ClassId × FieldType)} {σ : qM} {q : Nat} {e : va_E} {kd : Nat × Nat} (h : qhr ws tys σ) (ht : ∀ x ∈ tys, x ∈ tys') (hc : qcr (ws ++ [(q, e)]) tys' kd (fun _ => 0) (fun _ => none) e) : qhr (ws ++ [(q, e)]) tys' (qold σ kd) := by
  refine ⟨by simp [qold, h.1], fun i kd' hi => ?_⟩
  by_cases hil : i < σ.1.length
  · have h1 : (qold σ kd).1[i]? = σ.1[i]? := List.getElem?_append_left hil
    rw [h1] at hi
    obtain ⟨q1, e1, h2, h3⟩ := h.2 i kd' hi
    refine ⟨q1, e1, by rw [List.getElem?_append_left (by rw [h.1]; exact hil)]; exact h2, ?_⟩
    have h4 : (qold σ kd).2.1 i = σ.2.1 i := by funext j; simp [qold, qrow, Nat.ne_of_lt hil]
    have h5 : (qold σ kd).2.2 i = σ.2.2 i := by funext j; simp [qold, qrow, Nat.ne_of_lt hil]
    rw [h4, h5]
    exact qcr_ext qext_app (qcr_tys ht h3)
  · have hlt := (List.getElem?_eq_some_iff.mp hi).1
    have hie : i = σ.1.length := by simp [qold] at hlt; omega
    subst hie
    have h1 : (qold σ kd).1[σ.1.length]? = some kd := by simp [qold]
    rw [h1] at hi
    cases hi
    refine ⟨q, e, by rw [← h.1]; simp, ?_⟩
    have h4 : (qold σ kd).2.1 σ.1.length = fun _ => 0 := by funext j; simp [qold, qrow]
    have h5 : (qold σ kd).2.2 σ.1.length = fun _ => none := by funext j; simp [qold, qrow]
    rw [h4, h5]
    exact hc
/-- how much room the cells take -/
def qszk (kd : Nat × Nat) : Nat := match kd with
  | (0, ci) => (qfs ci).length
  | (_, n) => n
def qsz (T : List (Nat × Nat)) : Nat := (T.map qszk).sum
theorem qsz_app (T X : List (Nat × Nat)) : qsz (T ++ X) = qsz T + qsz X := by simp [qsz]
/-- numbers -/
theorem qti {x : Int} (h : qin x) : (Int32.ofInt x).toInt = x := Int32.toInt_ofInt_of_le (by have := h.1; omega) (by have := h.2; omega)
theorem qeq {x y : Int} (hx : qin x) (hy : qin y) : Int32.ofInt x = Int32.ofInt y ↔ x = y := ⟨fun h => by rw [← qti hx, ← qti hy, h], fun h => by rw [h]⟩
theorem qlt {x y : Int} (hx : qin x) (hy : qin y) : Int32.ofInt x < Int32.ofInt y ↔ x < y := by rw [Int32.lt_iff_toInt_lt, qti hx, qti hy]
theorem qle {x y : Int} (hx : qin x) (hy : qin y) : Int32.ofInt x ≤ Int32.ofInt y ↔ x ≤ y := by rw [Int32.le_iff_toInt_le, qti hx, qti hy]
theorem qnI {x : Int} (h : 0 ≤ x) : Int32.ofInt x = nI x.toNat := by
  unfold nI
  rw [← Int32.ofInt_eq_ofNat, Int.toNat_of_nonneg h]
theorem qclamp {x : Int} (h : 0 ≤ x) (h2 : qin x) : (Int32.ofInt x).toNatClampNeg = x.toNat := by
  rw [qnI h]
  exact nI_clamp (by have := h2.2; omega)
theorem qvin {x : Int} {n : Nat} (h : 0 ≤ x) (h2 : x < n) (hn : n ≤ 100000) : vp_in (Int32.ofInt x) n := by
  rw [qnI h]
  exact vp_in_nI (by omega) (by omega)
theorem q0in : qin 0 := by decide
theorem qdiv {x y : Int} (hx : 0 ≤ x) (hy : 0 < y) (hx2 : qin x) (hy2 : qin y) : Int32.ofInt x / Int32.ofInt y = Int32.ofInt (x / y) ∧ qin (x / y) := by
  have h1 : 0 ≤ x / y := Int.ediv_nonneg hx (by omega)
  have h2 : x / y ≤ x := Int.ediv_le_self y hx
  refine ⟨?_, ⟨by omega, by have := hx2.2; omega⟩⟩
  rw [qnI hx, qnI (by omega : 0 ≤ y), qnI h1, pk_div (by have := hx2.2; omega) (by omega) (by have := hy2.2; omega)]
  congr 1
  obtain ⟨a, rfl⟩ : ∃ a : Nat, x = a := ⟨x.toNat, by omega⟩
  obtain ⟨b, rfl⟩ : ∃ b : Nat, y = b := ⟨y.toNat, by omega⟩
  rw [← Int.natCast_ediv]
  rfl
theorem qrem {x y : Int} (hx : 0 ≤ x) (hy : 0 < y) (hx2 : qin x) (hy2 : qin y) : Int32.ofInt x - Int32.ofInt x / Int32.ofInt y * Int32.ofInt y = Int32.ofInt (x % y) ∧ qin (x % y) := by
  have h1 : 0 ≤ x % y := Int.emod_nonneg x (by omega)
  have h2 : x % y < y := Int.emod_lt_of_pos x hy
  refine ⟨?_, ⟨by omega, by have := hy2.2; omega⟩⟩
  rw [qnI hx, qnI (by omega : 0 ≤ y), qnI h1, pk_rem (by have := hx2.2; omega) (by omega) (by have := hy2.2; omega)]
  congr 1
  have := Int.toNat_emod hx (by omega : 0 ≤ y)
  omega
/-- tables -/
theorem qfs_lt {ci j : Nat} {t : Bool} (h : (qfs ci)[j]? = some t) : ci < 9 := by
  by_cases hc : ci < 9
  · exact hc
  · exfalso
    have : qfs ci = [] := by
      unfold qfs
      simp [show ∀ k, k < 9 → Nat.beq ci k = false from fun k hk => by
        cases e : Nat.beq ci k with
        | false => rfl
        | true => exact absurd (Nat.eq_of_beq_eq_true e) (by omega), show ∀ k, k < 9 → Nat.ble ci k = false from fun k hk => qble (by omega)]
    rw [this] at h
    simp at h
theorem qvw {ci : Nat} (h : ci < 9) : vwCl[ci]? = some (qR ci, qT ci, (qfs ci).length) := by
  match ci, h with
  | 0, _ => rfl
  | 1, _ => rfl
  | 2, _ => rfl
  | 3, _ => rfl
  | 4, _ => rfl
  | 5, _ => rfl
  | 6, _ => rfl
  | 7, _ => rfl
  | 8, _ => rfl
theorem qu_all {ci : Nat} (h : ci < 9) : ∀ w ∈ u_ws (qR ci) (qT ci) (qfs ci).length, w ∈ qtb := by
  intro w hw
  have h1 : w ∈ lw_tbl := by
    match ci, h with
    | 0, _ => exact qu_0 w hw
    | 1, _ => exact qu_1 w hw
    | 2, _ => exact qu_2 w hw
    | 3, _ => exact qu_3 w hw
    | 4, _ => exact qu_4 w hw
    | 5, _ => exact qu_5 w hw
    | 6, _ => exact qu_6 w hw
    | 7, _ => exact qu_7 w hw
    | 8, _ => exact qu_8 w hw
  obtain ⟨k, -, rfl⟩ := List.mem_map.mp hw
  refine qtb_in h1 ?_
  unfold u_lay
  split <;> rfl
theorem qty_all {ci : Nat} (h : ci < 9) : ∀ k, k < (qfs ci).length → parseFieldDescriptor (qT ci k).2.2.1 = some (qty ci k) := by
  match ci, h with
  | 0, _ => exact tyX0_ok
  | 1, _ => exact tyX1_ok
  | 2, _ => exact tyX2_ok
  | 3, _ => exact tyX3_ok
  | 4, _ => exact tyX4_ok
  | 5, _ => exact tyX5_ok
  | 6, _ => exact tyX6_ok
  | 7, _ => exact tyX7_ok
  | 8, _ => exact tyX8_ok
theorem qnm_all {ci : Nat} (h : ci < 9) : ∀ a, a < (qfs ci).length → ∀ b, b < (qfs ci).length → a ≠ b → (qT ci a).2.1 ≠ (qT ci b).2.1 := by
  match ci, h with
  | 0, _ => exact nmX0
  | 1, _ => exact nmX1
  | 2, _ => exact nmX2
  | 3, _ => exact nmX3
  | 4, _ => exact nmX4
  | 5, _ => exact nmX5
  | 6, _ => exact nmX6
  | 7, _ => exact nmX7
  | 8, _ => exact nmX8
def qisr (t : FieldType) : Bool := match t with
  | .object _ => true
  | .array _ => true
  | _ => false
theorem qkind : ∀ ci, ci < 9 → ∀ j, j < 19 → (match (qfs ci)[j]? with
  | some false => decide (qty ci j = .int)
  | some true => qisr (qty ci j)
  | none => true) = true := by decide +kernel
theorem qfs_len : ∀ ci, ci < 9 → (qfs ci).length ≤ 19 := by decide +kernel
theorem qfs_j {ci j : Nat} {t : Bool} (h : (qfs ci)[j]? = some t) : j < (qfs ci).length := (List.getElem?_eq_some_iff.mp h).1
theorem qty_int {ci j : Nat} (h : (qfs ci)[j]? = some false) : qty ci j = .int := by
  have h1 := qkind ci (qfs_lt h) j (Nat.lt_of_lt_of_le (qfs_j h) (qfs_len ci (qfs_lt h)))
  rw [h] at h1
  simpa using h1
theorem qty_ref {ci j : Nat} (h : (qfs ci)[j]? = some true) : (∃ n, qty ci j = .object n) ∨ ∃ t, qty ci j = .array t := by
  have h1 := qkind ci (qfs_lt h) j (Nat.lt_of_lt_of_le (qfs_j h) (qfs_len ci (qfs_lt h)))
  rw [h] at h1
  have h1 : qisr (qty ci j) = true := h1
  cases hq : qty ci j <;> rw [hq] at h1 <;> first | (exact Or.inl ⟨_, rfl⟩) | (exact Or.inr ⟨_, rfl⟩) | (simp [qisr] at h1)
end
section
/-- what the tables say of arrays of references -/
def qAO (U : State) : Prop := ∀ ci : Nat, qao.any (fun q => q.1 == ci) = true → va_AO (qR ci) U
theorem qAO_moved {u U : State} (hvm : u.vm.Alike U.vm) (h : qAO u) : qAO U := fun ci hc => va_AO.moved hvm (h ci hc)
/-- the machine stands in a method of the table -/
def qCtx (p : Program) (s : State) (m : MethodId) (args : Array Value) (meth : Method) (c : Code) (R : Room) (k : Nat) : Prop :=
  k < qN ∧ p.tables.exec = Jvm.exec ∧ c.code = qb k ∧ c.maxLocals = qNl k ∧ s.vm.findClass (qR (qCl k)) = some m.cls ∧ (∀ w ∈ qtb, w.before args s = true) ∧ meth.sig.returnType = qret k ∧ meth.locks = false ∧ meth.name = (qy k).name ∧ (qfr k).1 ≤ R.frames ∧ (qfr k).2 ≤ R.locals ∧ qAO s
/-- the machine's heap holds the abstract memory -/
def qHp (D : va_G) (A : Nat → Prop) (s : State) (ws : va_W) (tys : List (ClassId × FieldType)) (σ : qM) (H : Heap) (locs : List Loc) : Prop := qhr ws tys σ ∧ va_P D vwCl ws H ∧ va_K D vwCl tys s ∧ va_D A ws ∧ va_S A s.heap H locs
theorem qfl_at {k b ci j : Nat} (h : qfl.any (fun q => q.1 == k && q.2.1 == b && q.2.2.1 == ci && q.2.2.2.1 == j) = true) : Cond.fieldLink (qR k) b (qT ci j).1 (qT ci j).2.1 (qT ci j).2.2.1 ∈ qtb := by
  obtain ⟨q, hq, h1⟩ := List.any_eq_true.mp h
  have h2 := List.all_eq_true.mp qfl_ok q hq
  simp only [Bool.and_eq_true, beq_iff_eq] at h1
  obtain ⟨⟨⟨e1, e2⟩, e3⟩, e4⟩ := h1
  rw [e1, e2, e3, e4] at h2
  exact qtb_at (of_decide_eq_true h2) rfl
theorem qcl_at {k b ci : Nat} (h : qcl.any (fun q => q.1 == k && q.2.1 == b && q.2.2.1 == ci) = true) : Cond.classLink (qR k) b (qR ci) ∈ qtb := by
  obtain ⟨q, hq, h1⟩ := List.any_eq_true.mp h
  have h2 := List.all_eq_true.mp qcl_ok q hq
  simp only [Bool.and_eq_true, beq_iff_eq] at h1
  obtain ⟨⟨e1, e2⟩, e3⟩ := h1
  rw [e1, e2, e3] at h2
  exact qtb_at (of_decide_eq_true h2) rfl
theorem qml_at {k b y : Nat} (h : qml.any (fun q => q.1 == k && q.2.1 == b && q.2.2.1 == y) = true) : Cond.methodLink (qR k) b (qy y) ∈ qtb := by
  obtain ⟨q, hq, h1⟩ := List.any_eq_true.mp h
  have h2 := List.all_eq_true.mp qml_ok q hq
  simp only [Bool.and_eq_true, beq_iff_eq] at h1
  obtain ⟨⟨e1, e2⟩, e3⟩ := h1
  rw [e1, e2, e3] at h2
  exact qtb_at (of_decide_eq_true h2) rfl
theorem qmx_at {k b : Nat} (h : qmx.any (fun q => q.1 == k && q.2.1 == b) = true) : Cond.methodLink (qR k) b Lib.Math.max.name ∈ qtb := by
  obtain ⟨q, hq, h1⟩ := List.any_eq_true.mp h
  have h2 := List.all_eq_true.mp qmx_ok q hq
  simp only [Bool.and_eq_true, beq_iff_eq] at h1
  rw [h1.1, h1.2] at h2
  exact qtb_at (of_decide_eq_true h2) rfl
theorem qoi_at {k b : Nat} (h : qoi.any (fun q => q.1 == k && q.2.1 == b) = true) : Cond.methodLink (qR k) b Lib.objectInit ∈ qtb := by
  obtain ⟨q, hq, h1⟩ := List.any_eq_true.mp h
  have h2 := List.all_eq_true.mp qoi_ok q hq
  simp only [Bool.and_eq_true, beq_iff_eq] at h1
  rw [h1.1, h1.2] at h2
  exact qtb_at (of_decide_eq_true h2) rfl
theorem qcp_at {ci : Nat} (h : ci < 9) : Cond.instantiable (qR ci) (qfs ci).length ∈ qtb ∧ Cond.initialized (qR ci) ∈ qtb := by
  have h2 := of_decide_eq_true (List.all_eq_true.mp qcp_ok ci (List.mem_range.mpr h))
  exact ⟨qtb_at h2.1 rfl, qtb_at h2.2 rfl⟩
theorem qmem_at {α : Type} {x : α} {l : List α} (h : x ∈ l) : ∃ i : Nat, l[i]? = some x := List.getElem?_of_mem h
theorem qfin4 {b : Nat} (h : b < 4) : ((Fin.ofNat 4 b : Fin 4) : Nat) = b := by simp [Fin.ofNat, Nat.mod_eq_of_lt h]
theorem qsum1 {l : List Value} (h : ∀ v ∈ l, v.category = 1) : (l.map fun v => v.category).sum = l.length := by
  induction l with
  | nil => rfl
  | cons a t ih =>
    rw [List.map_cons, List.sum_cons, h a List.mem_cons_self, ih (fun v hv => h v (List.mem_cons_of_mem _ hv)), List.length_cons]
    omega
theorem qs_0 {p : Program} {l : Launch} {e : Env} {R : Room} {s : State} {m : MethodId} {args : Array Value} {below : List Frame} {meth : Method} {c : Code} {H : Heap} {locs : List Loc} {cells slots : Nat} {Q : State → Prop} {D : va_G} {A : Nat → Prop} {k pc b nx : Nat} {a : Int} {cl : List Nat} {L S : List qA} {σ : qM} {pc' : Nat} {L' S' : List qA} {σ' : qM} {n0 z0 : Nat} {ws : va_W} {tys : List (ClassId × FieldType)} {ls : Array Slot} {st : List Value}
    (hok : qok k pc (0, a, b, cl, nx) = true) (hs : qstep 0 a b cl nx pc L S σ = some (pc', L', S', σ')) (hr1 : σ'.1.length ≤ n0 + R.cells) (hr2 : qsz σ'.1 ≤ z0 + R.slots) (C : qCtx p s m args meth c R k) (Hp : qHp D A s ws tys σ H locs) (hL : qlr ws L ls) (hS : qsr ws S st) (hc1 : cells + n0 = σ.1.length) (hc2 : slots + z0 = qsz σ.1) (hA : ∀ q, s.heap.size ≤ q → A q) (hNl : L.length = qNl k)
    (kk : ∀ (ws' : va_W) (tys' : List (ClassId × FieldType)) (H' : Heap) (locs' : List Loc) (ls' : Array Slot) (st' : List Value) (cells' slots' : Nat), qext ws ws' → qHp D A s ws' tys' σ' H' locs' → qlr ws' L' ls' → qsr ws' S' st' → cells' + n0 = σ'.1.length → slots' + z0 = qsz σ'.1 → W p l e R s m args below meth c H' locs' cells' slots' Q (F0 m pc' ls' st')) :
    W p l e R s m args below meth c H locs cells slots Q (F0 m pc ls st) := by
  obtain ⟨hkN, hx, hb, hml, hown, hts, hret, hlk, hnm, hRf, hRl, hAO⟩ := C
  obtain ⟨hh, hP, hK, hD, hSS⟩ := Hp
  simp only [qstep] at hs
  rw [Option.ite_none_right_eq_some] at hs
  obtain ⟨hq, hs⟩ := hs
  simp only [Option.some.injEq, Prod.mk.injEq] at hs
  obtain ⟨rfl, rfl, rfl, rfl⟩ := hs
  simp only [qok, qdec, Bool.and_eq_true, Bool.or_eq_true, decide_eq_true_eq] at hok
  rcases hok with (⟨h1, h2⟩ | ⟨h1, h2, h3⟩) | ⟨h1, h2, h3⟩
  · subst h2
    exact lv_iconst hx hb h1 rfl (kk ws tys H locs ls _ cells slots qext_rf ⟨hh, hP, hK, hD, hSS⟩ hL ⟨⟨rfl, hq⟩, hS⟩ hc1 hc2)
  · subst h2
    exact lv_bipush hx hb h1 h3 (kk ws tys H locs ls _ cells slots qext_rf ⟨hh, hP, hK, hD, hSS⟩ hL ⟨⟨rfl, hq⟩, hS⟩ hc1 hc2)
  · subst h2
    exact lv_sipush hx hb h1 h3 (kk ws tys H locs ls _ cells slots qext_rf ⟨hh, hP, hK, hD, hSS⟩ hL ⟨⟨rfl, hq⟩, hS⟩ hc1 hc2)
theorem qs_1 {p : Program} {l : Launch} {e : Env} {R : Room} {s : State} {m : MethodId} {args : Array Value} {below : List Frame} {meth : Method} {c : Code} {H : Heap} {locs : List Loc} {cells slots : Nat} {Q : State → Prop} {D : va_G} {A : Nat → Prop} {k pc b nx : Nat} {a : Int} {cl : List Nat} {L S : List qA} {σ : qM} {pc' : Nat} {L' S' : List qA} {σ' : qM} {n0 z0 : Nat} {ws : va_W} {tys : List (ClassId × FieldType)} {ls : Array Slot} {st : List Value}
    (hok : qok k pc (1, a, b, cl, nx) = true) (hs : qstep 1 a b cl nx pc L S σ = some (pc', L', S', σ')) (hr1 : σ'.1.length ≤ n0 + R.cells) (hr2 : qsz σ'.1 ≤ z0 + R.slots) (C : qCtx p s m args meth c R k) (Hp : qHp D A s ws tys σ H locs) (hL : qlr ws L ls) (hS : qsr ws S st) (hc1 : cells + n0 = σ.1.length) (hc2 : slots + z0 = qsz σ.1) (hA : ∀ q, s.heap.size ≤ q → A q) (hNl : L.length = qNl k)
    (kk : ∀ (ws' : va_W) (tys' : List (ClassId × FieldType)) (H' : Heap) (locs' : List Loc) (ls' : Array Slot) (st' : List Value) (cells' slots' : Nat), qext ws ws' → qHp D A s ws' tys' σ' H' locs' → qlr ws' L' ls' → qsr ws' S' st' → cells' + n0 = σ'.1.length → slots' + z0 = qsz σ'.1 → W p l e R s m args below meth c H' locs' cells' slots' Q (F0 m pc' ls' st')) :
    W p l e R s m args below meth c H locs cells slots Q (F0 m pc ls st) := by
  obtain ⟨hkN, hx, hb, hml, hown, hts, hret, hlk, hnm, hRf, hRl, hAO⟩ := C
  obtain ⟨hh, hP, hK, hD, hSS⟩ := Hp
  simp only [qstep] at hs
  split at hs <;> first | (cases hs; done) | skip
  rename_i x hx0
  simp only [Option.some.injEq, Prod.mk.injEq] at hs
  obtain ⟨rfl, rfl, rfl, rfl⟩ := hs
  simp only [qok, qdec, Bool.and_eq_true, Bool.or_eq_true, decide_eq_true_eq] at hok
  obtain ⟨v, hv, hl⟩ := hL.2.2 b _ hx0
  obtain ⟨rfl, hq⟩ := hv
  rcases hok with ⟨⟨h1, h2⟩, h3⟩ | ⟨h1, h2⟩
  · subst h2
    exact lv_iload_n hx hb h3 (qfin4 h1) hl (kk ws tys H locs ls _ cells slots qext_rf ⟨hh, hP, hK, hD, hSS⟩ hL ⟨⟨rfl, hq⟩, hS⟩ hc1 hc2)
  · subst h2
    exact lv_iload hx hb h1 hl (kk ws tys H locs ls _ cells slots qext_rf ⟨hh, hP, hK, hD, hSS⟩ hL ⟨⟨rfl, hq⟩, hS⟩ hc1 hc2)
theorem qs_2 {p : Program} {l : Launch} {e : Env} {R : Room} {s : State} {m : MethodId} {args : Array Value} {below : List Frame} {meth : Method} {c : Code} {H : Heap} {locs : List Loc} {cells slots : Nat} {Q : State → Prop} {D : va_G} {A : Nat → Prop} {k pc b nx : Nat} {a : Int} {cl : List Nat} {L S : List qA} {σ : qM} {pc' : Nat} {L' S' : List qA} {σ' : qM} {n0 z0 : Nat} {ws : va_W} {tys : List (ClassId × FieldType)} {ls : Array Slot} {st : List Value}
    (hok : qok k pc (2, a, b, cl, nx) = true) (hs : qstep 2 a b cl nx pc L S σ = some (pc', L', S', σ')) (hr1 : σ'.1.length ≤ n0 + R.cells) (hr2 : qsz σ'.1 ≤ z0 + R.slots) (C : qCtx p s m args meth c R k) (Hp : qHp D A s ws tys σ H locs) (hL : qlr ws L ls) (hS : qsr ws S st) (hc1 : cells + n0 = σ.1.length) (hc2 : slots + z0 = qsz σ.1) (hA : ∀ q, s.heap.size ≤ q → A q) (hNl : L.length = qNl k)
    (kk : ∀ (ws' : va_W) (tys' : List (ClassId × FieldType)) (H' : Heap) (locs' : List Loc) (ls' : Array Slot) (st' : List Value) (cells' slots' : Nat), qext ws ws' → qHp D A s ws' tys' σ' H' locs' → qlr ws' L' ls' → qsr ws' S' st' → cells' + n0 = σ'.1.length → slots' + z0 = qsz σ'.1 → W p l e R s m args below meth c H' locs' cells' slots' Q (F0 m pc' ls' st')) :
    W p l e R s m args below meth c H locs cells slots Q (F0 m pc ls st) := by
  obtain ⟨hkN, hx, hb, hml, hown, hts, hret, hlk, hnm, hRf, hRl, hAO⟩ := C
  obtain ⟨hh, hP, hK, hD, hSS⟩ := Hp
  simp only [qstep] at hs
  split at hs <;> first | (cases hs; done) | skip
  rename_i x hx0
  simp only [Option.some.injEq, Prod.mk.injEq] at hs
  obtain ⟨rfl, rfl, rfl, rfl⟩ := hs
  simp only [qok, qdec, Bool.and_eq_true, Bool.or_eq_true, decide_eq_true_eq] at hok
  obtain ⟨v, hv, hl⟩ := hL.2.2 b _ hx0
  obtain ⟨q, hq, rfl⟩ := hv
  rcases hok with ⟨⟨h1, h2⟩, h3⟩ | ⟨h1, h2⟩
  · subst h2
    exact lv_aload_n hx hb h3 (qfin4 h1) hl (kk ws tys H locs ls _ cells slots qext_rf ⟨hh, hP, hK, hD, hSS⟩ hL ⟨⟨q, hq, rfl⟩, hS⟩ hc1 hc2)
  · subst h2
    exact lv_aload hx hb h1 hl (kk ws tys H locs ls _ cells slots qext_rf ⟨hh, hP, hK, hD, hSS⟩ hL ⟨⟨q, hq, rfl⟩, hS⟩ hc1 hc2)
theorem qs_3 {p : Program} {l : Launch} {e : Env} {R : Room} {s : State} {m : MethodId} {args : Array Value} {below : List Frame} {meth : Method} {c : Code} {H : Heap} {locs : List Loc} {cells slots : Nat} {Q : State → Prop} {D : va_G} {A : Nat → Prop} {k pc b nx : Nat} {a : Int} {cl : List Nat} {L S : List qA} {σ : qM} {pc' : Nat} {L' S' : List qA} {σ' : qM} {n0 z0 : Nat} {ws : va_W} {tys : List (ClassId × FieldType)} {ls : Array Slot} {st : List Value}
    (hok : qok k pc (3, a, b, cl, nx) = true) (hs : qstep 3 a b cl nx pc L S σ = some (pc', L', S', σ')) (hr1 : σ'.1.length ≤ n0 + R.cells) (hr2 : qsz σ'.1 ≤ z0 + R.slots) (C : qCtx p s m args meth c R k) (Hp : qHp D A s ws tys σ H locs) (hL : qlr ws L ls) (hS : qsr ws S st) (hc1 : cells + n0 = σ.1.length) (hc2 : slots + z0 = qsz σ.1) (hA : ∀ q, s.heap.size ≤ q → A q) (hNl : L.length = qNl k)
    (kk : ∀ (ws' : va_W) (tys' : List (ClassId × FieldType)) (H' : Heap) (locs' : List Loc) (ls' : Array Slot) (st' : List Value) (cells' slots' : Nat), qext ws ws' → qHp D A s ws' tys' σ' H' locs' → qlr ws' L' ls' → qsr ws' S' st' → cells' + n0 = σ'.1.length → slots' + z0 = qsz σ'.1 → W p l e R s m args below meth c H' locs' cells' slots' Q (F0 m pc' ls' st')) :
    W p l e R s m args below meth c H locs cells slots Q (F0 m pc ls st) := by
  obtain ⟨hkN, hx, hb, hml, hown, hts, hret, hlk, hnm, hRf, hRl, hAO⟩ := C
  obtain ⟨hh, hP, hK, hD, hSS⟩ := Hp
  simp only [qstep] at hs
  split at hs <;> first | (cases hs; done) | skip
  rename_i x S1
  rw [Option.ite_none_right_eq_some] at hs
  obtain ⟨hbl, hs⟩ := hs
  simp only [Option.some.injEq, Prod.mk.injEq] at hs
  obtain ⟨rfl, rfl, rfl, rfl⟩ := hs
  simp only [qok, qdec, Bool.and_eq_true, Bool.or_eq_true, decide_eq_true_eq] at hok
  obtain ⟨st, rfl, hq, hS⟩ := qsr_int hS
  have hbl : b < ls.size := by rw [hL.1]; exact hbl
  rcases hok with ⟨⟨h1, h2⟩, h3⟩ | ⟨h1, h2⟩
  · subst h2
    exact lv_istore_n hx hb h3 (qfin4 h1) (qlv_has hL.2.1) hbl rfl (fun ls' hl' => kk ws tys H locs ls' _ cells slots qext_rf ⟨hh, hP, hK, hD, hSS⟩ (qlr_set hL ⟨rfl, hq⟩ hl') hS hc1 hc2)
  · subst h2
    exact lv_istore hx hb h1 (qlv_has hL.2.1) hbl rfl (fun ls' hl' => kk ws tys H locs ls' _ cells slots qext_rf ⟨hh, hP, hK, hD, hSS⟩ (qlr_set hL ⟨rfl, hq⟩ hl') hS hc1 hc2)
theorem qs_4 {p : Program} {l : Launch} {e : Env} {R : Room} {s : State} {m : MethodId} {args : Array Value} {below : List Frame} {meth : Method} {c : Code} {H : Heap} {locs : List Loc} {cells slots : Nat} {Q : State → Prop} {D : va_G} {A : Nat → Prop} {k pc b nx : Nat} {a : Int} {cl : List Nat} {L S : List qA} {σ : qM} {pc' : Nat} {L' S' : List qA} {σ' : qM} {n0 z0 : Nat} {ws : va_W} {tys : List (ClassId × FieldType)} {ls : Array Slot} {st : List Value}
    (hok : qok k pc (4, a, b, cl, nx) = true) (hs : qstep 4 a b cl nx pc L S σ = some (pc', L', S', σ')) (hr1 : σ'.1.length ≤ n0 + R.cells) (hr2 : qsz σ'.1 ≤ z0 + R.slots) (C : qCtx p s m args meth c R k) (Hp : qHp D A s ws tys σ H locs) (hL : qlr ws L ls) (hS : qsr ws S st) (hc1 : cells + n0 = σ.1.length) (hc2 : slots + z0 = qsz σ.1) (hA : ∀ q, s.heap.size ≤ q → A q) (hNl : L.length = qNl k)
    (kk : ∀ (ws' : va_W) (tys' : List (ClassId × FieldType)) (H' : Heap) (locs' : List Loc) (ls' : Array Slot) (st' : List Value) (cells' slots' : Nat), qext ws ws' → qHp D A s ws' tys' σ' H' locs' → qlr ws' L' ls' → qsr ws' S' st' → cells' + n0 = σ'.1.length → slots' + z0 = qsz σ'.1 → W p l e R s m args below meth c H' locs' cells' slots' Q (F0 m pc' ls' st')) :
    W p l e R s m args below meth c H locs cells slots Q (F0 m pc ls st) := by
  obtain ⟨hkN, hx, hb, hml, hown, hts, hret, hlk, hnm, hRf, hRl, hAO⟩ := C
  obtain ⟨hh, hP, hK, hD, hSS⟩ := Hp
  simp only [qstep] at hs
  split at hs <;> first | (cases hs; done) | skip
  rename_i x S1
  rw [Option.ite_none_right_eq_some] at hs
  obtain ⟨hbl, hs⟩ := hs
  simp only [Option.some.injEq, Prod.mk.injEq] at hs
  obtain ⟨rfl, rfl, rfl, rfl⟩ := hs
  simp only [qok, qdec, Bool.and_eq_true, Bool.or_eq_true, decide_eq_true_eq] at hok
  obtain ⟨q, st, rfl, hq, hS⟩ := qsr_ref hS
  have hbl : b < ls.size := by rw [hL.1]; exact hbl
  rcases hok with ⟨⟨h1, h2⟩, h3⟩ | ⟨h1, h2⟩
  · subst h2
    exact lv_astore_n hx hb h3 (qfin4 h1) (qlv_has hL.2.1) hbl rfl (fun ls' hl' => kk ws tys H locs ls' _ cells slots qext_rf ⟨hh, hP, hK, hD, hSS⟩ (qlr_set hL ⟨q, hq, rfl⟩ hl') hS hc1 hc2)
  · subst h2
    exact lv_astore hx hb h1 (qlv_has hL.2.1) hbl rfl (fun ls' hl' => kk ws tys H locs ls' _ cells slots qext_rf ⟨hh, hP, hK, hD, hSS⟩ (qlr_set hL ⟨q, hq, rfl⟩ hl') hS hc1 hc2)
theorem qs_5 {p : Program} {l : Launch} {e : Env} {R : Room} {s : State} {m : MethodId} {args : Array Value} {below : List Frame} {meth : Method} {c : Code} {H : Heap} {locs : List Loc} {cells slots : Nat} {Q : State → Prop} {D : va_G} {A : Nat → Prop} {k pc b nx : Nat} {a : Int} {cl : List Nat} {L S : List qA} {σ : qM} {pc' : Nat} {L' S' : List qA} {σ' : qM} {n0 z0 : Nat} {ws : va_W} {tys : List (ClassId × FieldType)} {ls : Array Slot} {st : List Value}
    (hok : qok k pc (5, a, b, cl, nx) = true) (hs : qstep 5 a b cl nx pc L S σ = some (pc', L', S', σ')) (hr1 : σ'.1.length ≤ n0 + R.cells) (hr2 : qsz σ'.1 ≤ z0 + R.slots) (C : qCtx p s m args meth c R k) (Hp : qHp D A s ws tys σ H locs) (hL : qlr ws L ls) (hS : qsr ws S st) (hc1 : cells + n0 = σ.1.length) (hc2 : slots + z0 = qsz σ.1) (hA : ∀ q, s.heap.size ≤ q → A q) (hNl : L.length = qNl k)
    (kk : ∀ (ws' : va_W) (tys' : List (ClassId × FieldType)) (H' : Heap) (locs' : List Loc) (ls' : Array Slot) (st' : List Value) (cells' slots' : Nat), qext ws ws' → qHp D A s ws' tys' σ' H' locs' → qlr ws' L' ls' → qsr ws' S' st' → cells' + n0 = σ'.1.length → slots' + z0 = qsz σ'.1 → W p l e R s m args below meth c H' locs' cells' slots' Q (F0 m pc' ls' st')) :
    W p l e R s m args below meth c H locs cells slots Q (F0 m pc ls st) := by
  obtain ⟨hkN, hx, hb, hml, hown, hts, hret, hlk, hnm, hRf, hRl, hAO⟩ := C
  obtain ⟨hh, hP, hK, hD, hSS⟩ := Hp
  simp only [qstep] at hs
  split at hs <;> first | (cases hs; done) | skip
  rename_i x hx0
  rw [Option.ite_none_right_eq_some] at hs
  obtain ⟨hq2, hs⟩ := hs
  simp only [Option.some.injEq, Prod.mk.injEq] at hs
  obtain ⟨rfl, rfl, rfl, rfl⟩ := hs
  simp only [qok, qdec, Bool.and_eq_true, Bool.or_eq_true, decide_eq_true_eq] at hok
  obtain ⟨v, hv, hl⟩ := hL.2.2 b _ hx0
  obtain ⟨rfl, hq⟩ := hv
  obtain ⟨h1, h2⟩ := hok
  subst h2
  obtain ⟨i, hi⟩ := qmem_at (qlv_mem.mpr hl)
  exact lv_iinc hx hb h1 (qlv_has hL.2.1) hi (Int32.ofInt_add x a).symm ((Array.getElem?_eq_some_iff.mp hl).1) rfl (fun ls' hl' => kk ws tys H locs ls' _ cells slots qext_rf ⟨hh, hP, hK, hD, hSS⟩ (qlr_set hL ⟨rfl, hq2⟩ hl') hS hc1 hc2)
theorem qs_6 {p : Program} {l : Launch} {e : Env} {R : Room} {s : State} {m : MethodId} {args : Array Value} {below : List Frame} {meth : Method} {c : Code} {H : Heap} {locs : List Loc} {cells slots : Nat} {Q : State → Prop} {D : va_G} {A : Nat → Prop} {k pc b nx : Nat} {a : Int} {cl : List Nat} {L S : List qA} {σ : qM} {pc' : Nat} {L' S' : List qA} {σ' : qM} {n0 z0 : Nat} {ws : va_W} {tys : List (ClassId × FieldType)} {ls : Array Slot} {st : List Value}
    (hok : qok k pc (6, a, b, cl, nx) = true) (hs : qstep 6 a b cl nx pc L S σ = some (pc', L', S', σ')) (hr1 : σ'.1.length ≤ n0 + R.cells) (hr2 : qsz σ'.1 ≤ z0 + R.slots) (C : qCtx p s m args meth c R k) (Hp : qHp D A s ws tys σ H locs) (hL : qlr ws L ls) (hS : qsr ws S st) (hc1 : cells + n0 = σ.1.length) (hc2 : slots + z0 = qsz σ.1) (hA : ∀ q, s.heap.size ≤ q → A q) (hNl : L.length = qNl k)
    (kk : ∀ (ws' : va_W) (tys' : List (ClassId × FieldType)) (H' : Heap) (locs' : List Loc) (ls' : Array Slot) (st' : List Value) (cells' slots' : Nat), qext ws ws' → qHp D A s ws' tys' σ' H' locs' → qlr ws' L' ls' → qsr ws' S' st' → cells' + n0 = σ'.1.length → slots' + z0 = qsz σ'.1 → W p l e R s m args below meth c H' locs' cells' slots' Q (F0 m pc' ls' st')) :
    W p l e R s m args below meth c H locs cells slots Q (F0 m pc ls st) := by
  obtain ⟨hkN, hx, hb, hml, hown, hts, hret, hlk, hnm, hRf, hRl, hAO⟩ := C
  obtain ⟨hh, hP, hK, hD, hSS⟩ := Hp
  simp only [qstep] at hs
  split at hs <;> first | (cases hs; done) | skip
  rename_i y x S1
  rw [Option.ite_none_right_eq_some] at hs
  obtain ⟨hq2, hs⟩ := hs
  simp only [Option.some.injEq, Prod.mk.injEq] at hs
  obtain ⟨rfl, rfl, rfl, rfl⟩ := hs
  simp only [qok, qdec, Bool.and_eq_true, Bool.or_eq_true, decide_eq_true_eq] at hok
  obtain ⟨st, rfl, hq, hS⟩ := qsr_int hS
  obtain ⟨st, rfl, hq1, hS⟩ := qsr_int hS
  obtain ⟨h1, h2⟩ := hok
  subst h2
  exact lv_iadd hx hb h1 (kk ws tys H locs ls _ cells slots qext_rf ⟨hh, hP, hK, hD, hSS⟩ hL ⟨⟨by rw [Int32.ofInt_add], hq2⟩, hS⟩ hc1 hc2)
theorem qs_7 {p : Program} {l : Launch} {e : Env} {R : Room} {s : State} {m : MethodId} {args : Array Value} {below : List Frame} {meth : Method} {c : Code} {H : Heap} {locs : List Loc} {cells slots : Nat} {Q : State → Prop} {D : va_G} {A : Nat → Prop} {k pc b nx : Nat} {a : Int} {cl : List Nat} {L S : List qA} {σ : qM} {pc' : Nat} {L' S' : List qA} {σ' : qM} {n0 z0 : Nat} {ws : va_W} {tys : List (ClassId × FieldType)} {ls : Array Slot} {st : List Value}
    (hok : qok k pc (7, a, b, cl, nx) = true) (hs : qstep 7 a b cl nx pc L S σ = some (pc', L', S', σ')) (hr1 : σ'.1.length ≤ n0 + R.cells) (hr2 : qsz σ'.1 ≤ z0 + R.slots) (C : qCtx p s m args meth c R k) (Hp : qHp D A s ws tys σ H locs) (hL : qlr ws L ls) (hS : qsr ws S st) (hc1 : cells + n0 = σ.1.length) (hc2 : slots + z0 = qsz σ.1) (hA : ∀ q, s.heap.size ≤ q → A q) (hNl : L.length = qNl k)
    (kk : ∀ (ws' : va_W) (tys' : List (ClassId × FieldType)) (H' : Heap) (locs' : List Loc) (ls' : Array Slot) (st' : List Value) (cells' slots' : Nat), qext ws ws' → qHp D A s ws' tys' σ' H' locs' → qlr ws' L' ls' → qsr ws' S' st' → cells' + n0 = σ'.1.length → slots' + z0 = qsz σ'.1 → W p l e R s m args below meth c H' locs' cells' slots' Q (F0 m pc' ls' st')) :
    W p l e R s m args below meth c H locs cells slots Q (F0 m pc ls st) := by
  obtain ⟨hkN, hx, hb, hml, hown, hts, hret, hlk, hnm, hRf, hRl, hAO⟩ := C
  obtain ⟨hh, hP, hK, hD, hSS⟩ := Hp
  simp only [qstep] at hs
  split at hs <;> first | (cases hs; done) | skip
  rename_i y x S1
  rw [Option.ite_none_right_eq_some] at hs
  obtain ⟨hq2, hs⟩ := hs
  simp only [Option.some.injEq, Prod.mk.injEq] at hs
  obtain ⟨rfl, rfl, rfl, rfl⟩ := hs
  simp only [qok, qdec, Bool.and_eq_true, Bool.or_eq_true, decide_eq_true_eq] at hok
  obtain ⟨st, rfl, hq, hS⟩ := qsr_int hS
  obtain ⟨st, rfl, hq1, hS⟩ := qsr_int hS
  obtain ⟨h1, h2⟩ := hok
  subst h2
  exact lv_isub hx hb h1 (kk ws tys H locs ls _ cells slots qext_rf ⟨hh, hP, hK, hD, hSS⟩ hL ⟨⟨by rw [Int32.ofInt_sub], hq2⟩, hS⟩ hc1 hc2)
theorem qs_8 {p : Program} {l : Launch} {e : Env} {R : Room} {s : State} {m : MethodId} {args : Array Value} {below : List Frame} {meth : Method} {c : Code} {H : Heap} {locs : List Loc} {cells slots : Nat} {Q : State → Prop} {D : va_G} {A : Nat → Prop} {k pc b nx : Nat} {a : Int} {cl : List Nat} {L S : List qA} {σ : qM} {pc' : Nat} {L' S' : List qA} {σ' : qM} {n0 z0 : Nat} {ws : va_W} {tys : List (ClassId × FieldType)} {ls : Array Slot} {st : List Value}
    (hok : qok k pc (8, a, b, cl, nx) = true) (hs : qstep 8 a b cl nx pc L S σ = some (pc', L', S', σ')) (hr1 : σ'.1.length ≤ n0 + R.cells) (hr2 : qsz σ'.1 ≤ z0 + R.slots) (C : qCtx p s m args meth c R k) (Hp : qHp D A s ws tys σ H locs) (hL : qlr ws L ls) (hS : qsr ws S st) (hc1 : cells + n0 = σ.1.length) (hc2 : slots + z0 = qsz σ.1) (hA : ∀ q, s.heap.size ≤ q → A q) (hNl : L.length = qNl k)
    (kk : ∀ (ws' : va_W) (tys' : List (ClassId × FieldType)) (H' : Heap) (locs' : List Loc) (ls' : Array Slot) (st' : List Value) (cells' slots' : Nat), qext ws ws' → qHp D A s ws' tys' σ' H' locs' → qlr ws' L' ls' → qsr ws' S' st' → cells' + n0 = σ'.1.length → slots' + z0 = qsz σ'.1 → W p l e R s m args below meth c H' locs' cells' slots' Q (F0 m pc' ls' st')) :
    W p l e R s m args below meth c H locs cells slots Q (F0 m pc ls st) := by
  obtain ⟨hkN, hx, hb, hml, hown, hts, hret, hlk, hnm, hRf, hRl, hAO⟩ := C
  obtain ⟨hh, hP, hK, hD, hSS⟩ := Hp
  simp only [qstep] at hs
  split at hs <;> first | (cases hs; done) | skip
  rename_i y x S1
  rw [Option.ite_none_right_eq_some] at hs
  obtain ⟨hq2, hs⟩ := hs
  simp only [Option.some.injEq, Prod.mk.injEq] at hs
  obtain ⟨rfl, rfl, rfl, rfl⟩ := hs
  simp only [qok, qdec, Bool.and_eq_true, Bool.or_eq_true, decide_eq_true_eq] at hok
  obtain ⟨st, rfl, hq, hS⟩ := qsr_int hS
  obtain ⟨st, rfl, hq1, hS⟩ := qsr_int hS
  obtain ⟨h1, h2⟩ := hok
  subst h2
  exact lv_imul hx hb h1 (kk ws tys H locs ls _ cells slots qext_rf ⟨hh, hP, hK, hD, hSS⟩ hL ⟨⟨by rw [Int32.ofInt_mul], hq2⟩, hS⟩ hc1 hc2)
theorem qs_9 {p : Program} {l : Launch} {e : Env} {R : Room} {s : State} {m : MethodId} {args : Array Value} {below : List Frame} {meth : Method} {c : Code} {H : Heap} {locs : List Loc} {cells slots : Nat} {Q : State → Prop} {D : va_G} {A : Nat → Prop} {k pc b nx : Nat} {a : Int} {cl : List Nat} {L S : List qA} {σ : qM} {pc' : Nat} {L' S' : List qA} {σ' : qM} {n0 z0 : Nat} {ws : va_W} {tys : List (ClassId × FieldType)} {ls : Array Slot} {st : List Value}
    (hok : qok k pc (9, a, b, cl, nx) = true) (hs : qstep 9 a b cl nx pc L S σ = some (pc', L', S', σ')) (hr1 : σ'.1.length ≤ n0 + R.cells) (hr2 : qsz σ'.1 ≤ z0 + R.slots) (C : qCtx p s m args meth c R k) (Hp : qHp D A s ws tys σ H locs) (hL : qlr ws L ls) (hS : qsr ws S st) (hc1 : cells + n0 = σ.1.length) (hc2 : slots + z0 = qsz σ.1) (hA : ∀ q, s.heap.size ≤ q → A q) (hNl : L.length = qNl k)
    (kk : ∀ (ws' : va_W) (tys' : List (ClassId × FieldType)) (H' : Heap) (locs' : List Loc) (ls' : Array Slot) (st' : List Value) (cells' slots' : Nat), qext ws ws' → qHp D A s ws' tys' σ' H' locs' → qlr ws' L' ls' → qsr ws' S' st' → cells' + n0 = σ'.1.length → slots' + z0 = qsz σ'.1 → W p l e R s m args below meth c H' locs' cells' slots' Q (F0 m pc' ls' st')) :
    W p l e R s m args below meth c H locs cells slots Q (F0 m pc ls st) := by
  obtain ⟨hkN, hx, hb, hml, hown, hts, hret, hlk, hnm, hRf, hRl, hAO⟩ := C
  obtain ⟨hh, hP, hK, hD, hSS⟩ := Hp
  simp only [qstep] at hs
  split at hs <;> first | (cases hs; done) | skip
  rename_i y x S1
  rw [Option.ite_none_right_eq_some] at hs
  obtain ⟨⟨hx1, hy1⟩, hs⟩ := hs
  simp only [Option.some.injEq, Prod.mk.injEq] at hs
  obtain ⟨rfl, rfl, rfl, rfl⟩ := hs
  simp only [qok, qdec, Bool.and_eq_true, Bool.or_eq_true, decide_eq_true_eq] at hok
  obtain ⟨st, rfl, hq, hS⟩ := qsr_int hS
  obtain ⟨st, rfl, hq1, hS⟩ := qsr_int hS
  obtain ⟨h1, h2⟩ := hok
  subst h2
  obtain ⟨e1, e2⟩ := qdiv hx1 hy1 hq1 hq
  exact lv_idiv hx hb h1 (fun h0 => absurd ((qeq hq q0in).mp h0) (by omega)) (kk ws tys H locs ls _ cells slots qext_rf ⟨hh, hP, hK, hD, hSS⟩ hL ⟨⟨by rw [e1], e2⟩, hS⟩ hc1 hc2)
theorem qs_10 {p : Program} {l : Launch} {e : Env} {R : Room} {s : State} {m : MethodId} {args : Array Value} {below : List Frame} {meth : Method} {c : Code} {H : Heap} {locs : List Loc} {cells slots : Nat} {Q : State → Prop} {D : va_G} {A : Nat → Prop} {k pc b nx : Nat} {a : Int} {cl : List Nat} {L S : List qA} {σ : qM} {pc' : Nat} {L' S' : List qA} {σ' : qM} {n0 z0 : Nat} {ws : va_W} {tys : List (ClassId × FieldType)} {ls : Array Slot} {st : List Value}
    (hok : qok k pc (10, a, b, cl, nx) = true) (hs : qstep 10 a b cl nx pc L S σ = some (pc', L', S', σ')) (hr1 : σ'.1.length ≤ n0 + R.cells) (hr2 : qsz σ'.1 ≤ z0 + R.slots) (C : qCtx p s m args meth c R k) (Hp : qHp D A s ws tys σ H locs) (hL : qlr ws L ls) (hS : qsr ws S st) (hc1 : cells + n0 = σ.1.length) (hc2 : slots + z0 = qsz σ.1) (hA : ∀ q, s.heap.size ≤ q → A q) (hNl : L.length = qNl k)
    (kk : ∀ (ws' : va_W) (tys' : List (ClassId × FieldType)) (H' : Heap) (locs' : List Loc) (ls' : Array Slot) (st' : List Value) (cells' slots' : Nat), qext ws ws' → qHp D A s ws' tys' σ' H' locs' → qlr ws' L' ls' → qsr ws' S' st' → cells' + n0 = σ'.1.length → slots' + z0 = qsz σ'.1 → W p l e R s m args below meth c H' locs' cells' slots' Q (F0 m pc' ls' st')) :
    W p l e R s m args below meth c H locs cells slots Q (F0 m pc ls st) := by
  obtain ⟨hkN, hx, hb, hml, hown, hts, hret, hlk, hnm, hRf, hRl, hAO⟩ := C
  obtain ⟨hh, hP, hK, hD, hSS⟩ := Hp
  simp only [qstep] at hs
  split at hs <;> first | (cases hs; done) | skip
  rename_i y x S1
  rw [Option.ite_none_right_eq_some] at hs
  obtain ⟨⟨hx1, hy1⟩, hs⟩ := hs
  simp only [Option.some.injEq, Prod.mk.injEq] at hs
  obtain ⟨rfl, rfl, rfl, rfl⟩ := hs
  simp only [qok, qdec, Bool.and_eq_true, Bool.or_eq_true, decide_eq_true_eq] at hok
  obtain ⟨st, rfl, hq, hS⟩ := qsr_int hS
  obtain ⟨st, rfl, hq1, hS⟩ := qsr_int hS
  obtain ⟨h1, h2⟩ := hok
  subst h2
  obtain ⟨e1, e2⟩ := qrem hx1 hy1 hq1 hq
  exact lv_irem hx hb h1 (fun h0 => absurd ((qeq hq q0in).mp h0) (by omega)) (kk ws tys H locs ls _ cells slots qext_rf ⟨hh, hP, hK, hD, hSS⟩ hL ⟨⟨by rw [e1], e2⟩, hS⟩ hc1 hc2)
theorem qs_12 {p : Program} {l : Launch} {e : Env} {R : Room} {s : State} {m : MethodId} {args : Array Value} {below : List Frame} {meth : Method} {c : Code} {H : Heap} {locs : List Loc} {cells slots : Nat} {Q : State → Prop} {D : va_G} {A : Nat → Prop} {k pc b nx : Nat} {a : Int} {cl : List Nat} {L S : List qA} {σ : qM} {pc' : Nat} {L' S' : List qA} {σ' : qM} {n0 z0 : Nat} {ws : va_W} {tys : List (ClassId × FieldType)} {ls : Array Slot} {st : List Value}
    (hok : qok k pc (12, a, b, cl, nx) = true) (hs : qstep 12 a b cl nx pc L S σ = some (pc', L', S', σ')) (hr1 : σ'.1.length ≤ n0 + R.cells) (hr2 : qsz σ'.1 ≤ z0 + R.slots) (C : qCtx p s m args meth c R k) (Hp : qHp D A s ws tys σ H locs) (hL : qlr ws L ls) (hS : qsr ws S st) (hc1 : cells + n0 = σ.1.length) (hc2 : slots + z0 = qsz σ.1) (hA : ∀ q, s.heap.size ≤ q → A q) (hNl : L.length = qNl k)
    (kk : ∀ (ws' : va_W) (tys' : List (ClassId × FieldType)) (H' : Heap) (locs' : List Loc) (ls' : Array Slot) (st' : List Value) (cells' slots' : Nat), qext ws ws' → qHp D A s ws' tys' σ' H' locs' → qlr ws' L' ls' → qsr ws' S' st' → cells' + n0 = σ'.1.length → slots' + z0 = qsz σ'.1 → W p l e R s m args below meth c H' locs' cells' slots' Q (F0 m pc' ls' st')) :
    W p l e R s m args below meth c H locs cells slots Q (F0 m pc ls st) := by
  obtain ⟨hkN, hx, hb, hml, hown, hts, hret, hlk, hnm, hRf, hRl, hAO⟩ := C
  obtain ⟨hh, hP, hK, hD, hSS⟩ := Hp
  simp only [qstep] at hs
  split at hs <;> first | (cases hs; done) | skip
  rename_i x S1
  simp only [Option.some.injEq, Prod.mk.injEq] at hs
  obtain ⟨rfl, rfl, rfl, rfl⟩ := hs
  simp only [qok, qdec, Bool.and_eq_true, Bool.or_eq_true, decide_eq_true_eq] at hok
  obtain ⟨v, st, rfl, hv, hS⟩ := qsr_cons hS
  obtain ⟨h1, h2⟩ := hok
  subst h2
  exact lv_dup hx hb h1 (qvr_cat hv) (kk ws tys H locs ls _ cells slots qext_rf ⟨hh, hP, hK, hD, hSS⟩ hL ⟨hv, hv, hS⟩ hc1 hc2)
theorem qs_13 {p : Program} {l : Launch} {e : Env} {R : Room} {s : State} {m : MethodId} {args : Array Value} {below : List Frame} {meth : Method} {c : Code} {H : Heap} {locs : List Loc} {cells slots : Nat} {Q : State → Prop} {D : va_G} {A : Nat → Prop} {k pc b nx : Nat} {a : Int} {cl : List Nat} {L S : List qA} {σ : qM} {pc' : Nat} {L' S' : List qA} {σ' : qM} {n0 z0 : Nat} {ws : va_W} {tys : List (ClassId × FieldType)} {ls : Array Slot} {st : List Value}
    (hok : qok k pc (13, a, b, cl, nx) = true) (hs : qstep 13 a b cl nx pc L S σ = some (pc', L', S', σ')) (hr1 : σ'.1.length ≤ n0 + R.cells) (hr2 : qsz σ'.1 ≤ z0 + R.slots) (C : qCtx p s m args meth c R k) (Hp : qHp D A s ws tys σ H locs) (hL : qlr ws L ls) (hS : qsr ws S st) (hc1 : cells + n0 = σ.1.length) (hc2 : slots + z0 = qsz σ.1) (hA : ∀ q, s.heap.size ≤ q → A q) (hNl : L.length = qNl k)
    (kk : ∀ (ws' : va_W) (tys' : List (ClassId × FieldType)) (H' : Heap) (locs' : List Loc) (ls' : Array Slot) (st' : List Value) (cells' slots' : Nat), qext ws ws' → qHp D A s ws' tys' σ' H' locs' → qlr ws' L' ls' → qsr ws' S' st' → cells' + n0 = σ'.1.length → slots' + z0 = qsz σ'.1 → W p l e R s m args below meth c H' locs' cells' slots' Q (F0 m pc' ls' st')) :
    W p l e R s m args below meth c H locs cells slots Q (F0 m pc ls st) := by
  obtain ⟨hkN, hx, hb, hml, hown, hts, hret, hlk, hnm, hRf, hRl, hAO⟩ := C
  obtain ⟨hh, hP, hK, hD, hSS⟩ := Hp
  simp only [qstep] at hs
  split at hs <;> first | (cases hs; done) | skip
  rename_i x y S1
  simp only [Option.some.injEq, Prod.mk.injEq] at hs
  obtain ⟨rfl, rfl, rfl, rfl⟩ := hs
  simp only [qok, qdec, Bool.and_eq_true, Bool.or_eq_true, decide_eq_true_eq] at hok
  obtain ⟨v, st, rfl, hv, hS⟩ := qsr_cons hS
  obtain ⟨w, st, rfl, hw, hS⟩ := qsr_cons hS
  obtain ⟨h1, h2⟩ := hok
  subst h2
  exact lv_dup2_11 hx hb h1 (by first | exact qvr_cat hv | exact qvr_cat hw) (by first | exact qvr_cat hw | exact qvr_cat hv) (kk ws tys H locs ls _ cells slots qext_rf ⟨hh, hP, hK, hD, hSS⟩ hL ⟨hv, hw, hv, hw, hS⟩ hc1 hc2)
theorem qs_14 {p : Program} {l : Launch} {e : Env} {R : Room} {s : State} {m : MethodId} {args : Array Value} {below : List Frame} {meth : Method} {c : Code} {H : Heap} {locs : List Loc} {cells slots : Nat} {Q : State → Prop} {D : va_G} {A : Nat → Prop} {k pc b nx : Nat} {a : Int} {cl : List Nat} {L S : List qA} {σ : qM} {pc' : Nat} {L' S' : List qA} {σ' : qM} {n0 z0 : Nat} {ws : va_W} {tys : List (ClassId × FieldType)} {ls : Array Slot} {st : List Value}
    (hok : qok k pc (14, a, b, cl, nx) = true) (hs : qstep 14 a b cl nx pc L S σ = some (pc', L', S', σ')) (hr1 : σ'.1.length ≤ n0 + R.cells) (hr2 : qsz σ'.1 ≤ z0 + R.slots) (C : qCtx p s m args meth c R k) (Hp : qHp D A s ws tys σ H locs) (hL : qlr ws L ls) (hS : qsr ws S st) (hc1 : cells + n0 = σ.1.length) (hc2 : slots + z0 = qsz σ.1) (hA : ∀ q, s.heap.size ≤ q → A q) (hNl : L.length = qNl k)
    (kk : ∀ (ws' : va_W) (tys' : List (ClassId × FieldType)) (H' : Heap) (locs' : List Loc) (ls' : Array Slot) (st' : List Value) (cells' slots' : Nat), qext ws ws' → qHp D A s ws' tys' σ' H' locs' → qlr ws' L' ls' → qsr ws' S' st' → cells' + n0 = σ'.1.length → slots' + z0 = qsz σ'.1 → W p l e R s m args below meth c H' locs' cells' slots' Q (F0 m pc' ls' st')) :
    W p l e R s m args below meth c H locs cells slots Q (F0 m pc ls st) := by
  obtain ⟨hkN, hx, hb, hml, hown, hts, hret, hlk, hnm, hRf, hRl, hAO⟩ := C
  obtain ⟨hh, hP, hK, hD, hSS⟩ := Hp
  simp only [qstep] at hs
  split at hs <;> first | (cases hs; done) | skip
  rename_i x S1
  simp only [Option.some.injEq, Prod.mk.injEq] at hs
  obtain ⟨rfl, rfl, rfl, rfl⟩ := hs
  simp only [qok, qdec, Bool.and_eq_true, Bool.or_eq_true, decide_eq_true_eq] at hok
  obtain ⟨v, st, rfl, hv, hS⟩ := qsr_cons hS
  obtain ⟨h1, h2⟩ := hok
  subst h2
  exact lv_pop hx hb h1 (qvr_cat hv) (kk ws tys H locs ls _ cells slots qext_rf ⟨hh, hP, hK, hD, hSS⟩ hL hS hc1 hc2)
theorem qs_15 {p : Program} {l : Launch} {e : Env} {R : Room} {s : State} {m : MethodId} {args : Array Value} {below : List Frame} {meth : Method} {c : Code} {H : Heap} {locs : List Loc} {cells slots : Nat} {Q : State → Prop} {D : va_G} {A : Nat → Prop} {k pc b nx : Nat} {a : Int} {cl : List Nat} {L S : List qA} {σ : qM} {pc' : Nat} {L' S' : List qA} {σ' : qM} {n0 z0 : Nat} {ws : va_W} {tys : List (ClassId × FieldType)} {ls : Array Slot} {st : List Value}
    (hok : qok k pc (15, a, b, cl, nx) = true) (hs : qstep 15 a b cl nx pc L S σ = some (pc', L', S', σ')) (hr1 : σ'.1.length ≤ n0 + R.cells) (hr2 : qsz σ'.1 ≤ z0 + R.slots) (C : qCtx p s m args meth c R k) (Hp : qHp D A s ws tys σ H locs) (hL : qlr ws L ls) (hS : qsr ws S st) (hc1 : cells + n0 = σ.1.length) (hc2 : slots + z0 = qsz σ.1) (hA : ∀ q, s.heap.size ≤ q → A q) (hNl : L.length = qNl k)
    (kk : ∀ (ws' : va_W) (tys' : List (ClassId × FieldType)) (H' : Heap) (locs' : List Loc) (ls' : Array Slot) (st' : List Value) (cells' slots' : Nat), qext ws ws' → qHp D A s ws' tys' σ' H' locs' → qlr ws' L' ls' → qsr ws' S' st' → cells' + n0 = σ'.1.length → slots' + z0 = qsz σ'.1 → W p l e R s m args below meth c H' locs' cells' slots' Q (F0 m pc' ls' st')) :
    W p l e R s m args below meth c H locs cells slots Q (F0 m pc ls st) := by
  obtain ⟨hkN, hx, hb, hml, hown, hts, hret, hlk, hnm, hRf, hRl, hAO⟩ := C
  obtain ⟨hh, hP, hK, hD, hSS⟩ := Hp
  simp only [qstep] at hs
  simp only [Option.some.injEq, Prod.mk.injEq] at hs
  obtain ⟨rfl, rfl, rfl, rfl⟩ := hs
  simp only [qok, qdec, Bool.and_eq_true, Bool.or_eq_true, decide_eq_true_eq] at hok
  exact lv_goto hx hb hok (by omega) (kk ws tys H locs ls _ cells slots qext_rf ⟨hh, hP, hK, hD, hSS⟩ hL hS hc1 hc2)
theorem qs_16 {p : Program} {l : Launch} {e : Env} {R : Room} {s : State} {m : MethodId} {args : Array Value} {below : List Frame} {meth : Method} {c : Code} {H : Heap} {locs : List Loc} {cells slots : Nat} {Q : State → Prop} {D : va_G} {A : Nat → Prop} {k pc b nx : Nat} {a : Int} {cl : List Nat} {L S : List qA} {σ : qM} {pc' : Nat} {L' S' : List qA} {σ' : qM} {n0 z0 : Nat} {ws : va_W} {tys : List (ClassId × FieldType)} {ls : Array Slot} {st : List Value}
    (hok : qok k pc (16, a, b, cl, nx) = true) (hs : qstep 16 a b cl nx pc L S σ = some (pc', L', S', σ')) (hr1 : σ'.1.length ≤ n0 + R.cells) (hr2 : qsz σ'.1 ≤ z0 + R.slots) (C : qCtx p s m args meth c R k) (Hp : qHp D A s ws tys σ H locs) (hL : qlr ws L ls) (hS : qsr ws S st) (hc1 : cells + n0 = σ.1.length) (hc2 : slots + z0 = qsz σ.1) (hA : ∀ q, s.heap.size ≤ q → A q) (hNl : L.length = qNl k)
    (kk : ∀ (ws' : va_W) (tys' : List (ClassId × FieldType)) (H' : Heap) (locs' : List Loc) (ls' : Array Slot) (st' : List Value) (cells' slots' : Nat), qext ws ws' → qHp D A s ws' tys' σ' H' locs' → qlr ws' L' ls' → qsr ws' S' st' → cells' + n0 = σ'.1.length → slots' + z0 = qsz σ'.1 → W p l e R s m args below meth c H' locs' cells' slots' Q (F0 m pc' ls' st')) :
    W p l e R s m args below meth c H locs cells slots Q (F0 m pc ls st) := by
  obtain ⟨hkN, hx, hb, hml, hown, hts, hret, hlk, hnm, hRf, hRl, hAO⟩ := C
  obtain ⟨hh, hP, hK, hD, hSS⟩ := Hp
  simp only [qstep] at hs
  split at hs <;> first | (cases hs; done) | skip
  rename_i y x S1
  simp only [Option.some.injEq, Prod.mk.injEq] at hs
  obtain ⟨hpc, rfl, rfl, rfl⟩ := hs
  simp only [qok, qdec, Bool.and_eq_true, Bool.or_eq_true, decide_eq_true_eq] at hok
  obtain ⟨h1, h2⟩ := hok
  subst h2
  obtain ⟨st, rfl, hq, hS⟩ := qsr_int hS
  obtain ⟨st, rfl, hq1, hS⟩ := qsr_int hS
  have kt : qcmp a x y = true → W p l e R s m args below meth c H locs cells slots Q (F0 m b ls st) := fun h => by
    rw [if_pos h] at hpc
    subst hpc
    exact kk ws tys H locs ls _ cells slots qext_rf ⟨hh, hP, hK, hD, hSS⟩ hL hS hc1 hc2
  have kf : ¬ qcmp a x y = true → W p l e R s m args below meth c H locs cells slots Q (F0 m (pc + 3) ls st) := fun h => by
    rw [if_neg h] at hpc
    subst hpc
    exact kk ws tys H locs ls _ cells slots qext_rf ⟨hh, hP, hK, hD, hSS⟩ hL hS hc1 hc2
  by_cases hn0 : a = 0
  · have hcc : qcc a = .eq := by simp [qcc, hn0]
    have hqc : qcmp a x y = decide (x = y) := by simp [qcmp, hn0]
    rw [hcc] at h1
    exact lv_icmp_eq hx hb h1 (by omega) (fun h => kt (by rw [hqc]; exact decide_eq_true ((qeq hq1 hq).mp h))) (fun h => kf (by rw [hqc]; exact fun h9 => h ((qeq hq1 hq).mpr (of_decide_eq_true h9))))
  by_cases hn1 : a = 1
  · have hcc : qcc a = .ne := by simp [qcc, hn1]
    have hqc : qcmp a x y = decide (x ≠ y) := by simp [qcmp, hn1]
    rw [hcc] at h1
    exact lv_icmp_ne hx hb h1 (by omega) (fun h => kt (by rw [hqc]; exact decide_eq_true (fun h9 => h ((qeq hq1 hq).mpr h9)))) (fun h => kf (by rw [hqc]; exact fun h9 => of_decide_eq_true h9 ((qeq hq1 hq).mp h)))
  by_cases hn2 : a = 2
  · have hcc : qcc a = .lt := by simp [qcc, hn2]
    have hqc : qcmp a x y = decide (x < y) := by simp [qcmp, hn2]
    rw [hcc] at h1
    exact lv_icmp_lt hx hb h1 (by omega) (fun h => kt (by rw [hqc]; exact decide_eq_true ((qlt hq1 hq).mp h))) (fun h => kf (by rw [hqc]; exact fun h9 => h ((qlt hq1 hq).mpr (of_decide_eq_true h9))))
  by_cases hn3 : a = 3
  · have hcc : qcc a = .ge := by simp [qcc, hn3]
    have hqc : qcmp a x y = decide (y ≤ x) := by simp [qcmp, hn3]
    rw [hcc] at h1
    exact lv_icmp_ge hx hb h1 (by omega) (fun h => kt (by rw [hqc]; exact decide_eq_true ((qle hq hq1).mp h))) (fun h => kf (by rw [hqc]; exact fun h9 => h ((qle hq hq1).mpr (of_decide_eq_true h9))))
  by_cases hn4 : a = 4
  · have hcc : qcc a = .gt := by simp [qcc, hn4]
    have hqc : qcmp a x y = decide (y < x) := by simp [qcmp, hn4]
    rw [hcc] at h1
    exact lv_icmp_gt hx hb h1 (by omega) (fun h => kt (by rw [hqc]; exact decide_eq_true ((qlt hq hq1).mp h))) (fun h => kf (by rw [hqc]; exact fun h9 => h ((qlt hq hq1).mpr (of_decide_eq_true h9))))
  have hcc : qcc a = .le := by simp [qcc, hn0, hn1, hn2, hn3, hn4]
  have hqc : qcmp a x y = decide (x ≤ y) := by simp [qcmp, hn0, hn1, hn2, hn3, hn4]
  rw [hcc] at h1
  exact lv_icmp_le hx hb h1 (by omega) (fun h => kt (by rw [hqc]; exact decide_eq_true ((qle hq1 hq).mp h))) (fun h => kf (by rw [hqc]; exact fun h9 => h ((qle hq1 hq).mpr (of_decide_eq_true h9))))
theorem qs_17 {p : Program} {l : Launch} {e : Env} {R : Room} {s : State} {m : MethodId} {args : Array Value} {below : List Frame} {meth : Method} {c : Code} {H : Heap} {locs : List Loc} {cells slots : Nat} {Q : State → Prop} {D : va_G} {A : Nat → Prop} {k pc b nx : Nat} {a : Int} {cl : List Nat} {L S : List qA} {σ : qM} {pc' : Nat} {L' S' : List qA} {σ' : qM} {n0 z0 : Nat} {ws : va_W} {tys : List (ClassId × FieldType)} {ls : Array Slot} {st : List Value}
    (hok : qok k pc (17, a, b, cl, nx) = true) (hs : qstep 17 a b cl nx pc L S σ = some (pc', L', S', σ')) (hr1 : σ'.1.length ≤ n0 + R.cells) (hr2 : qsz σ'.1 ≤ z0 + R.slots) (C : qCtx p s m args meth c R k) (Hp : qHp D A s ws tys σ H locs) (hL : qlr ws L ls) (hS : qsr ws S st) (hc1 : cells + n0 = σ.1.length) (hc2 : slots + z0 = qsz σ.1) (hA : ∀ q, s.heap.size ≤ q → A q) (hNl : L.length = qNl k)
    (kk : ∀ (ws' : va_W) (tys' : List (ClassId × FieldType)) (H' : Heap) (locs' : List Loc) (ls' : Array Slot) (st' : List Value) (cells' slots' : Nat), qext ws ws' → qHp D A s ws' tys' σ' H' locs' → qlr ws' L' ls' → qsr ws' S' st' → cells' + n0 = σ'.1.length → slots' + z0 = qsz σ'.1 → W p l e R s m args below meth c H' locs' cells' slots' Q (F0 m pc' ls' st')) :
    W p l e R s m args below meth c H locs cells slots Q (F0 m pc ls st) := by
  obtain ⟨hkN, hx, hb, hml, hown, hts, hret, hlk, hnm, hRf, hRl, hAO⟩ := C
  obtain ⟨hh, hP, hK, hD, hSS⟩ := Hp
  simp only [qstep] at hs
  split at hs <;> first | (cases hs; done) | skip
  rename_i x S1
  simp only [Option.some.injEq, Prod.mk.injEq] at hs
  obtain ⟨hpc, rfl, rfl, rfl⟩ := hs
  simp only [qok, qdec, Bool.and_eq_true, Bool.or_eq_true, decide_eq_true_eq] at hok
  obtain ⟨h1, h2⟩ := hok
  subst h2
  obtain ⟨st, rfl, hq1, hS⟩ := qsr_int hS
  have hq : qin 0 := q0in
  have kt : qcmp a x 0 = true → W p l e R s m args below meth c H locs cells slots Q (F0 m b ls st) := fun h => by
    rw [if_pos h] at hpc
    subst hpc
    exact kk ws tys H locs ls _ cells slots qext_rf ⟨hh, hP, hK, hD, hSS⟩ hL hS hc1 hc2
  have kf : ¬ qcmp a x 0 = true → W p l e R s m args below meth c H locs cells slots Q (F0 m (pc + 3) ls st) := fun h => by
    rw [if_neg h] at hpc
    subst hpc
    exact kk ws tys H locs ls _ cells slots qext_rf ⟨hh, hP, hK, hD, hSS⟩ hL hS hc1 hc2
  by_cases hn0 : a = 0
  · have hcc : qcc a = .eq := by simp [qcc, hn0]
    have hqc : qcmp a x 0 = decide (x = 0) := by simp [qcmp, hn0]
    rw [hcc] at h1
    exact lv_if_eq hx hb h1 (by omega) (fun h => kt (by rw [hqc]; exact decide_eq_true ((qeq hq1 hq).mp h))) (fun h => kf (by rw [hqc]; exact fun h9 => h ((qeq hq1 hq).mpr (of_decide_eq_true h9))))
  by_cases hn1 : a = 1
  · have hcc : qcc a = .ne := by simp [qcc, hn1]
    have hqc : qcmp a x 0 = decide (x ≠ 0) := by simp [qcmp, hn1]
    rw [hcc] at h1
    exact lv_if_ne hx hb h1 (by omega) (fun h => kt (by rw [hqc]; exact decide_eq_true (fun h9 => h ((qeq hq1 hq).mpr h9)))) (fun h => kf (by rw [hqc]; exact fun h9 => of_decide_eq_true h9 ((qeq hq1 hq).mp h)))
  by_cases hn2 : a = 2
  · have hcc : qcc a = .lt := by simp [qcc, hn2]
    have hqc : qcmp a x 0 = decide (x < 0) := by simp [qcmp, hn2]
    rw [hcc] at h1
    exact lv_if_lt hx hb h1 (by omega) (fun h => kt (by rw [hqc]; exact decide_eq_true ((qlt hq1 hq).mp h))) (fun h => kf (by rw [hqc]; exact fun h9 => h ((qlt hq1 hq).mpr (of_decide_eq_true h9))))
  by_cases hn3 : a = 3
  · have hcc : qcc a = .ge := by simp [qcc, hn3]
    have hqc : qcmp a x 0 = decide (0 ≤ x) := by simp [qcmp, hn3]
    rw [hcc] at h1
    exact lv_if_ge hx hb h1 (by omega) (fun h => kt (by rw [hqc]; exact decide_eq_true ((qle hq hq1).mp h))) (fun h => kf (by rw [hqc]; exact fun h9 => h ((qle hq hq1).mpr (of_decide_eq_true h9))))
  by_cases hn4 : a = 4
  · have hcc : qcc a = .gt := by simp [qcc, hn4]
    have hqc : qcmp a x 0 = decide (0 < x) := by simp [qcmp, hn4]
    rw [hcc] at h1
    exact lv_if_gt hx hb h1 (by omega) (fun h => kt (by rw [hqc]; exact decide_eq_true ((qlt hq hq1).mp h))) (fun h => kf (by rw [hqc]; exact fun h9 => h ((qlt hq hq1).mpr (of_decide_eq_true h9))))
  have hcc : qcc a = .le := by simp [qcc, hn0, hn1, hn2, hn3, hn4]
  have hqc : qcmp a x 0 = decide (x ≤ 0) := by simp [qcmp, hn0, hn1, hn2, hn3, hn4]
  rw [hcc] at h1
  exact lv_if_le hx hb h1 (by omega) (fun h => kt (by rw [hqc]; exact decide_eq_true ((qle hq1 hq).mp h))) (fun h => kf (by rw [hqc]; exact fun h9 => h ((qle hq1 hq).mpr (of_decide_eq_true h9))))
theorem qs_18 {p : Program} {l : Launch} {e : Env} {R : Room} {s : State} {m : MethodId} {args : Array Value} {below : List Frame} {meth : Method} {c : Code} {H : Heap} {locs : List Loc} {cells slots : Nat} {Q : State → Prop} {D : va_G} {A : Nat → Prop} {k pc b nx : Nat} {a : Int} {cl : List Nat} {L S : List qA} {σ : qM} {pc' : Nat} {L' S' : List qA} {σ' : qM} {n0 z0 : Nat} {ws : va_W} {tys : List (ClassId × FieldType)} {ls : Array Slot} {st : List Value}
    (hok : qok k pc (18, a, b, cl, nx) = true) (hs : qstep 18 a b cl nx pc L S σ = some (pc', L', S', σ')) (hr1 : σ'.1.length ≤ n0 + R.cells) (hr2 : qsz σ'.1 ≤ z0 + R.slots) (C : qCtx p s m args meth c R k) (Hp : qHp D A s ws tys σ H locs) (hL : qlr ws L ls) (hS : qsr ws S st) (hc1 : cells + n0 = σ.1.length) (hc2 : slots + z0 = qsz σ.1) (hA : ∀ q, s.heap.size ≤ q → A q) (hNl : L.length = qNl k)
    (kk : ∀ (ws' : va_W) (tys' : List (ClassId × FieldType)) (H' : Heap) (locs' : List Loc) (ls' : Array Slot) (st' : List Value) (cells' slots' : Nat), qext ws ws' → qHp D A s ws' tys' σ' H' locs' → qlr ws' L' ls' → qsr ws' S' st' → cells' + n0 = σ'.1.length → slots' + z0 = qsz σ'.1 → W p l e R s m args below meth c H' locs' cells' slots' Q (F0 m pc' ls' st')) :
    W p l e R s m args below meth c H locs cells slots Q (F0 m pc ls st) := by
  obtain ⟨hkN, hx, hb, hml, hown, hts, hret, hlk, hnm, hRf, hRl, hAO⟩ := C
  obtain ⟨hh, hP, hK, hD, hSS⟩ := Hp
  simp only [qstep] at hs
  split at hs <;> first | (cases hs; done) | skip
  rename_i x S1
  simp only [Option.some.injEq, Prod.mk.injEq] at hs
  obtain ⟨rfl, rfl, rfl, rfl⟩ := hs
  simp only [qok, qdec, Bool.and_eq_true, Bool.or_eq_true, decide_eq_true_eq] at hok
  obtain ⟨q, st, rfl, hq, hS⟩ := qsr_ref hS
  obtain ⟨h1, h2⟩ := hok
  subst h2
  exact lv_ifnull hx hb h1 (kk ws tys H locs ls _ cells slots qext_rf ⟨hh, hP, hK, hD, hSS⟩ hL hS hc1 hc2)
theorem qs_19 {p : Program} {l : Launch} {e : Env} {R : Room} {s : State} {m : MethodId} {args : Array Value} {below : List Frame} {meth : Method} {c : Code} {H : Heap} {locs : List Loc} {cells slots : Nat} {Q : State → Prop} {D : va_G} {A : Nat → Prop} {k pc b nx : Nat} {a : Int} {cl : List Nat} {L S : List qA} {σ : qM} {pc' : Nat} {L' S' : List qA} {σ' : qM} {n0 z0 : Nat} {ws : va_W} {tys : List (ClassId × FieldType)} {ls : Array Slot} {st : List Value}
    (hok : qok k pc (19, a, b, cl, nx) = true) (hs : qstep 19 a b cl nx pc L S σ = some (pc', L', S', σ')) (hr1 : σ'.1.length ≤ n0 + R.cells) (hr2 : qsz σ'.1 ≤ z0 + R.slots) (C : qCtx p s m args meth c R k) (Hp : qHp D A s ws tys σ H locs) (hL : qlr ws L ls) (hS : qsr ws S st) (hc1 : cells + n0 = σ.1.length) (hc2 : slots + z0 = qsz σ.1) (hA : ∀ q, s.heap.size ≤ q → A q) (hNl : L.length = qNl k)
    (kk : ∀ (ws' : va_W) (tys' : List (ClassId × FieldType)) (H' : Heap) (locs' : List Loc) (ls' : Array Slot) (st' : List Value) (cells' slots' : Nat), qext ws ws' → qHp D A s ws' tys' σ' H' locs' → qlr ws' L' ls' → qsr ws' S' st' → cells' + n0 = σ'.1.length → slots' + z0 = qsz σ'.1 → W p l e R s m args below meth c H' locs' cells' slots' Q (F0 m pc' ls' st')) :
    W p l e R s m args below meth c H locs cells slots Q (F0 m pc ls st) := by
  obtain ⟨hkN, hx, hb, hml, hown, hts, hret, hlk, hnm, hRf, hRl, hAO⟩ := C
  obtain ⟨hh, hP, hK, hD, hSS⟩ := Hp
  simp only [qstep] at hs
  split at hs <;> first | (cases hs; done) | skip
  rename_i x S1
  simp only [Option.some.injEq, Prod.mk.injEq] at hs
  obtain ⟨rfl, rfl, rfl, rfl⟩ := hs
  simp only [qok, qdec, Bool.and_eq_true, Bool.or_eq_true, decide_eq_true_eq] at hok
  obtain ⟨q, st, rfl, hq, hS⟩ := qsr_ref hS
  obtain ⟨h1, h2⟩ := hok
  exact lv_ifnonnull hx hb h1 (by omega) (kk ws tys H locs ls _ cells slots qext_rf ⟨hh, hP, hK, hD, hSS⟩ hL hS hc1 hc2)
theorem qs_20 {p : Program} {l : Launch} {e : Env} {R : Room} {s : State} {m : MethodId} {args : Array Value} {below : List Frame} {meth : Method} {c : Code} {H : Heap} {locs : List Loc} {cells slots : Nat} {Q : State → Prop} {D : va_G} {A : Nat → Prop} {k pc b nx : Nat} {a : Int} {cl : List Nat} {L S : List qA} {σ : qM} {pc' : Nat} {L' S' : List qA} {σ' : qM} {n0 z0 : Nat} {ws : va_W} {tys : List (ClassId × FieldType)} {ls : Array Slot} {st : List Value}
    (hok : qok k pc (20, a, b, cl, nx) = true) (hs : qstep 20 a b cl nx pc L S σ = some (pc', L', S', σ')) (hr1 : σ'.1.length ≤ n0 + R.cells) (hr2 : qsz σ'.1 ≤ z0 + R.slots) (C : qCtx p s m args meth c R k) (Hp : qHp D A s ws tys σ H locs) (hL : qlr ws L ls) (hS : qsr ws S st) (hc1 : cells + n0 = σ.1.length) (hc2 : slots + z0 = qsz σ.1) (hA : ∀ q, s.heap.size ≤ q → A q) (hNl : L.length = qNl k)
    (kk : ∀ (ws' : va_W) (tys' : List (ClassId × FieldType)) (H' : Heap) (locs' : List Loc) (ls' : Array Slot) (st' : List Value) (cells' slots' : Nat), qext ws ws' → qHp D A s ws' tys' σ' H' locs' → qlr ws' L' ls' → qsr ws' S' st' → cells' + n0 = σ'.1.length → slots' + z0 = qsz σ'.1 → W p l e R s m args below meth c H' locs' cells' slots' Q (F0 m pc' ls' st')) :
    W p l e R s m args below meth c H locs cells slots Q (F0 m pc ls st) := by
  obtain ⟨hkN, hx, hb, hml, hown, hts, hret, hlk, hnm, hRf, hRl, hAO⟩ := C
  obtain ⟨hh, hP, hK, hD, hSS⟩ := Hp
  simp only [qstep] at hs
  split at hs <;> first | (cases hs; done) | skip
  rename_i x S1
  simp only [Option.some.injEq, Prod.mk.injEq] at hs
  obtain ⟨hpc, rfl, rfl, rfl⟩ := hs
  simp only [qok, qdec, Bool.and_eq_true, Bool.or_eq_true, decide_eq_true_eq] at hok
  obtain ⟨st, rfl, hq, hS⟩ := qsr_int hS
  by_cases hin : a ≤ x ∧ x < a + cl.length
  · rw [if_pos hin] at hpc
    have hi : (x - a).toNat < cl.length := by omega
    have ho : (cl.map (fun (t : Nat) => (t : Int) - pc)).toArray[((Int32.ofInt x).toInt - a).toNat]? = some ((pc' : Int) - pc) := by
      rw [qti hq, List.getElem?_toArray, List.getElem?_map, List.getElem?_eq_getElem hi, ← hpc, List.getD_eq_getElem?_getD, List.getElem?_eq_getElem hi]
      rfl
    exact lv_tableIn hx hb hok (by rw [qti hq]; omega) (by rw [qti hq]; omega) ho (by omega) (kk ws tys H locs ls _ cells slots qext_rf ⟨hh, hP, hK, hD, hSS⟩ hL hS hc1 hc2)
  · rw [if_neg hin] at hpc
    subst hpc
    exact lv_tableOut hx hb hok (by rw [qti hq]; omega) (by omega) (kk ws tys H locs ls _ cells slots qext_rf ⟨hh, hP, hK, hD, hSS⟩ hL hS hc1 hc2)
theorem qs_21 {p : Program} {l : Launch} {e : Env} {R : Room} {s : State} {m : MethodId} {args : Array Value} {below : List Frame} {meth : Method} {c : Code} {H : Heap} {locs : List Loc} {cells slots : Nat} {Q : State → Prop} {D : va_G} {A : Nat → Prop} {k pc b nx : Nat} {a : Int} {cl : List Nat} {L S : List qA} {σ : qM} {pc' : Nat} {L' S' : List qA} {σ' : qM} {n0 z0 : Nat} {ws : va_W} {tys : List (ClassId × FieldType)} {ls : Array Slot} {st : List Value}
    (hok : qok k pc (21, a, b, cl, nx) = true) (hs : qstep 21 a b cl nx pc L S σ = some (pc', L', S', σ')) (hr1 : σ'.1.length ≤ n0 + R.cells) (hr2 : qsz σ'.1 ≤ z0 + R.slots) (C : qCtx p s m args meth c R k) (Hp : qHp D A s ws tys σ H locs) (hL : qlr ws L ls) (hS : qsr ws S st) (hc1 : cells + n0 = σ.1.length) (hc2 : slots + z0 = qsz σ.1) (hA : ∀ q, s.heap.size ≤ q → A q) (hNl : L.length = qNl k)
    (kk : ∀ (ws' : va_W) (tys' : List (ClassId × FieldType)) (H' : Heap) (locs' : List Loc) (ls' : Array Slot) (st' : List Value) (cells' slots' : Nat), qext ws ws' → qHp D A s ws' tys' σ' H' locs' → qlr ws' L' ls' → qsr ws' S' st' → cells' + n0 = σ'.1.length → slots' + z0 = qsz σ'.1 → W p l e R s m args below meth c H' locs' cells' slots' Q (F0 m pc' ls' st')) :
    W p l e R s m args below meth c H locs cells slots Q (F0 m pc ls st) := by
  obtain ⟨hkN, hx, hb, hml, hown, hts, hret, hlk, hnm, hRf, hRl, hAO⟩ := C
  obtain ⟨hh, hP, hK, hD, hSS⟩ := Hp
  simp only [qstep] at hs
  split at hs <;> first | (cases hs; done) | skip
  rename_i k0 S1
  rw [Option.ite_none_right_eq_some] at hs
  obtain ⟨⟨ha0, hkd, hfs⟩, hs⟩ := hs
  simp only [Option.some.injEq, Prod.mk.injEq] at hs
  obtain ⟨rfl, rfl, rfl, rfl⟩ := hs
  simp only [qok, qdec, Bool.and_eq_true, decide_eq_true_eq] at hok
  obtain ⟨q, st, rfl, hq, hS⟩ := qsr_ref hS
  obtain ⟨e0, he, hcr⟩ := qhr_at hh hkd hq
  obtain ⟨fs, rfl, hlen, hI, hRR⟩ := hcr
  have hci := qfs_lt hfs
  have haz : ((a.toNat : Nat) : Int) = a := Int.toNat_of_nonneg ha0
  obtain ⟨⟨h1, h2⟩, h3⟩ := hok
  subst h2
  obtain ⟨hv, hvi⟩ := hI _ hfs
  rw [haz] at hv hvi
  exact va_get (D := D) hx hb hts (qu_all hci) hown hK hP k0 he (qvw hci) a.toNat (qfs_j hfs) (hts _ (qfl_at h3)) (fun _ h9 => h9) hv h1 (kk ws tys H locs ls _ cells slots qext_rf ⟨hh, hP, hK, hD, hSS⟩ hL ⟨⟨rfl, hvi⟩, hS⟩ hc1 hc2)
theorem qs_22 {p : Program} {l : Launch} {e : Env} {R : Room} {s : State} {m : MethodId} {args : Array Value} {below : List Frame} {meth : Method} {c : Code} {H : Heap} {locs : List Loc} {cells slots : Nat} {Q : State → Prop} {D : va_G} {A : Nat → Prop} {k pc b nx : Nat} {a : Int} {cl : List Nat} {L S : List qA} {σ : qM} {pc' : Nat} {L' S' : List qA} {σ' : qM} {n0 z0 : Nat} {ws : va_W} {tys : List (ClassId × FieldType)} {ls : Array Slot} {st : List Value}
    (hok : qok k pc (22, a, b, cl, nx) = true) (hs : qstep 22 a b cl nx pc L S σ = some (pc', L', S', σ')) (hr1 : σ'.1.length ≤ n0 + R.cells) (hr2 : qsz σ'.1 ≤ z0 + R.slots) (C : qCtx p s m args meth c R k) (Hp : qHp D A s ws tys σ H locs) (hL : qlr ws L ls) (hS : qsr ws S st) (hc1 : cells + n0 = σ.1.length) (hc2 : slots + z0 = qsz σ.1) (hA : ∀ q, s.heap.size ≤ q → A q) (hNl : L.length = qNl k)
    (kk : ∀ (ws' : va_W) (tys' : List (ClassId × FieldType)) (H' : Heap) (locs' : List Loc) (ls' : Array Slot) (st' : List Value) (cells' slots' : Nat), qext ws ws' → qHp D A s ws' tys' σ' H' locs' → qlr ws' L' ls' → qsr ws' S' st' → cells' + n0 = σ'.1.length → slots' + z0 = qsz σ'.1 → W p l e R s m args below meth c H' locs' cells' slots' Q (F0 m pc' ls' st')) :
    W p l e R s m args below meth c H locs cells slots Q (F0 m pc ls st) := by
  obtain ⟨hkN, hx, hb, hml, hown, hts, hret, hlk, hnm, hRf, hRl, hAO⟩ := C
  obtain ⟨hh, hP, hK, hD, hSS⟩ := Hp
  simp only [qstep] at hs
  split at hs <;> first | (cases hs; done) | skip
  rename_i k0 S1
  rw [Option.ite_none_right_eq_some] at hs
  obtain ⟨⟨ha0, hkd, hfs⟩, hs⟩ := hs
  split at hs <;> first | (cases hs; done) | skip
  rename_i z hz
  simp only [Option.some.injEq, Prod.mk.injEq] at hs
  obtain ⟨rfl, rfl, rfl, rfl⟩ := hs
  simp only [qok, qdec, Bool.and_eq_true, decide_eq_true_eq] at hok
  obtain ⟨q, st, rfl, hq, hS⟩ := qsr_ref hS
  obtain ⟨e0, he, hcr⟩ := qhr_at hh hkd hq
  obtain ⟨fs, rfl, hlen, hI, hRR⟩ := hcr
  have hci := qfs_lt hfs
  have haz : ((a.toNat : Nat) : Int) = a := Int.toNat_of_nonneg ha0
  obtain ⟨⟨h1, h2⟩, h3⟩ := hok
  subst h2
  obtain ⟨zz, hz1, hv⟩ := hRR _ hfs
  rw [haz, hz] at hz1
  obtain ⟨qz, hqz, rfl⟩ := hz1
  exact va_get (D := D) hx hb hts (qu_all hci) hown hK hP k0 he (qvw hci) a.toNat (qfs_j hfs) (hts _ (qfl_at h3)) (fun _ h9 => h9) (v := .ref qz) hv h1 (kk ws tys H locs ls _ cells slots qext_rf ⟨hh, hP, hK, hD, hSS⟩ hL ⟨⟨qz, hqz, rfl⟩, hS⟩ hc1 hc2)
theorem qs_23 {p : Program} {l : Launch} {e : Env} {R : Room} {s : State} {m : MethodId} {args : Array Value} {below : List Frame} {meth : Method} {c : Code} {H : Heap} {locs : List Loc} {cells slots : Nat} {Q : State → Prop} {D : va_G} {A : Nat → Prop} {k pc b nx : Nat} {a : Int} {cl : List Nat} {L S : List qA} {σ : qM} {pc' : Nat} {L' S' : List qA} {σ' : qM} {n0 z0 : Nat} {ws : va_W} {tys : List (ClassId × FieldType)} {ls : Array Slot} {st : List Value}
    (hok : qok k pc (23, a, b, cl, nx) = true) (hs : qstep 23 a b cl nx pc L S σ = some (pc', L', S', σ')) (hr1 : σ'.1.length ≤ n0 + R.cells) (hr2 : qsz σ'.1 ≤ z0 + R.slots) (C : qCtx p s m args meth c R k) (Hp : qHp D A s ws tys σ H locs) (hL : qlr ws L ls) (hS : qsr ws S st) (hc1 : cells + n0 = σ.1.length) (hc2 : slots + z0 = qsz σ.1) (hA : ∀ q, s.heap.size ≤ q → A q) (hNl : L.length = qNl k)
    (kk : ∀ (ws' : va_W) (tys' : List (ClassId × FieldType)) (H' : Heap) (locs' : List Loc) (ls' : Array Slot) (st' : List Value) (cells' slots' : Nat), qext ws ws' → qHp D A s ws' tys' σ' H' locs' → qlr ws' L' ls' → qsr ws' S' st' → cells' + n0 = σ'.1.length → slots' + z0 = qsz σ'.1 → W p l e R s m args below meth c H' locs' cells' slots' Q (F0 m pc' ls' st')) :
    W p l e R s m args below meth c H locs cells slots Q (F0 m pc ls st) := by
  obtain ⟨hkN, hx, hb, hml, hown, hts, hret, hlk, hnm, hRf, hRl, hAO⟩ := C
  obtain ⟨hh, hP, hK, hD, hSS⟩ := Hp
  simp only [qstep] at hs
  split at hs <;> first | (cases hs; done) | skip
  rename_i x k0 S1
  rw [Option.ite_none_right_eq_some] at hs
  obtain ⟨⟨ha0, hkd, hfs⟩, hs⟩ := hs
  simp only [Option.some.injEq, Prod.mk.injEq] at hs
  obtain ⟨rfl, rfl, rfl, rfl⟩ := hs
  simp only [qok, qdec, Bool.and_eq_true, decide_eq_true_eq] at hok
  obtain ⟨st, rfl, hxi, hS⟩ := qsr_int hS
  obtain ⟨q, st, rfl, hq, hS⟩ := qsr_ref hS
  obtain ⟨e0, he, hcr⟩ := qhr_at hh hkd hq
  obtain ⟨fs, rfl, hlen, hI, hRR⟩ := hcr
  have hci := qfs_lt hfs
  have haz : ((a.toNat : Nat) : Int) = a := Int.toNat_of_nonneg ha0
  have hjl : a.toNat < fs.length := by rw [hlen]; exact qfs_j hfs
  obtain ⟨⟨⟨h1, h2⟩, h3⟩, h4⟩ := hok
  subst h2
  have hty := qty_all hci a.toNat (qfs_j hfs)
  rw [qty_int hfs] at hty
  refine va_put (D := D) (v := .int (Int32.ofInt x)) hx hb hts (qu_all hci) (qty (cl.headD 0)) (qty_all hci) (qnm_all hci) hown hK hP hD hSS k0 he (qvw hci) a.toNat (qfs_j hfs) (hts _ (qfl_at h3)) (fun _ h9 => h9) h4 hty rfl rfl hjl h1 (fun H1 locs1 hP1 hD1 hS1 => ?_)
  refine kk (ws.set k0 (q, .inr (cl.headD 0, fs.set a.toNat (.int (Int32.ofInt x))))) tys H1 locs1 ls _ cells slots (qext_set he) ⟨?_, hP1, hK, hD1, hS1⟩ (qlr_ext (qext_set he) hL) (qsr_ext (qext_set he) hS) hc1 hc2
  refine qhr_set (σ := σ) hh hkd he rfl (fun i hi => ⟨by funext j; simp [qup, hi], rfl⟩) ?_
  refine ⟨_, rfl, by rw [List.length_set]; exact hlen, fun j hj => ?_, fun j hj => ?_⟩
  · by_cases hja : a.toNat = j
    · subst hja
      rw [List.getElem?_set_self hjl]
      simp [qup, haz]
      exact hxi
    · rw [List.getElem?_set_ne hja]
      have hne : ¬ (j : Int) = a := by omega
      simp only [qup, if_true, hne, if_false]
      exact hI j hj
  · by_cases hja : a.toNat = j
    · subst hja
      rw [hfs] at hj
      cases hj
    · rw [List.getElem?_set_ne hja]
      obtain ⟨z, g1, g2⟩ := hRR j hj
      exact ⟨z, qrf_ext (qext_set he) g1, g2⟩
theorem qs_24 {p : Program} {l : Launch} {e : Env} {R : Room} {s : State} {m : MethodId} {args : Array Value} {below : List Frame} {meth : Method} {c : Code} {H : Heap} {locs : List Loc} {cells slots : Nat} {Q : State → Prop} {D : va_G} {A : Nat → Prop} {k pc b nx : Nat} {a : Int} {cl : List Nat} {L S : List qA} {σ : qM} {pc' : Nat} {L' S' : List qA} {σ' : qM} {n0 z0 : Nat} {ws : va_W} {tys : List (ClassId × FieldType)} {ls : Array Slot} {st : List Value}
    (hok : qok k pc (24, a, b, cl, nx) = true) (hs : qstep 24 a b cl nx pc L S σ = some (pc', L', S', σ')) (hr1 : σ'.1.length ≤ n0 + R.cells) (hr2 : qsz σ'.1 ≤ z0 + R.slots) (C : qCtx p s m args meth c R k) (Hp : qHp D A s ws tys σ H locs) (hL : qlr ws L ls) (hS : qsr ws S st) (hc1 : cells + n0 = σ.1.length) (hc2 : slots + z0 = qsz σ.1) (hA : ∀ q, s.heap.size ≤ q → A q) (hNl : L.length = qNl k)
    (kk : ∀ (ws' : va_W) (tys' : List (ClassId × FieldType)) (H' : Heap) (locs' : List Loc) (ls' : Array Slot) (st' : List Value) (cells' slots' : Nat), qext ws ws' → qHp D A s ws' tys' σ' H' locs' → qlr ws' L' ls' → qsr ws' S' st' → cells' + n0 = σ'.1.length → slots' + z0 = qsz σ'.1 → W p l e R s m args below meth c H' locs' cells' slots' Q (F0 m pc' ls' st')) :
    W p l e R s m args below meth c H locs cells slots Q (F0 m pc ls st) := by
  obtain ⟨hkN, hx, hb, hml, hown, hts, hret, hlk, hnm, hRf, hRl, hAO⟩ := C
  obtain ⟨hh, hP, hK, hD, hSS⟩ := Hp
  simp only [qstep] at hs
  split at hs <;> first | (cases hs; done) | skip
  rename_i x k0 S1
  rw [Option.ite_none_right_eq_some] at hs
  obtain ⟨⟨ha0, hkd, hfs⟩, hs⟩ := hs
  simp only [Option.some.injEq, Prod.mk.injEq] at hs
  obtain ⟨rfl, rfl, rfl, rfl⟩ := hs
  simp only [qok, qdec, Bool.and_eq_true, decide_eq_true_eq] at hok
  obtain ⟨qx, st, rfl, hxi, hS⟩ := qsr_ref hS
  obtain ⟨q, st, rfl, hq, hS⟩ := qsr_ref hS
  obtain ⟨e0, he, hcr⟩ := qhr_at hh hkd hq
  obtain ⟨fs, rfl, hlen, hI, hRR⟩ := hcr
  have hci := qfs_lt hfs
  have haz : ((a.toNat : Nat) : Int) = a := Int.toNat_of_nonneg ha0
  have hjl : a.toNat < fs.length := by rw [hlen]; exact qfs_j hfs
  obtain ⟨⟨⟨h1, h2⟩, h3⟩, h4, h5, h6⟩ := hok
  subst h2
  have hty := qty_all hci a.toNat (qfs_j hfs)
  have hn : narrow (qty (cl.headD 0) a.toNat) (.ref qx) = .ref qx := by rcases qty_ref hfs with ⟨n, h⟩ | ⟨n, h⟩ <;> rw [h] <;> rfl
  have hf : fits (qty (cl.headD 0) a.toNat) (.ref qx) = true := by rcases qty_ref hfs with ⟨n, h⟩ | ⟨n, h⟩ <;> rw [h] <;> rfl
  refine va_putF (D := D) (v := .ref qx) hx hb hts (qu_all hci) (qty (cl.headD 0)) (qty_all hci) (qnm_all hci) hown hK hP hD hSS k0 he (qvw hci) a.toNat (qfs_j hfs) (hts _ (qfl_at h3)) (fun _ h9 => h9) h4 (hnm.trans h5) h6 hty hn hf hjl h1 (fun H1 locs1 hP1 hD1 hS1 => ?_)
  refine kk (ws.set k0 (q, .inr (cl.headD 0, fs.set a.toNat (.ref qx)))) tys H1 locs1 ls _ cells slots (qext_set he) ⟨?_, hP1, hK, hD1, hS1⟩ (qlr_ext (qext_set he) hL) (qsr_ext (qext_set he) hS) hc1 hc2
  refine qhr_set (σ := σ) hh hkd he rfl (fun i hi => ⟨rfl, by funext j; simp [qup, hi]⟩) ?_
  refine ⟨_, rfl, by rw [List.length_set]; exact hlen, fun j hj => ?_, fun j hj => ?_⟩
  · by_cases hja : a.toNat = j
    · subst hja
      rw [hfs] at hj
      cases hj
    · rw [List.getElem?_set_ne hja]
      exact hI j hj
  · by_cases hja : a.toNat = j
    · subst hja
      rw [List.getElem?_set_self hjl]
      exact ⟨some qx, by simp only [qup, if_true, haz]; exact ⟨qx, qext_set he _ _ hxi, rfl⟩, rfl⟩
    · rw [List.getElem?_set_ne hja]
      have hne : ¬ (j : Int) = a := by omega
      simp only [qup, if_true, hne, if_false]
      obtain ⟨z, g1, g2⟩ := hRR j hj
      exact ⟨z, qrf_ext (qext_set he) g1, g2⟩
theorem qs_25 {p : Program} {l : Launch} {e : Env} {R : Room} {s : State} {m : MethodId} {args : Array Value} {below : List Frame} {meth : Method} {c : Code} {H : Heap} {locs : List Loc} {cells slots : Nat} {Q : State → Prop} {D : va_G} {A : Nat → Prop} {k pc b nx : Nat} {a : Int} {cl : List Nat} {L S : List qA} {σ : qM} {pc' : Nat} {L' S' : List qA} {σ' : qM} {n0 z0 : Nat} {ws : va_W} {tys : List (ClassId × FieldType)} {ls : Array Slot} {st : List Value}
    (hok : qok k pc (25, a, b, cl, nx) = true) (hs : qstep 25 a b cl nx pc L S σ = some (pc', L', S', σ')) (hr1 : σ'.1.length ≤ n0 + R.cells) (hr2 : qsz σ'.1 ≤ z0 + R.slots) (C : qCtx p s m args meth c R k) (Hp : qHp D A s ws tys σ H locs) (hL : qlr ws L ls) (hS : qsr ws S st) (hc1 : cells + n0 = σ.1.length) (hc2 : slots + z0 = qsz σ.1) (hA : ∀ q, s.heap.size ≤ q → A q) (hNl : L.length = qNl k)
    (kk : ∀ (ws' : va_W) (tys' : List (ClassId × FieldType)) (H' : Heap) (locs' : List Loc) (ls' : Array Slot) (st' : List Value) (cells' slots' : Nat), qext ws ws' → qHp D A s ws' tys' σ' H' locs' → qlr ws' L' ls' → qsr ws' S' st' → cells' + n0 = σ'.1.length → slots' + z0 = qsz σ'.1 → W p l e R s m args below meth c H' locs' cells' slots' Q (F0 m pc' ls' st')) :
    W p l e R s m args below meth c H locs cells slots Q (F0 m pc ls st) := by
  obtain ⟨hkN, hx, hb, hml, hown, hts, hret, hlk, hnm, hRf, hRl, hAO⟩ := C
  obtain ⟨hh, hP, hK, hD, hSS⟩ := Hp
  simp only [qstep] at hs
  split at hs <;> first | (cases hs; done) | skip
  split at hs <;> first | (cases hs; done) | skip
  rename_i i k0 S1 x9 n hkd
  rw [Option.ite_none_right_eq_some] at hs
  obtain ⟨⟨hi0, hi1⟩, hs⟩ := hs
  simp only [Option.some.injEq, Prod.mk.injEq] at hs
  obtain ⟨rfl, rfl, rfl, rfl⟩ := hs
  simp only [qok, qdec, Bool.and_eq_true, decide_eq_true_eq] at hok
  obtain ⟨h1, h2⟩ := hok
  subst h2
  obtain ⟨st, rfl, hxi, hS⟩ := qsr_int hS
  obtain ⟨q, st, rfl, hq, hS⟩ := qsr_ref hS
  obtain ⟨e0, he, cA, f, rfl, ht, hn, hf⟩ := qhr_at hh hkd hq
  obtain ⟨t0, ht0⟩ := qmem_at ht
  have haz : ((i.toNat : Nat) : Int) = i := Int.toNat_of_nonneg hi0
  obtain ⟨hv, hvi⟩ := hf i.toNat (by omega)
  rw [haz] at hv hvi
  refine va_iald hx hb hK hP k0 t0 he ht0 (qvin hi0 hi1 hn) h1 (kk ws tys H locs ls _ cells slots qext_rf ⟨hh, hP, hK, hD, hSS⟩ hL ⟨⟨?_, hvi⟩, hS⟩ hc1 hc2)
  rw [qclamp hi0 hxi, hv]
theorem qs_26 {p : Program} {l : Launch} {e : Env} {R : Room} {s : State} {m : MethodId} {args : Array Value} {below : List Frame} {meth : Method} {c : Code} {H : Heap} {locs : List Loc} {cells slots : Nat} {Q : State → Prop} {D : va_G} {A : Nat → Prop} {k pc b nx : Nat} {a : Int} {cl : List Nat} {L S : List qA} {σ : qM} {pc' : Nat} {L' S' : List qA} {σ' : qM} {n0 z0 : Nat} {ws : va_W} {tys : List (ClassId × FieldType)} {ls : Array Slot} {st : List Value}
    (hok : qok k pc (26, a, b, cl, nx) = true) (hs : qstep 26 a b cl nx pc L S σ = some (pc', L', S', σ')) (hr1 : σ'.1.length ≤ n0 + R.cells) (hr2 : qsz σ'.1 ≤ z0 + R.slots) (C : qCtx p s m args meth c R k) (Hp : qHp D A s ws tys σ H locs) (hL : qlr ws L ls) (hS : qsr ws S st) (hc1 : cells + n0 = σ.1.length) (hc2 : slots + z0 = qsz σ.1) (hA : ∀ q, s.heap.size ≤ q → A q) (hNl : L.length = qNl k)
    (kk : ∀ (ws' : va_W) (tys' : List (ClassId × FieldType)) (H' : Heap) (locs' : List Loc) (ls' : Array Slot) (st' : List Value) (cells' slots' : Nat), qext ws ws' → qHp D A s ws' tys' σ' H' locs' → qlr ws' L' ls' → qsr ws' S' st' → cells' + n0 = σ'.1.length → slots' + z0 = qsz σ'.1 → W p l e R s m args below meth c H' locs' cells' slots' Q (F0 m pc' ls' st')) :
    W p l e R s m args below meth c H locs cells slots Q (F0 m pc ls st) := by
  obtain ⟨hkN, hx, hb, hml, hown, hts, hret, hlk, hnm, hRf, hRl, hAO⟩ := C
  obtain ⟨hh, hP, hK, hD, hSS⟩ := Hp
  simp only [qstep] at hs
  split at hs <;> first | (cases hs; done) | skip
  split at hs <;> first | (cases hs; done) | skip
  rename_i x i k0 S1 x9 n hkd
  rw [Option.ite_none_right_eq_some] at hs
  obtain ⟨⟨hi0, hi1⟩, hs⟩ := hs
  simp only [Option.some.injEq, Prod.mk.injEq] at hs
  obtain ⟨rfl, rfl, rfl, rfl⟩ := hs
  simp only [qok, qdec, Bool.and_eq_true, decide_eq_true_eq] at hok
  obtain ⟨h1, h2⟩ := hok
  subst h2
  obtain ⟨st, rfl, hxx, hS⟩ := qsr_int hS
  obtain ⟨st, rfl, hxi, hS⟩ := qsr_int hS
  obtain ⟨q, st, rfl, hq, hS⟩ := qsr_ref hS
  obtain ⟨e0, he, cA, f, rfl, ht, hn, hf⟩ := qhr_at hh hkd hq
  obtain ⟨t0, ht0⟩ := qmem_at ht
  refine va_iast hx hb hK hP hD hSS k0 t0 he ht0 (qvin hi0 hi1 hn) h1 (fun H1 locs1 hP1 hD1 hS1 => ?_)
  refine kk _ tys H1 locs1 ls _ cells slots (qext_set he) ⟨?_, hP1, hK, hD1, hS1⟩ (qlr_ext (qext_set he) hL) (qsr_ext (qext_set he) hS) hc1 hc2
  refine qhr_set (σ := σ) hh hkd he rfl (fun j hj => ⟨by funext j2; simp [qup, hj], rfl⟩) ?_
  refine ⟨cA, _, rfl, ht, hn, fun j hj => ?_⟩
  rw [qclamp hi0 hxi]
  by_cases hja : (j : Int) = i
  · have hj2 : j = i.toNat := by omega
    subst hj2
    simp only [qup, upd, if_true, hja]
    exact ⟨trivial, hxx⟩
  · have hj2 : ¬ j = i.toNat := by omega
    simp only [qup, upd, if_true, hja, hj2, if_false]
    exact hf j hj
theorem qs_27 {p : Program} {l : Launch} {e : Env} {R : Room} {s : State} {m : MethodId} {args : Array Value} {below : List Frame} {meth : Method} {c : Code} {H : Heap} {locs : List Loc} {cells slots : Nat} {Q : State → Prop} {D : va_G} {A : Nat → Prop} {k pc b nx : Nat} {a : Int} {cl : List Nat} {L S : List qA} {σ : qM} {pc' : Nat} {L' S' : List qA} {σ' : qM} {n0 z0 : Nat} {ws : va_W} {tys : List (ClassId × FieldType)} {ls : Array Slot} {st : List Value}
    (hok : qok k pc (27, a, b, cl, nx) = true) (hs : qstep 27 a b cl nx pc L S σ = some (pc', L', S', σ')) (hr1 : σ'.1.length ≤ n0 + R.cells) (hr2 : qsz σ'.1 ≤ z0 + R.slots) (C : qCtx p s m args meth c R k) (Hp : qHp D A s ws tys σ H locs) (hL : qlr ws L ls) (hS : qsr ws S st) (hc1 : cells + n0 = σ.1.length) (hc2 : slots + z0 = qsz σ.1) (hA : ∀ q, s.heap.size ≤ q → A q) (hNl : L.length = qNl k)
    (kk : ∀ (ws' : va_W) (tys' : List (ClassId × FieldType)) (H' : Heap) (locs' : List Loc) (ls' : Array Slot) (st' : List Value) (cells' slots' : Nat), qext ws ws' → qHp D A s ws' tys' σ' H' locs' → qlr ws' L' ls' → qsr ws' S' st' → cells' + n0 = σ'.1.length → slots' + z0 = qsz σ'.1 → W p l e R s m args below meth c H' locs' cells' slots' Q (F0 m pc' ls' st')) :
    W p l e R s m args below meth c H locs cells slots Q (F0 m pc ls st) := by
  obtain ⟨hkN, hx, hb, hml, hown, hts, hret, hlk, hnm, hRf, hRl, hAO⟩ := C
  obtain ⟨hh, hP, hK, hD, hSS⟩ := Hp
  simp only [qstep] at hs
  split at hs <;> first | (cases hs; done) | skip
  split at hs <;> first | (cases hs; done) | skip
  rename_i i k0 S1 x9 ci n hkd
  rw [Option.ite_none_right_eq_some] at hs
  obtain ⟨⟨hi0, hi1⟩, hs⟩ := hs
  split at hs <;> first | (cases hs; done) | skip
  rename_i z hz
  simp only [Option.some.injEq, Prod.mk.injEq] at hs
  obtain ⟨rfl, rfl, rfl, rfl⟩ := hs
  simp only [qok, qdec, Bool.and_eq_true, decide_eq_true_eq] at hok
  obtain ⟨h1, h2⟩ := hok
  subst h2
  obtain ⟨st, rfl, hxi, hS⟩ := qsr_int hS
  obtain ⟨q, st, rfl, hq, hS⟩ := qsr_ref hS
  obtain ⟨e0, he, cA, f, rfl, ht, hn, hf⟩ := qhr_at hh hkd hq
  obtain ⟨t0, ht0⟩ := qmem_at ht
  have haz : ((i.toNat : Nat) : Int) = i := Int.toNat_of_nonneg hi0
  have hv := hf i.toNat (by omega)
  rw [haz, hz] at hv
  obtain ⟨qz, hqz, hv⟩ := hv
  refine va_aldq hx hb hK hP k0 t0 he ht0 (qvin hi0 hi1 hn) h1 ?_
  rw [qclamp hi0 hxi, hv]
  exact kk ws tys H locs ls _ cells slots qext_rf ⟨hh, hP, hK, hD, hSS⟩ hL ⟨⟨qz, hqz, rfl⟩, hS⟩ hc1 hc2
theorem qs_28 {p : Program} {l : Launch} {e : Env} {R : Room} {s : State} {m : MethodId} {args : Array Value} {below : List Frame} {meth : Method} {c : Code} {H : Heap} {locs : List Loc} {cells slots : Nat} {Q : State → Prop} {D : va_G} {A : Nat → Prop} {k pc b nx : Nat} {a : Int} {cl : List Nat} {L S : List qA} {σ : qM} {pc' : Nat} {L' S' : List qA} {σ' : qM} {n0 z0 : Nat} {ws : va_W} {tys : List (ClassId × FieldType)} {ls : Array Slot} {st : List Value}
    (hok : qok k pc (28, a, b, cl, nx) = true) (hs : qstep 28 a b cl nx pc L S σ = some (pc', L', S', σ')) (hr1 : σ'.1.length ≤ n0 + R.cells) (hr2 : qsz σ'.1 ≤ z0 + R.slots) (C : qCtx p s m args meth c R k) (Hp : qHp D A s ws tys σ H locs) (hL : qlr ws L ls) (hS : qsr ws S st) (hc1 : cells + n0 = σ.1.length) (hc2 : slots + z0 = qsz σ.1) (hA : ∀ q, s.heap.size ≤ q → A q) (hNl : L.length = qNl k)
    (kk : ∀ (ws' : va_W) (tys' : List (ClassId × FieldType)) (H' : Heap) (locs' : List Loc) (ls' : Array Slot) (st' : List Value) (cells' slots' : Nat), qext ws ws' → qHp D A s ws' tys' σ' H' locs' → qlr ws' L' ls' → qsr ws' S' st' → cells' + n0 = σ'.1.length → slots' + z0 = qsz σ'.1 → W p l e R s m args below meth c H' locs' cells' slots' Q (F0 m pc' ls' st')) :
    W p l e R s m args below meth c H locs cells slots Q (F0 m pc ls st) := by
  obtain ⟨hkN, hx, hb, hml, hown, hts, hret, hlk, hnm, hRf, hRl, hAO⟩ := C
  obtain ⟨hh, hP, hK, hD, hSS⟩ := Hp
  simp only [qstep] at hs
  split at hs <;> first | (cases hs; done) | skip
  split at hs <;> first | (cases hs; done) | skip
  rename_i x i k0 S1 x9 ci n hkd
  rw [Option.ite_none_right_eq_some] at hs
  obtain ⟨⟨hi0, hi1, hxk⟩, hs⟩ := hs
  simp only [Option.some.injEq, Prod.mk.injEq] at hs
  obtain ⟨rfl, rfl, rfl, rfl⟩ := hs
  simp only [qok, qdec, Bool.and_eq_true, decide_eq_true_eq] at hok
  obtain ⟨h1, h2⟩ := hok
  subst h2
  obtain ⟨qx, st, rfl, hxx, hS⟩ := qsr_ref hS
  obtain ⟨st, rfl, hxi, hS⟩ := qsr_int hS
  obtain ⟨q, st, rfl, hq, hS⟩ := qsr_ref hS
  obtain ⟨e0, he, cA, f, rfl, ht, hn, hf⟩ := qhr_at hh hkd hq
  obtain ⟨e1, he1, fs1, rfl, hl1, hI1, hR1⟩ := qhr_at hh hxk hxx
  obtain ⟨t0, ht0⟩ := qmem_at ht
  have hci : ci < 9 := by
    obtain ⟨rv, hrv, -⟩ := hP _ _ he1
    have h9 := (List.getElem?_eq_some_iff.mp hrv).1
    exact h9
  refine va_astq hx hb hK hP hD hSS k0 t0 x ci (r := (qR ci, qT ci, (qfs ci).length)) he ht0 he1 (qvw hci) (qvin hi0 hi1 hn) h1 (fun H1 locs1 hP1 hD1 hS1 => ?_)
  refine kk _ tys H1 locs1 ls _ cells slots (qext_set he) ⟨?_, hP1, hK, hD1, hS1⟩ (qlr_ext (qext_set he) hL) (qsr_ext (qext_set he) hS) hc1 hc2
  refine qhr_set (σ := σ) hh hkd he rfl (fun j hj => ⟨rfl, by funext j2; simp [qup, hj]⟩) ?_
  refine ⟨cA, _, rfl, ht, hn, fun j hj => ?_⟩
  rw [qclamp hi0 hxi]
  by_cases hja : (j : Int) = i
  · have hj2 : j = i.toNat := by omega
    subst hj2
    simp only [qup, va_up, if_true, hja]
    exact ⟨qx, qext_set he _ _ hxx, rfl⟩
  · have hj2 : ¬ j = i.toNat := by omega
    simp only [qup, va_up, if_true, hja, hj2, if_false]
    exact qrf_ext (qext_set he) (hf j hj)
theorem qs_29 {p : Program} {l : Launch} {e : Env} {R : Room} {s : State} {m : MethodId} {args : Array Value} {below : List Frame} {meth : Method} {c : Code} {H : Heap} {locs : List Loc} {cells slots : Nat} {Q : State → Prop} {D : va_G} {A : Nat → Prop} {k pc b nx : Nat} {a : Int} {cl : List Nat} {L S : List qA} {σ : qM} {pc' : Nat} {L' S' : List qA} {σ' : qM} {n0 z0 : Nat} {ws : va_W} {tys : List (ClassId × FieldType)} {ls : Array Slot} {st : List Value}
    (hok : qok k pc (29, a, b, cl, nx) = true) (hs : qstep 29 a b cl nx pc L S σ = some (pc', L', S', σ')) (hr1 : σ'.1.length ≤ n0 + R.cells) (hr2 : qsz σ'.1 ≤ z0 + R.slots) (C : qCtx p s m args meth c R k) (Hp : qHp D A s ws tys σ H locs) (hL : qlr ws L ls) (hS : qsr ws S st) (hc1 : cells + n0 = σ.1.length) (hc2 : slots + z0 = qsz σ.1) (hA : ∀ q, s.heap.size ≤ q → A q) (hNl : L.length = qNl k)
    (kk : ∀ (ws' : va_W) (tys' : List (ClassId × FieldType)) (H' : Heap) (locs' : List Loc) (ls' : Array Slot) (st' : List Value) (cells' slots' : Nat), qext ws ws' → qHp D A s ws' tys' σ' H' locs' → qlr ws' L' ls' → qsr ws' S' st' → cells' + n0 = σ'.1.length → slots' + z0 = qsz σ'.1 → W p l e R s m args below meth c H' locs' cells' slots' Q (F0 m pc' ls' st')) :
    W p l e R s m args below meth c H locs cells slots Q (F0 m pc ls st) := by
  obtain ⟨hkN, hx, hb, hml, hown, hts, hret, hlk, hnm, hRf, hRl, hAO⟩ := C
  obtain ⟨hh, hP, hK, hD, hSS⟩ := Hp
  simp only [qstep] at hs
  split at hs <;> first | (cases hs; done) | skip
  split at hs <;> first | (cases hs; done) | skip
  rename_i k0 S1 x9 ci n hkd
  simp only [Option.some.injEq, Prod.mk.injEq] at hs
  obtain ⟨rfl, rfl, rfl, rfl⟩ := hs
  simp only [qok, qdec, Bool.and_eq_true, decide_eq_true_eq] at hok
  obtain ⟨h1, h2⟩ := hok
  subst h2
  obtain ⟨q, st, rfl, hq, hS⟩ := qsr_ref hS
  obtain ⟨e0, he, hcr⟩ := qhr_at hh hkd hq
  cases ci with
  | zero =>
    obtain ⟨cA, f, rfl, ht, hn, hf⟩ := hcr
    obtain ⟨t0, ht0⟩ := qmem_at ht
    exact va_alen hx hb hK hP k0 t0 he ht0 (Int32.ofInt_eq_ofNat).symm h1 (kk ws tys H locs ls _ cells slots qext_rf ⟨hh, hP, hK, hD, hSS⟩ hL ⟨⟨rfl, by constructor <;> omega⟩, hS⟩ hc1 hc2)
  | succ ci =>
    obtain ⟨cA, f, rfl, ht, hn, hf⟩ := hcr
    obtain ⟨t0, ht0⟩ := qmem_at ht
    exact va_alen hx hb hK hP k0 t0 he ht0 (Int32.ofInt_eq_ofNat).symm h1 (kk ws tys H locs ls _ cells slots qext_rf ⟨hh, hP, hK, hD, hSS⟩ hL ⟨⟨rfl, by constructor <;> omega⟩, hS⟩ hc1 hc2)
theorem qs_30 {p : Program} {l : Launch} {e : Env} {R : Room} {s : State} {m : MethodId} {args : Array Value} {below : List Frame} {meth : Method} {c : Code} {H : Heap} {locs : List Loc} {cells slots : Nat} {Q : State → Prop} {D : va_G} {A : Nat → Prop} {k pc b nx : Nat} {a : Int} {cl : List Nat} {L S : List qA} {σ : qM} {pc' : Nat} {L' S' : List qA} {σ' : qM} {n0 z0 : Nat} {ws : va_W} {tys : List (ClassId × FieldType)} {ls : Array Slot} {st : List Value}
    (hok : qok k pc (30, a, b, cl, nx) = true) (hs : qstep 30 a b cl nx pc L S σ = some (pc', L', S', σ')) (hr1 : σ'.1.length ≤ n0 + R.cells) (hr2 : qsz σ'.1 ≤ z0 + R.slots) (C : qCtx p s m args meth c R k) (Hp : qHp D A s ws tys σ H locs) (hL : qlr ws L ls) (hS : qsr ws S st) (hc1 : cells + n0 = σ.1.length) (hc2 : slots + z0 = qsz σ.1) (hA : ∀ q, s.heap.size ≤ q → A q) (hNl : L.length = qNl k)
    (kk : ∀ (ws' : va_W) (tys' : List (ClassId × FieldType)) (H' : Heap) (locs' : List Loc) (ls' : Array Slot) (st' : List Value) (cells' slots' : Nat), qext ws ws' → qHp D A s ws' tys' σ' H' locs' → qlr ws' L' ls' → qsr ws' S' st' → cells' + n0 = σ'.1.length → slots' + z0 = qsz σ'.1 → W p l e R s m args below meth c H' locs' cells' slots' Q (F0 m pc' ls' st')) :
    W p l e R s m args below meth c H locs cells slots Q (F0 m pc ls st) := by
  obtain ⟨hkN, hx, hb, hml, hown, hts, hret, hlk, hnm, hRf, hRl, hAO⟩ := C
  obtain ⟨hh, hP, hK, hD, hSS⟩ := Hp
  simp only [qstep] at hs
  split at hs <;> first | (cases hs; done) | skip
  rename_i n S1
  rw [Option.ite_none_right_eq_some] at hs
  obtain ⟨⟨hn0, hn1⟩, hs⟩ := hs
  simp only [Option.some.injEq, Prod.mk.injEq] at hs
  obtain ⟨rfl, rfl, rfl, rfl⟩ := hs
  simp only [qok, qdec, Bool.and_eq_true, decide_eq_true_eq] at hok
  obtain ⟨h1, h2⟩ := hok
  subst h2
  obtain ⟨st, rfl, hxi, hS⟩ := qsr_int hS
  have hz1 : (qold σ (1, n.toNat)).1.length = σ.1.length + 1 := by simp [qold]
  have hz2 : qsz (qold σ (1, n.toNat)).1 = qsz σ.1 + n.toNat := by simp [qold, qsz_app, qsz, qszk]
  have hat : ∀ (q : Nat) (e : va_E), qat (ws ++ [(q, e)]) σ.1.length q := fun q e => ⟨e, by rw [← hh.1]; simp⟩
  refine va_newa (atype := .int) hx hb (hts _ (qtb_at qw_arr rfl)) rfl hK hP hD hSS hA (a0 := (n.toNat, .inl (fun _ => 0))) (fun cA => rfl) (fun h => absurd ((qlt hxi q0in).mp h) (by omega)) (qclamp hn0 hxi) (by show n.toNat * 4 ≤ _; omega) (by omega) (by omega) h1 (fun q cA H1 hK1 hP1 hD1 hS1 => ?_)
  refine kk _ _ H1 locs ls _ _ _ qext_app ⟨qhr_new hh (fun x hx => List.mem_append_left _ hx) ?_, hP1, hK1, hD1, hS1⟩ (qlr_ext qext_app hL) ⟨⟨q, hat _ _, rfl⟩, qsr_ext qext_app hS⟩ (by omega) (by omega)
  exact ⟨cA, _, rfl, List.mem_append_right _ (List.mem_singleton.mpr rfl), by omega, fun j hj => ⟨rfl, q0in⟩⟩
theorem qs_31 {p : Program} {l : Launch} {e : Env} {R : Room} {s : State} {m : MethodId} {args : Array Value} {below : List Frame} {meth : Method} {c : Code} {H : Heap} {locs : List Loc} {cells slots : Nat} {Q : State → Prop} {D : va_G} {A : Nat → Prop} {k pc b nx : Nat} {a : Int} {cl : List Nat} {L S : List qA} {σ : qM} {pc' : Nat} {L' S' : List qA} {σ' : qM} {n0 z0 : Nat} {ws : va_W} {tys : List (ClassId × FieldType)} {ls : Array Slot} {st : List Value}
    (hok : qok k pc (31, a, b, cl, nx) = true) (hs : qstep 31 a b cl nx pc L S σ = some (pc', L', S', σ')) (hr1 : σ'.1.length ≤ n0 + R.cells) (hr2 : qsz σ'.1 ≤ z0 + R.slots) (C : qCtx p s m args meth c R k) (Hp : qHp D A s ws tys σ H locs) (hL : qlr ws L ls) (hS : qsr ws S st) (hc1 : cells + n0 = σ.1.length) (hc2 : slots + z0 = qsz σ.1) (hA : ∀ q, s.heap.size ≤ q → A q) (hNl : L.length = qNl k)
    (kk : ∀ (ws' : va_W) (tys' : List (ClassId × FieldType)) (H' : Heap) (locs' : List Loc) (ls' : Array Slot) (st' : List Value) (cells' slots' : Nat), qext ws ws' → qHp D A s ws' tys' σ' H' locs' → qlr ws' L' ls' → qsr ws' S' st' → cells' + n0 = σ'.1.length → slots' + z0 = qsz σ'.1 → W p l e R s m args below meth c H' locs' cells' slots' Q (F0 m pc' ls' st')) :
    W p l e R s m args below meth c H locs cells slots Q (F0 m pc ls st) := by
  obtain ⟨hkN, hx, hb, hml, hown, hts, hret, hlk, hnm, hRf, hRl, hAO⟩ := C
  obtain ⟨hh, hP, hK, hD, hSS⟩ := Hp
  simp only [qstep] at hs
  split at hs <;> first | (cases hs; done) | skip
  rename_i n S1
  rw [Option.ite_none_right_eq_some] at hs
  obtain ⟨⟨hn0, hn1⟩, hs⟩ := hs
  simp only [Option.some.injEq, Prod.mk.injEq] at hs
  obtain ⟨rfl, rfl, rfl, rfl⟩ := hs
  simp only [qok, qdec, Bool.and_eq_true, decide_eq_true_eq] at hok
  obtain ⟨⟨⟨h1, h2, h5⟩, h3⟩, h4⟩ := hok
  subst h2
  obtain ⟨st, rfl, hxi, hS⟩ := qsr_int hS
  have hz1 : (qold σ (cl.headD 0 + 2, n.toNat)).1.length = σ.1.length + 1 := by simp [qold]
  have hz2 : qsz (qold σ (cl.headD 0 + 2, n.toNat)).1 = qsz σ.1 + n.toNat := by simp [qold, qsz_app, qsz, qszk]
  have hat : ∀ (q : Nat) (e : va_E), qat (ws ++ [(q, e)]) σ.1.length q := fun q e => ⟨e, by rw [← hh.1]; simp⟩
  refine va_newq hx hb hown (hts _ (qcl_at h3)) (hAO _ h4) hK hP hD hSS hA (fun h => absurd ((qlt hxi q0in).mp h) (by omega)) (qclamp hn0 hxi) (by omega) (by omega) (by omega) h1 (fun q cA H1 hK1 hP1 hD1 hS1 => ?_)
  refine kk _ _ H1 locs ls _ _ _ qext_app ⟨qhr_new hh (fun x hx => List.mem_append_left _ hx) ?_, hP1, hK1, hD1, hS1⟩ (qlr_ext qext_app hL) ⟨⟨q, hat _ _, rfl⟩, qsr_ext qext_app hS⟩ (by omega) (by omega)
  exact ⟨cA, _, rfl, by simp, by omega, fun j hj => rfl⟩
theorem qs_32 {p : Program} {l : Launch} {e : Env} {R : Room} {s : State} {m : MethodId} {args : Array Value} {below : List Frame} {meth : Method} {c : Code} {H : Heap} {locs : List Loc} {cells slots : Nat} {Q : State → Prop} {D : va_G} {A : Nat → Prop} {k pc b nx : Nat} {a : Int} {cl : List Nat} {L S : List qA} {σ : qM} {pc' : Nat} {L' S' : List qA} {σ' : qM} {n0 z0 : Nat} {ws : va_W} {tys : List (ClassId × FieldType)} {ls : Array Slot} {st : List Value}
    (hok : qok k pc (32, a, b, cl, nx) = true) (hs : qstep 32 a b cl nx pc L S σ = some (pc', L', S', σ')) (hr1 : σ'.1.length ≤ n0 + R.cells) (hr2 : qsz σ'.1 ≤ z0 + R.slots) (C : qCtx p s m args meth c R k) (Hp : qHp D A s ws tys σ H locs) (hL : qlr ws L ls) (hS : qsr ws S st) (hc1 : cells + n0 = σ.1.length) (hc2 : slots + z0 = qsz σ.1) (hA : ∀ q, s.heap.size ≤ q → A q) (hNl : L.length = qNl k)
    (kk : ∀ (ws' : va_W) (tys' : List (ClassId × FieldType)) (H' : Heap) (locs' : List Loc) (ls' : Array Slot) (st' : List Value) (cells' slots' : Nat), qext ws ws' → qHp D A s ws' tys' σ' H' locs' → qlr ws' L' ls' → qsr ws' S' st' → cells' + n0 = σ'.1.length → slots' + z0 = qsz σ'.1 → W p l e R s m args below meth c H' locs' cells' slots' Q (F0 m pc' ls' st')) :
    W p l e R s m args below meth c H locs cells slots Q (F0 m pc ls st) := by
  obtain ⟨hkN, hx, hb, hml, hown, hts, hret, hlk, hnm, hRf, hRl, hAO⟩ := C
  obtain ⟨hh, hP, hK, hD, hSS⟩ := Hp
  simp only [qstep] at hs
  simp only [Option.some.injEq, Prod.mk.injEq] at hs
  obtain ⟨rfl, rfl, rfl, rfl⟩ := hs
  simp only [qok, qdec, Bool.and_eq_true, decide_eq_true_eq] at hok
  obtain ⟨⟨h1, h2, h5⟩, h3⟩ := hok
  subst h2
  have hz1 : (qold σ (0, cl.headD 0)).1.length = σ.1.length + 1 := by simp [qold]
  have hz2 : qsz (qold σ (0, cl.headD 0)).1 = qsz σ.1 + (qfs (cl.headD 0)).length := by simp [qold, qsz_app, qsz, qszk]
  have hat : ∀ (q : Nat) (e : va_E), qat (ws ++ [(q, e)]) σ.1.length q := fun q e => ⟨e, by rw [← hh.1]; simp⟩
  have hfs : ∀ j, j < (qfs (cl.headD 0)).length → defaultValue (qty (cl.headD 0) j) = vp_V ((qfs (cl.headD 0)).map (fun t => if t = true then Value.null else .int 0)) j := by
    intro j hj
    cases ht : (qfs (cl.headD 0))[j]? with
    | none => exact absurd (List.getElem?_eq_none_iff.mp ht) (by omega)
    | some t =>
      have hv : vp_V ((qfs (cl.headD 0)).map (fun t => if t = true then Value.null else .int 0)) j = if t = true then Value.null else .int 0 := by
        unfold vp_V
        rw [List.getD_eq_getElem?_getD, List.getElem?_map, ht]
        rfl
      rw [hv]
      cases t with
      | false => rw [qty_int ht]; rfl
      | true => rcases qty_ref ht with ⟨n, h⟩ | ⟨n, h⟩ <;> rw [h] <;> rfl
  refine va_new (ci := cl.headD 0) (fs := (qfs (cl.headD 0)).map (fun t => if t = true then Value.null else .int 0)) hx hb hts (qu_all h5) (qty (cl.headD 0)) (qty_all h5) hown (hts _ (qcl_at h3)) (hts _ (qcp_at h5).1) (hts _ (qcp_at h5).2) hK hP hD hSS hA (qvw h5) hfs (by omega) (by omega) h1 (fun q H1 hP1 hD1 hS1 => ?_)
  refine kk _ _ H1 locs ls _ _ _ qext_app ⟨qhr_new hh (fun x hx => hx) ?_, hP1, hK, hD1, hS1⟩ (qlr_ext qext_app hL) ⟨⟨q, hat _ _, rfl⟩, qsr_ext qext_app hS⟩ (by omega) (by omega)
  refine ⟨_, rfl, by simp, fun j hj => ?_, fun j hj => ?_⟩
  · rw [List.getElem?_map, hj]
    exact ⟨rfl, q0in⟩
  · rw [List.getElem?_map, hj]
    exact ⟨none, rfl, rfl⟩
theorem qs_33 {p : Program} {l : Launch} {e : Env} {R : Room} {s : State} {m : MethodId} {args : Array Value} {below : List Frame} {meth : Method} {c : Code} {H : Heap} {locs : List Loc} {cells slots : Nat} {Q : State → Prop} {D : va_G} {A : Nat → Prop} {k pc b nx : Nat} {a : Int} {cl : List Nat} {L S : List qA} {σ : qM} {pc' : Nat} {L' S' : List qA} {σ' : qM} {n0 z0 : Nat} {ws : va_W} {tys : List (ClassId × FieldType)} {ls : Array Slot} {st : List Value}
    (hok : qok k pc (33, a, b, cl, nx) = true) (hs : qstep 33 a b cl nx pc L S σ = some (pc', L', S', σ')) (hr1 : σ'.1.length ≤ n0 + R.cells) (hr2 : qsz σ'.1 ≤ z0 + R.slots) (C : qCtx p s m args meth c R k) (Hp : qHp D A s ws tys σ H locs) (hL : qlr ws L ls) (hS : qsr ws S st) (hc1 : cells + n0 = σ.1.length) (hc2 : slots + z0 = qsz σ.1) (hA : ∀ q, s.heap.size ≤ q → A q) (hNl : L.length = qNl k)
    (kk : ∀ (ws' : va_W) (tys' : List (ClassId × FieldType)) (H' : Heap) (locs' : List Loc) (ls' : Array Slot) (st' : List Value) (cells' slots' : Nat), qext ws ws' → qHp D A s ws' tys' σ' H' locs' → qlr ws' L' ls' → qsr ws' S' st' → cells' + n0 = σ'.1.length → slots' + z0 = qsz σ'.1 → W p l e R s m args below meth c H' locs' cells' slots' Q (F0 m pc' ls' st')) :
    W p l e R s m args below meth c H locs cells slots Q (F0 m pc ls st) := by
  obtain ⟨hkN, hx, hb, hml, hown, hts, hret, hlk, hnm, hRf, hRl, hAO⟩ := C
  obtain ⟨hh, hP, hK, hD, hSS⟩ := Hp
  simp only [qstep] at hs
  split at hs <;> first | (cases hs; done) | skip
  rename_i y x S1
  rw [Option.ite_none_right_eq_some] at hs
  obtain ⟨hl8, hs⟩ := hs
  simp only [Option.some.injEq, Prod.mk.injEq] at hs
  obtain ⟨rfl, rfl, rfl, rfl⟩ := hs
  simp only [qok, qdec, Bool.and_eq_true, decide_eq_true_eq] at hok
  obtain ⟨⟨h1, h2, h5, h6⟩, h3⟩ := hok
  subst h2
  obtain ⟨st, rfl, hq, hS⟩ := qsr_int hS
  obtain ⟨st, rfl, hq1, hS⟩ := qsr_int hS
  obtain ⟨w1, w2, w3⟩ := qw_max
  have hcat := qsum1 (qsr_cat hS)
  have hlen := qsr_len hS
  refine va_mmax hx hb (hml.trans (hL.1.trans hNl).symm) hown (hts _ (qmx_at h3)) (hts _ (qtb_at w1 rfl)) (hts _ (qtb_at w2 rfl)) (hts _ (qtb_at w3 rfl)) (by omega) (by omega) (by omega) (by omega) h1 ?_
  refine kk ws tys H locs ls _ cells slots qext_rf ⟨hh, hP, hK, hD, hSS⟩ hL ⟨?_, hS⟩ hc1 hc2
  by_cases hxy : x < y
  · rw [if_pos ((qlt hq1 hq).mpr hxy), if_pos hxy]
    exact ⟨rfl, hq⟩
  · rw [if_neg (fun h => hxy ((qlt hq1 hq).mp h)), if_neg hxy]
    exact ⟨rfl, hq1⟩
theorem qs_34 {p : Program} {l : Launch} {e : Env} {R : Room} {s : State} {m : MethodId} {args : Array Value} {below : List Frame} {meth : Method} {c : Code} {H : Heap} {locs : List Loc} {cells slots : Nat} {Q : State → Prop} {D : va_G} {A : Nat → Prop} {k pc b nx : Nat} {a : Int} {cl : List Nat} {L S : List qA} {σ : qM} {pc' : Nat} {L' S' : List qA} {σ' : qM} {n0 z0 : Nat} {ws : va_W} {tys : List (ClassId × FieldType)} {ls : Array Slot} {st : List Value}
    (hok : qok k pc (34, a, b, cl, nx) = true) (hs : qstep 34 a b cl nx pc L S σ = some (pc', L', S', σ')) (hr1 : σ'.1.length ≤ n0 + R.cells) (hr2 : qsz σ'.1 ≤ z0 + R.slots) (C : qCtx p s m args meth c R k) (Hp : qHp D A s ws tys σ H locs) (hL : qlr ws L ls) (hS : qsr ws S st) (hc1 : cells + n0 = σ.1.length) (hc2 : slots + z0 = qsz σ.1) (hA : ∀ q, s.heap.size ≤ q → A q) (hNl : L.length = qNl k)
    (kk : ∀ (ws' : va_W) (tys' : List (ClassId × FieldType)) (H' : Heap) (locs' : List Loc) (ls' : Array Slot) (st' : List Value) (cells' slots' : Nat), qext ws ws' → qHp D A s ws' tys' σ' H' locs' → qlr ws' L' ls' → qsr ws' S' st' → cells' + n0 = σ'.1.length → slots' + z0 = qsz σ'.1 → W p l e R s m args below meth c H' locs' cells' slots' Q (F0 m pc' ls' st')) :
    W p l e R s m args below meth c H locs cells slots Q (F0 m pc ls st) := by
  obtain ⟨hkN, hx, hb, hml, hown, hts, hret, hlk, hnm, hRf, hRl, hAO⟩ := C
  obtain ⟨hh, hP, hK, hD, hSS⟩ := Hp
  simp only [qstep] at hs
  split at hs <;> first | (cases hs; done) | skip
  rename_i x S1
  rw [Option.ite_none_right_eq_some] at hs
  obtain ⟨hl8, hs⟩ := hs
  simp only [Option.some.injEq, Prod.mk.injEq] at hs
  obtain ⟨rfl, rfl, rfl, rfl⟩ := hs
  simp only [qok, qdec, Bool.and_eq_true, decide_eq_true_eq] at hok
  obtain ⟨⟨h1, h2, h5, h6⟩, h3⟩ := hok
  subst h2
  obtain ⟨q, st, rfl, hq, hS⟩ := qsr_ref hS
  obtain ⟨w1, w2⟩ := qw_oin
  have hcat := qsum1 (qsr_cat hS)
  have hlen := qsr_len hS
  refine W.objInit hx hb hown (hts _ (qoi_at h3)) (hts _ (qtb_at w1 rfl)) (hts _ (qtb_at w2 rfl)) rfl ((hL.1.trans hNl).trans hml.symm) rfl h1 (by omega) (by show 2 * (F0 m pc ls (.ref q :: st)).monitorRoom + _ + 12 ≤ _; simp only [hcat]; omega) ?_
  exact kk ws tys H locs ls _ cells slots qext_rf ⟨hh, hP, hK, hD, hSS⟩ hL hS hc1 hc2
end
section
/-! What the abstract machine does, the machine does -/
theorem qstep_pre {op : Nat} {a : Int} {b : Nat} {c : List Nat} {nx pc : Nat} {L S : List qA} {σ : qM} {pc' : Nat} {L' S' : List qA} {σ' : qM} (h : qstep op a b c nx pc L S σ = some (pc', L', S', σ')) : (∃ X, σ'.1 = σ.1 ++ X) ∧ L'.length = L.length := by
  unfold qstep at h
  repeat' split at h
  all_goals first
    | (cases h; done)
    | (simp only [Option.some.injEq, Prod.mk.injEq] at h
       obtain ⟨-, rfl, -, rfl⟩ := h
       exact ⟨⟨[], (List.append_nil _).symm⟩, by simp⟩)
    | (simp only [Option.some.injEq, Prod.mk.injEq] at h
       obtain ⟨-, rfl, -, rfl⟩ := h
       exact ⟨⟨_, rfl⟩, by simp⟩)
theorem qev_pre : ∀ (n k pc : Nat) (L S : List qA) (σ : qM) (r : qA) (σ' : qM), qev n k pc L S σ = some (r, σ') → ∃ X, σ'.1 = σ.1 ++ X := by
  intro n
  induction n with
  | zero => intro k pc L S σ r σ' h; exact absurd h (by simp [qev])
  | succ n ih =>
    intro k pc L S σ r σ' h
    change qbody (qev n) k pc L S σ = _ at h
    unfold qbody at h
    split at h
    · exact absurd h (by simp)
    · rename_i op a b c nx hc
      split at h
      · split at h
        · rename_i pc' L' S' σ1 hs
          obtain ⟨⟨X, hX⟩, -⟩ := qstep_pre hs
          obtain ⟨Y, hY⟩ := ih _ _ _ _ _ _ _ h
          exact ⟨X ++ Y, by rw [hY, hX, List.append_assoc]⟩
        · exact absurd h (by simp)
      · split at h
        · split at h
          · split at h
            · rename_i r1 σ1 hs
              obtain ⟨X, hX⟩ := ih _ _ _ _ _ _ _ hs
              obtain ⟨Y, hY⟩ := ih _ _ _ _ _ _ _ h
              exact ⟨X ++ Y, by rw [hY, hX, List.append_assoc]⟩
            · exact absurd h (by simp)
          · exact absurd h (by simp)
        · repeat' split at h
          all_goals first
            | (cases h; done)
            | (simp only [Option.some.injEq, Prod.mk.injEq] at h
               obtain ⟨-, rfl⟩ := h
               exact ⟨[], by simp⟩)
theorem qev_ret : ∀ (n k pc : Nat) (L S : List qA) (σ : qM) (r : qA) (σ' : qM), k < qN → qev n k pc L S σ = some (r, σ') → (qRt k = 0 → r = none) ∧ (qRt k ≠ 0 → ∃ x, r = some x) := by
  intro n
  induction n with
  | zero => intro k pc L S σ r σ' _ h; exact absurd h (by simp [qev])
  | succ n ih =>
    intro k pc L S σ r σ' hk h
    change qbody (qev n) k pc L S σ = _ at h
    unfold qbody at h
    split at h
    · exact absurd h (by simp)
    · rename_i op a b c nx hc
      have hok := qk_all k hk pc _ hc
      split at h
      · split at h
        · exact ih _ _ _ _ _ _ _ hk h
        · exact absurd h (by simp)
      · split at h
        · split at h
          · split at h
            · exact ih _ _ _ _ _ _ _ hk h
            · exact absurd h (by simp)
          · exact absurd h (by simp)
        · split at h
          · rename_i ho
            subst ho
            simp only [qok, Bool.and_eq_true, decide_eq_true_eq] at hok
            split at h
            · simp only [Option.some.injEq, Prod.mk.injEq] at h
              exact ⟨fun h0 => by omega, fun _ => ⟨_, h.1.symm⟩⟩
            · exact absurd h (by simp)
          · split at h
            · rename_i ho
              subst ho
              simp only [qok, Bool.and_eq_true, decide_eq_true_eq] at hok
              split at h
              · split at h
                · simp only [Option.some.injEq, Prod.mk.injEq] at h
                  exact ⟨fun h0 => by omega, fun _ => ⟨_, h.1.symm⟩⟩
                · exact absurd h (by simp)
              · exact absurd h (by simp)
            · split at h
              · rename_i ho
                subst ho
                simp only [qok, Bool.and_eq_true, decide_eq_true_eq] at hok
                split at h
                · simp only [Option.some.injEq, Prod.mk.injEq] at h
                  exact ⟨fun h0 => by omega, fun _ => ⟨_, h.1.symm⟩⟩
                · exact absurd h (by simp)
              · split at h
                · rename_i ho
                  subst ho
                  simp only [qok, Bool.and_eq_true, decide_eq_true_eq] at hok
                  split at h
                  · simp only [Option.some.injEq, Prod.mk.injEq] at h
                    exact ⟨fun _ => h.1.symm, fun h0 => absurd hok.2 h0⟩
                  · exact absurd h (by simp)
                · exact absurd h (by simp)
def qrr (ws : va_W) : qA → Option Value → Prop
  | none, v => v = none
  | some x, v => ∃ w, qvr ws x w ∧ v = some w
/-- a method's end: the answer, the memory, what isn't the method's stays -/
def qQ (D : va_G) (A : Nat → Prop) (ws0 : va_W) (r : qA) (σ' : qM) : Array Value → State → Outcome → State → Prop := fun _ st oc t =>
  (∃ (v : Option Value) (ws' : va_W) (tys' : List (ClassId × FieldType)), oc = .returned v ∧ qrr ws' r v ∧ qext ws0 ws' ∧ qhr ws' tys' σ' ∧ va_P D vwCl ws' t.heap ∧ va_K D vwCl tys' t ∧ va_D A ws') ∧ va_F A st t
theorem qgo {p : Program} {l : Launch} {e : Env} {R : Room} {s : State} {m : MethodId} {args : Array Value} {below : List Frame} {meth : Method} {c : Code} {H : Heap} {locs : List Loc} {cells slots mc ms : Nat} {Q : State → Prop} {pc : Nat} {ls : Array Slot} {st0 rest : List Value} {Qa : State → Outcome → State → Prop} {free : Addr → Prop}
    (hr : va_Run p l e R s m args below meth c H locs cells slots mc ms (F0 m pc ls st0) rest Qa free)
    (kk : ∀ (v : Option Value) (st₀ t : State) (L : List Loc), st₀.heap = H → (∀ q ∈ L, free q.base) → s.vm.Alike t.vm → Qa st₀ (.returned v) t → W p l e R s m args below meth c t.heap (locs ++ L) (cells + mc) (slots + ms) Q (F0 m (pc + 3) ls (v.toList ++ rest))) : W p l e R s m args below meth c H locs cells slots Q (F0 m pc ls st0) := by
  intro T hT X
  obtain ⟨v, st₀, t, T', L, h0, X', hL, e1, e2, hq, st⟩ := hr T hT X
  obtain ⟨t2, a1, b1⟩ := kk v st₀ t L h0 hL (by rw [← e2]; exact X'.warmed.alike) hq T' e1 X'
  exact ⟨t2, st t2 a1, b1⟩
def qSound (n : Nat) : Prop := ∀ (k pc : Nat) (L S : List qA) (σ : qM) (r : qA) (σ' : qM), qev n k pc L S σ = some (r, σ') →
  ∀ {p : Program} {l : Launch} {e : Env} {R : Room} {s : State} {m : MethodId} {args : Array Value} {below : List Frame} {meth : Method} {c : Code} {H : Heap} {locs : List Loc} {cells slots : Nat} {D : va_G} {A : Nat → Prop} {n0 z0 : Nat} {ws0 ws : va_W} {tys : List (ClassId × FieldType)} {ls : Array Slot} {st : List Value},
    qCtx p s m args meth c R k → qHp D A s ws tys σ H locs → qlr ws L ls → qsr ws S st → L.length = qNl k → (∀ q, s.heap.size ≤ q → A q) → qext ws0 ws → cells + n0 = σ.1.length → slots + z0 = qsz σ.1 → σ'.1.length ≤ n0 + R.cells → qsz σ'.1 ≤ z0 + R.slots →
    W p l e R s m args below meth c H locs cells slots (MQ below (qQ D A ws0 r σ') args s (σ'.1.length - n0) (qsz σ'.1 - z0) A) (F0 m pc ls st)
def qrm (b : Nat) (σ σ' : qM) : Room := { frames := (qfr b).1, cells := σ'.1.length - σ.1.length, slots := qsz σ'.1 - qsz σ.1, locals := (qfr b).2 }
def qPc (D : va_G) (ws : va_W) (tys : List (ClassId × FieldType)) (sz : Nat) (avs : List Value) : Array Value → State → Prop := va_Pc avs (fun U => U.heap.size = sz ∧ va_P D vwCl ws U.heap ∧ va_K D vwCl tys U ∧ va_D (fun _ => True) ws ∧ qAO U)
def qws (b : Nat) : List Cond := Cond.code (qy b) (qb b) (qNl b) (qret b) :: qtb
theorem qm3 {b : Nat} (hb : b < qN) : (qy b).cls = qR (qCl b) ∧ qCl b < 9 ∧ plainName (qy b).cls = true ∧ (qy b).cls ≠ "java/lang/invoke/MethodHandle" ∧ (qy b).cls ≠ "java/lang/invoke/VarHandle" ∧ qrt_ok b = true := of_decide_eq_true (List.all_eq_true.mp qmp_ok3 b (List.mem_range.mpr hb))
theorem qcode_in {b : Nat} (hb : b < qN) : Cond.code (qy b) (qb b) (qNl b) (qret b) ∈ qtb := qtb_in (qcw_all b hb) rfl
theorem qws_good {b : Nat} (hb : b < qN) : GoodIn qtb (qws b) := by
  intro w hw
  rcases List.mem_cons.mp hw with rfl | hw
  · exact ⟨qcode_in hb, qtb_good (qcode_in hb)⟩
  · exact ⟨hw, qtb_good hw⟩
theorem qrt1 {b : Nat} (hb : b < qN) (h : qRt b = 1) : qret b = some .int := by
  have h1 := (qm3 hb).2.2.2.2.2
  unfold qrt_ok at h1
  rw [h] at h1
  split at h1 <;> simp_all
theorem qrt2 {b : Nat} (hb : b < qN) (h : qRt b = 2) : qret b = some .boolean := by
  have h1 := (qm3 hb).2.2.2.2.2
  unfold qrt_ok at h1
  rw [h] at h1
  split at h1 <;> simp_all
theorem qrt3 {b : Nat} (hb : b < qN) (h : qRt b = 3) : ∃ n, qret b = some (.object n) := by
  have h1 := (qm3 hb).2.2.2.2.2
  unfold qrt_ok at h1
  rw [h] at h1
  split at h1 <;> simp_all
theorem qrt0 {b : Nat} (hb : b < qN) (h : qRt b = 0) : qret b = none := by
  have h1 := (qm3 hb).2.2.2.2.2
  unfold qrt_ok at h1
  rw [h] at h1
  split at h1 <;> simp_all
theorem qlr_entry {ws : va_W} {as : List qA} {avs : List Value} {n : Nat} (h : qsr ws as avs) : qlr ws (as ++ List.replicate (n - as.length) none) ((avs.map Slot.val ++ List.replicate (n - avs.length) Slot.unset).toArray) := by
  have hl := qsr_len h
  have hc := qsr_cat h
  refine ⟨by simp [hl], ⟨fun i v hi h2 => ?_, fun i hi => ?_⟩, fun i x hi => ?_⟩
  · have h1 := List.mem_of_getElem? (l := avs.map Slot.val ++ List.replicate (n - avs.length) Slot.unset) (by simpa using hi)
    rcases List.mem_append.mp h1 with h1 | h1
    · obtain ⟨w, hw, e⟩ := List.mem_map.mp h1
      cases e
      have := hc _ hw
      omega
    · have := (List.mem_replicate.mp h1).2
      cases this
  · have h1 := List.mem_of_getElem? (l := avs.map Slot.val ++ List.replicate (n - avs.length) Slot.unset) (by simpa using hi)
    rcases List.mem_append.mp h1 with h1 | h1
    · obtain ⟨w, hw, e⟩ := List.mem_map.mp h1
      cases e
    · have := (List.mem_replicate.mp h1).2
      cases this
  · by_cases hil : i < as.length
    · rw [List.getElem?_append_left hil] at hi
      have key : ∀ (S : List qA) (st : List Value), qsr ws S st → ∀ i : Nat, S[i]? = some (some x) → ∃ v, qvr ws x v ∧ st[i]? = some v := by
        intro S
        induction S with
        | nil => intro st _ i hi; simp at hi
        | cons a S ih =>
          intro st hs i hi
          cases st with
          | nil => cases a <;> cases hs
          | cons v st =>
            cases a with
            | none => cases hs
            | some y =>
              cases i with
              | zero => simp at hi; subst hi; exact ⟨v, hs.1, rfl⟩
              | succ i => simp at hi; obtain ⟨w, h1, h2⟩ := ih st hs.2 i hi; exact ⟨w, h1, by simpa using h2⟩
      obtain ⟨v, h1, h2⟩ := key as avs h i hi
      refine ⟨v, h1, ?_⟩
      rw [List.getElem?_toArray, List.getElem?_append_left (by simp; omega), List.getElem?_map, h2]
      rfl
    · rw [List.getElem?_append_right (by omega)] at hi
      have := (List.mem_replicate.mp (List.mem_of_getElem? hi)).2
      cases this
theorem qMet {n : Nat} (ih : qSound n) (l : Launch) {D : va_G} {ws : va_W} {tys : List (ClassId × FieldType)} {b sz : Nat} {as : List qA} {avs : List Value} {σ σ' : qM} {r : qA} (hev : qev n b 0 (qent b as) [] σ = some (r, σ')) (hb : b < qN) (hal : as.length ≤ qNl b) (hs : qsr ws as avs) (hh : qhr ws tys σ) :
    Met l (qy b) (qws b) (qrm b σ σ') (qPc D ws tys sz avs) (qQ D (va_A ws sz) ws r σ') (σ'.1.length - σ.1.length) (qsz σ'.1 - qsz σ.1) (va_A ws sz) := by
  refine Met.ofW (cc := qb b) (maxL := qNl b) (ret := qret b) (qm3 hb).2.2.1 rfl ?_
  intro p e s m args below meth c s₁ B hml hv
  obtain ⟨rfl, hsz, hP, hK, hD0, hAO⟩ := hv
  have hts := atoms_spec (ws := qws b) B.pre
  have hown : s.vm.findClass (qR (qCl b)) = some m.cls := by rw [← (qm3 hb).1]; exact findClass_of_methodNamed B.named
  subst hsz
  rw [entry_eq m avs (qsr_cat hs) (qNl b)]
  have hX := qev_pre _ _ _ _ _ _ _ _ hev
  obtain ⟨X, hX⟩ := hX
  have hz := qsz_app σ.1 X
  refine ih b 0 (qent b as) [] σ r σ' hev ⟨hb, B.exec, B.bytes, hml, hown, fun w hw => hts w (List.mem_cons_of_mem _ hw), B.returns, B.notSynchronized, (name_of_methodNamed B.named B.method).1, Nat.le_refl _, Nat.le_refl _, hAO⟩ ⟨hh, hP, hK, hD0.self, va_S.rf⟩ (qlr_entry hs) trivial ?_ (fun q h => Or.inr h) qext_rf (by omega) (by omega) ?_ ?_
  · unfold qent
    rw [List.length_append, List.length_replicate]
    omega
  · show σ'.1.length ≤ σ.1.length + (σ'.1.length - σ.1.length)
    omega
  · show qsz σ'.1 ≤ qsz σ.1 + (qsz σ'.1 - qsz σ.1)
    omega
theorem qsound_step {n : Nat} (ih : qSound n) {k pc : Nat} {L S : List qA} {σ : qM} {r : qA} {σ' : qM} {op : Nat} {a : Int} {b : Nat} {cl : List Nat} {nx : Nat} {pc' : Nat} {L' S' : List qA} {σ1 : qM} (hcd : qcd k pc = some (op, a, b, cl, nx)) (hs : qstep op a b cl nx pc L S σ = some (pc', L', S', σ1)) (hev : qev n k pc' L' S' σ1 = some (r, σ'))
    {p : Program} {l : Launch} {e : Env} {R : Room} {s : State} {m : MethodId} {args : Array Value} {below : List Frame} {meth : Method} {c : Code} {H : Heap} {locs : List Loc} {cells slots : Nat} {D : va_G} {A : Nat → Prop} {n0 z0 : Nat} {ws0 ws : va_W} {tys : List (ClassId × FieldType)} {ls : Array Slot} {st : List Value}
    (C : qCtx p s m args meth c R k) (Hp : qHp D A s ws tys σ H locs) (hL : qlr ws L ls) (hS : qsr ws S st) (hNl : L.length = qNl k) (hA : ∀ q, s.heap.size ≤ q → A q) (hx0 : qext ws0 ws) (hc1 : cells + n0 = σ.1.length) (hc2 : slots + z0 = qsz σ.1) (hr1 : σ'.1.length ≤ n0 + R.cells) (hr2 : qsz σ'.1 ≤ z0 + R.slots) :
    W p l e R s m args below meth c H locs cells slots (MQ below (qQ D A ws0 r σ') args s (σ'.1.length - n0) (qsz σ'.1 - z0) A) (F0 m pc ls st) := by
  have hok := qk_all k C.1 pc _ hcd
  obtain ⟨X, hX⟩ := qev_pre _ _ _ _ _ _ _ _ hev
  have hzX := qsz_app σ1.1 X
  have hlX : σ'.1.length = σ1.1.length + X.length := by rw [hX, List.length_append]
  rw [← hX] at hzX
  have hl1 : σ1.1.length ≤ n0 + R.cells := by omega
  have hz1 : qsz σ1.1 ≤ z0 + R.slots := by omega
  have hNl' := (qstep_pre hs).2
  have KK : ∀ (ws' : va_W) (tys' : List (ClassId × FieldType)) (H' : Heap) (locs' : List Loc) (ls' : Array Slot) (st' : List Value) (cells' slots' : Nat), qext ws ws' → qHp D A s ws' tys' σ1 H' locs' → qlr ws' L' ls' → qsr ws' S' st' → cells' + n0 = σ1.1.length → slots' + z0 = qsz σ1.1 → W p l e R s m args below meth c H' locs' cells' slots' (MQ below (qQ D A ws0 r σ') args s (σ'.1.length - n0) (qsz σ'.1 - z0) A) (F0 m pc' ls' st') :=
    fun ws' tys' H' locs' ls' st' cells' slots' g1 g2 g3 g4 g5 g6 => ih k pc' L' S' σ1 r σ' hev C g2 g3 g4 (hNl'.trans hNl) hA (qext_tr hx0 g1) g5 g6 hr1 hr2
  match op, hok, hs with
  | 0, hok, hs => exact qs_0 hok hs hl1 hz1 C Hp hL hS hc1 hc2 hA hNl KK
  | 1, hok, hs => exact qs_1 hok hs hl1 hz1 C Hp hL hS hc1 hc2 hA hNl KK
  | 2, hok, hs => exact qs_2 hok hs hl1 hz1 C Hp hL hS hc1 hc2 hA hNl KK
  | 3, hok, hs => exact qs_3 hok hs hl1 hz1 C Hp hL hS hc1 hc2 hA hNl KK
  | 4, hok, hs => exact qs_4 hok hs hl1 hz1 C Hp hL hS hc1 hc2 hA hNl KK
  | 5, hok, hs => exact qs_5 hok hs hl1 hz1 C Hp hL hS hc1 hc2 hA hNl KK
  | 6, hok, hs => exact qs_6 hok hs hl1 hz1 C Hp hL hS hc1 hc2 hA hNl KK
  | 7, hok, hs => exact qs_7 hok hs hl1 hz1 C Hp hL hS hc1 hc2 hA hNl KK
  | 8, hok, hs => exact qs_8 hok hs hl1 hz1 C Hp hL hS hc1 hc2 hA hNl KK
  | 9, hok, hs => exact qs_9 hok hs hl1 hz1 C Hp hL hS hc1 hc2 hA hNl KK
  | 10, hok, hs => exact qs_10 hok hs hl1 hz1 C Hp hL hS hc1 hc2 hA hNl KK
  | 12, hok, hs => exact qs_12 hok hs hl1 hz1 C Hp hL hS hc1 hc2 hA hNl KK
  | 13, hok, hs => exact qs_13 hok hs hl1 hz1 C Hp hL hS hc1 hc2 hA hNl KK
  | 14, hok, hs => exact qs_14 hok hs hl1 hz1 C Hp hL hS hc1 hc2 hA hNl KK
  | 15, hok, hs => exact qs_15 hok hs hl1 hz1 C Hp hL hS hc1 hc2 hA hNl KK
  | 16, hok, hs => exact qs_16 hok hs hl1 hz1 C Hp hL hS hc1 hc2 hA hNl KK
  | 17, hok, hs => exact qs_17 hok hs hl1 hz1 C Hp hL hS hc1 hc2 hA hNl KK
  | 18, hok, hs => exact qs_18 hok hs hl1 hz1 C Hp hL hS hc1 hc2 hA hNl KK
  | 19, hok, hs => exact qs_19 hok hs hl1 hz1 C Hp hL hS hc1 hc2 hA hNl KK
  | 20, hok, hs => exact qs_20 hok hs hl1 hz1 C Hp hL hS hc1 hc2 hA hNl KK
  | 21, hok, hs => exact qs_21 hok hs hl1 hz1 C Hp hL hS hc1 hc2 hA hNl KK
  | 22, hok, hs => exact qs_22 hok hs hl1 hz1 C Hp hL hS hc1 hc2 hA hNl KK
  | 23, hok, hs => exact qs_23 hok hs hl1 hz1 C Hp hL hS hc1 hc2 hA hNl KK
  | 24, hok, hs => exact qs_24 hok hs hl1 hz1 C Hp hL hS hc1 hc2 hA hNl KK
  | 25, hok, hs => exact qs_25 hok hs hl1 hz1 C Hp hL hS hc1 hc2 hA hNl KK
  | 26, hok, hs => exact qs_26 hok hs hl1 hz1 C Hp hL hS hc1 hc2 hA hNl KK
  | 27, hok, hs => exact qs_27 hok hs hl1 hz1 C Hp hL hS hc1 hc2 hA hNl KK
  | 28, hok, hs => exact qs_28 hok hs hl1 hz1 C Hp hL hS hc1 hc2 hA hNl KK
  | 29, hok, hs => exact qs_29 hok hs hl1 hz1 C Hp hL hS hc1 hc2 hA hNl KK
  | 30, hok, hs => exact qs_30 hok hs hl1 hz1 C Hp hL hS hc1 hc2 hA hNl KK
  | 31, hok, hs => exact qs_31 hok hs hl1 hz1 C Hp hL hS hc1 hc2 hA hNl KK
  | 32, hok, hs => exact qs_32 hok hs hl1 hz1 C Hp hL hS hc1 hc2 hA hNl KK
  | 33, hok, hs => exact qs_33 hok hs hl1 hz1 C Hp hL hS hc1 hc2 hA hNl KK
  | 34, hok, hs => exact qs_34 hok hs hl1 hz1 C Hp hL hS hc1 hc2 hA hNl KK
  | 11, _, hs => exact absurd hs (by simp [qstep])
  | _ + 35, _, hs => exact absurd hs (by simp [qstep])
theorem qsound_call {n : Nat} (ih : qSound n) {k pc : Nat} {L S : List qA} {σ : qM} {r : qA} {σ' : qM} {a : Int} {b : Nat} {cl : List Nat} {nx : Nat} {r1 : qA} {σ1 : qM} (hcd : qcd k pc = some (40, a, b, cl, nx)) (hg : qNa b ≤ S.length ∧ S.length ≤ qNa b + 8 ∧ qrcv b (S.take (qNa b)).reverse σ = true ∧ qNa b ≤ qNl b) (he1 : qev n b 0 (qent b (S.take (qNa b)).reverse) [] σ = some (r1, σ1)) (hev : qev n k nx L (if qRt b = 0 then S.drop (qNa b) else r1 :: S.drop (qNa b)) σ1 = some (r, σ'))
    {p : Program} {l : Launch} {e : Env} {R : Room} {s : State} {m : MethodId} {args : Array Value} {below : List Frame} {meth : Method} {c : Code} {H : Heap} {locs : List Loc} {cells slots : Nat} {D : va_G} {A : Nat → Prop} {n0 z0 : Nat} {ws0 ws : va_W} {tys : List (ClassId × FieldType)} {ls : Array Slot} {st : List Value}
    (C : qCtx p s m args meth c R k) (Hp : qHp D A s ws tys σ H locs) (hL : qlr ws L ls) (hS : qsr ws S st) (hNl : L.length = qNl k) (hA : ∀ q, s.heap.size ≤ q → A q) (hx0 : qext ws0 ws) (hc1 : cells + n0 = σ.1.length) (hc2 : slots + z0 = qsz σ.1) (hr1 : σ'.1.length ≤ n0 + R.cells) (hr2 : qsz σ'.1 ≤ z0 + R.slots) :
    W p l e R s m args below meth c H locs cells slots (MQ below (qQ D A ws0 r σ') args s (σ'.1.length - n0) (qsz σ'.1 - z0) A) (F0 m pc ls st) := by
  have hok := qk_all k C.1 pc _ hcd
  obtain ⟨X, hX⟩ := qev_pre _ _ _ _ _ _ _ _ hev
  have hzX := qsz_app σ1.1 X
  have hlX : σ'.1.length = σ1.1.length + X.length := by rw [hX, List.length_append]
  rw [← hX] at hzX
  obtain ⟨Y, hY⟩ := qev_pre _ _ _ _ _ _ _ _ he1
  have hzY := qsz_app σ.1 Y
  have hlY : σ1.1.length = σ.1.length + Y.length := by rw [hY, List.length_append]
  rw [← hY] at hzY
  have C0 := C
  obtain ⟨hkN, hx, hb, hml, hown, hts, hret, hlk, hnm, hRf, hRl, hAO⟩ := C
  obtain ⟨hh, hP, hK, hD, hSS⟩ := Hp
  obtain ⟨hn1, hn2, hrc, hn3⟩ := hg
  simp only [qok, Bool.and_eq_true, decide_eq_true_eq] at hok
  obtain ⟨⟨⟨ho1, ho2, ho3, ho4, ho5⟩, ho6⟩, ho7⟩ := hok
  subst ho1
  have hsl := qsr_len hS
  have hta := qsr_rev (qsr_take (qNa b) hS)
  have htr := qsr_drop (qNa b) hS
  have hst : st = (st.take (qNa b)).reverse.reverse ++ st.drop (qNa b) := by rw [List.reverse_reverse, List.take_append_drop]
  have hasl : (S.take (qNa b)).reverse.length = qNa b := by rw [List.length_reverse, List.length_take]; omega
  have havl : (st.take (qNa b)).reverse.length = qNa b := by rw [List.length_reverse, List.length_take]; omega
  generalize (S.take (qNa b)).reverse = as at *
  generalize (st.take (qNa b)).reverse = avs at *
  have hM := qMet ih l (D := D) (sz := H.size) he1 ho2 (by omega) hta hh
  have hfree : ∀ q, va_A ws H.size q → A q := by
    rintro q (⟨j, e0, hj⟩ | h)
    · exact hD.2 j (q, e0) hj
    · exact hA q (Nat.le_trans hSS.1 h)
  have hcw : ∀ nn, (parseMethodDescriptor (qy b).desc).map (fun d => d.parameters.length) = some nn → CallB R s args (qR (qCl k)) a.toNat (qy b) (qb b) (qNl b) (qret b) (qws b) (qrm b σ σ1) (σ1.1.length - σ.1.length) (qsz σ1.1 - qsz σ.1) nn := fun nn hnn =>
    callB_of nn hts (qws_good ho2) rfl rfl rfl (by rw [(qm3 ho2).1]; exact hts _ (qcp_at (qm3 ho2).2.1).2) (hts _ (qml_at ho6)) ⟨(qm3 ho2).2.2.2.1, (qm3 ho2).2.2.2.2.1, hnn⟩ ⟨by show (qfr b).1 + 1 ≤ R.frames; omega, by show 8 + (qNl b + 11) + (qfr b).2 ≤ R.locals; omega⟩
  have hblind : FrameBlind (qPc D ws tys H.size avs) := fun a U g mk q => by
    obtain ⟨q0, q1, qP, qK, qD, qO⟩ := q
    exact ⟨q0, q1, qP, va_K.moved (u := U) (U := U.calling g mk a) (Vm.Alike.refl U.vm) qK, qD, qAO_moved (u := U) (U := U.calling g mk a) (Vm.Alike.refl U.vm) qO⟩
  have hPc : ∀ U : State, U.heap = H → s.WarmedH U.vm → qPc D ws tys H.size avs avs.toArray U := fun U hU hW => ⟨rfl, by rw [hU], by rw [hU]; exact hP, va_K.moved hW.alike hK, hD.weaken (fun _ _ _ _ => trivial), qAO_moved hW.alike hAO⟩
  have hsum : ((st.drop (qNa b)).map fun v => v.category).sum ≤ 8 := by
    rw [qsum1 (qsr_cat htr), List.length_drop]
    omega
  have hroom : cells + (σ1.1.length - σ.1.length) ≤ R.cells ∧ slots + (qsz σ1.1 - qsz σ.1) ≤ R.slots := ⟨by omega, by omega⟩
  have hNls : ls.size = qNl k := hL.1.trans hNl
  have KK : ∀ (v : Option Value) (st₀ t : State) (L1 : List Loc), st₀.heap = H → (∀ q ∈ L1, va_A ws H.size q.base) → s.vm.Alike t.vm → qQ D (va_A ws H.size) ws r1 σ1 avs.toArray st₀ (.returned v) t → W p l e R s m args below meth c t.heap (locs ++ L1) (cells + (σ1.1.length - σ.1.length)) (slots + (qsz σ1.1 - qsz σ.1)) (MQ below (qQ D A ws0 r σ') args s (σ'.1.length - n0) (qsz σ'.1 - z0) A) (F0 m (pc + 3) ls (v.toList ++ st.drop (qNa b))) := by
    intro v st₀ t L1 h0 hL1 hal hq
    obtain ⟨⟨v', ws', tys', hv, hrr, hext, hh', hP', hK', hD'⟩, hF⟩ := hq
    cases hv
    have hstk : qsr ws' (if qRt b = 0 then S.drop (qNa b) else r1 :: S.drop (qNa b)) (v.toList ++ st.drop (qNa b)) := by
      obtain ⟨g0, g1⟩ := qev_ret _ _ _ _ _ _ _ _ ho2 he1
      by_cases h9 : qRt b = 0
      · rw [if_pos h9]
        have := g0 h9
        subst this
        have : v = none := hrr
        subst this
        exact qsr_ext hext htr
      · rw [if_neg h9]
        obtain ⟨x, rfl⟩ := g1 h9
        obtain ⟨w, hw, rfl⟩ := hrr
        exact ⟨hw, qsr_ext hext htr⟩
    refine ih k (pc + 3) L _ σ1 r σ' hev C0 ⟨hh', hP', va_K.moved hal.symm hK', hD'.weaken (fun _ q _ h => hfree q.1 h), ?_⟩ (qlr_ext hext hL) hstk hNl hA (qext_tr hx0 hext) (by omega) (by omega) hr1 hr2
    obtain ⟨hF1, hF2⟩ := hF
    rw [h0] at hF1 hF2
    refine ⟨Nat.le_trans hSS.1 hF1, fun q h1 h2 => ?_, fun q hq => ?_⟩
    · rw [hF2 q (Nat.lt_of_lt_of_le h1 hSS.1) (fun z => h2 (hfree q z))]
      exact hSS.2.1 q h1 h2
    · rcases List.mem_append.mp hq with h | h
      · exact hSS.2.2 q h
      · exact hfree _ (hL1 q h)
  have hmp := List.all_eq_true.mp qmp_ok2 b (List.mem_range.mpr ho2)
  have hki : qKi b = 0 ∨ qKi b = 1 ∨ qKi b = 2 := by
    rcases Nat.lt_or_ge (qKi b) 3 with h | h
    · omega
    · obtain ⟨y, hy⟩ : ∃ y, qKi b = y + 3 := ⟨qKi b - 3, by omega⟩
      unfold qrcv at hrc
      rw [hy] at hrc
      exact absurd (show false = true from hrc) (by decide)
  rcases hki with hki | hki | hki
  · rw [hki] at hmp ho7
    have hmp := of_decide_eq_true hmp
    simp only [qdec, decide_eq_true_eq] at ho7
    refine qgo (va_runS (As := avs) (rest := st.drop (qNa b)) ⟨hx, hb, hml, hown, hts⟩ hM ⟨hcw _ hmp.2, hts _ (qtb_at hmp.1 rfl)⟩ ⟨hblind, hPc⟩ rfl havl hNls hst (lv_room hsum) ho7 hroom) KK
  · rw [hki] at hmp ho7
    have hmp := of_decide_eq_true hmp
    simp only [qdec, decide_eq_true_eq] at ho7
    simp only [qrcv, hki] at hrc
    split at hrc
    · rename_i k0 as'
      have hrc := of_decide_eq_true hrc
      cases avs with
      | nil => cases hta
      | cons v0 As =>
        obtain ⟨q, hq, rfl⟩ := hta.1
        obtain ⟨e0, he, fs, rfl, -⟩ := qhr_at hh hrc hq
        obtain ⟨nn, hnn, hnn2⟩ := Option.map_eq_some_iff.mp hmp.2.2
        have hAs : As.length = nn.parameters.length := by simp at havl; omega
        have hrecv := va_recv hK hP (qvw (qm3 ho2).2.1) he
        refine qgo (va_runV (As := As) (C := qR (qCl b)) (rest := st.drop (qNa b)) ⟨hx, hb, hml, hown, hts⟩ hM ⟨hcw nn.parameters.length (by rw [hnn]; rfl), hts _ (qtb_at hmp.1 rfl), hts _ (qtb_at hmp.2.1 rfl)⟩ ⟨hblind, hrecv, hPc⟩ rfl hAs hNls ?_ (lv_room hsum) ho7 hroom) KK
        show st = As.reverse ++ .ref q :: st.drop (qNa b)
        rw [List.reverse_cons, List.append_assoc] at hst
        exact hst
    · cases hrc
  · rw [hki] at hmp ho7
    have hmp := of_decide_eq_true hmp
    simp only [qdec, decide_eq_true_eq] at ho7
    simp only [qrcv, hki] at hrc
    split at hrc
    · rename_i k0 as'
      cases avs with
      | nil => cases hta
      | cons v0 As =>
        obtain ⟨q, hq, rfl⟩ := hta.1
        obtain ⟨nn, hnn, hnn2⟩ := Option.map_eq_some_iff.mp hmp.2.2.2
        have hAs : As.length = nn.parameters.length := by simp at havl; omega
        have hcw1 := hcw nn.parameters.length (by rw [hnn]; rfl)
        rw [hmp.2.2.1] at hcw1
        refine qgo (va_runI (As := As) (rest := st.drop (qNa b)) ⟨hx, hb, hml, hown, hts⟩ hM ⟨hcw1, hmp.2.1, hts _ (qtb_at hmp.1 rfl)⟩ ⟨hblind, hPc⟩ rfl hAs hNls ?_ (lv_room hsum) ho7 hroom) KK
        show st = As.reverse ++ .ref q :: st.drop (qNa b)
        rw [List.reverse_cons, List.append_assoc] at hst
        exact hst
    · cases hrc
theorem qsound : ∀ n, qSound n := by
  intro n
  induction n with
  | zero => intro k pc L S σ r σ' h; exact absurd h (by simp [qev])
  | succ n ih =>
    intro k pc L S σ r σ' h p l e R s m args below meth c H locs cells slots D A n0 z0 ws0 ws tys ls st C Hp hL hS hNl hA hx0 hc1 hc2 hr1 hr2
    change qbody (qev n) k pc L S σ = _ at h
    unfold qbody at h
    split at h
    · cases h
    · rename_i op a b cl nx hcd
      split at h
      · split at h
        · rename_i pc' L' S' σ1 hs
          exact qsound_step ih hcd hs h C Hp hL hS hNl hA hx0 hc1 hc2 hr1 hr2
        · cases h
      · split at h
        · rename_i ho
          subst ho
          split at h
          · rename_i hg
            split at h
            · rename_i r1 σ1 hs
              exact qsound_call ih hcd hg hs h C Hp hL hS hNl hA hx0 hc1 hc2 hr1 hr2
            · cases h
          · cases h
        · have hok := qk_all k C.1 pc _ hcd
          obtain ⟨hkN, hx, hb, hml, hown, hts, hret, hlk, hnm, hRf, hRl, hAO⟩ := C
          obtain ⟨hh, hP, hK, hD, hSS⟩ := Hp
          split at h
          · rename_i ho
            subst ho
            simp only [qok, qdec, Bool.and_eq_true, decide_eq_true_eq] at hok
            split at h
            · simp only [Option.some.injEq, Prod.mk.injEq] at h
              obtain ⟨rfl, rfl⟩ := h
              obtain ⟨st', rfl, hq, hS⟩ := qsr_int hS
              cases qsr_nil hS
              rw [show σ.1.length - n0 = cells by omega, show qsz σ.1 - z0 = slots by omega]
              exact W.iret hx hb (hret.trans (qrt1 hkN hok.2)) (fun t ht hW => ⟨⟨_, ws, tys, rfl, ⟨_, ⟨rfl, hq⟩, rfl⟩, hx0, hh, by rw [ht]; exact hP, va_K.moved hW.alike hK, hD⟩, hSS.F ht⟩) hSS.2.2 hok.1 hlk
            · cases h
          · split at h
            · rename_i ho
              subst ho
              simp only [qok, qdec, Bool.and_eq_true, decide_eq_true_eq] at hok
              split at h
              · split at h
                · rename_i x hx01
                  simp only [Option.some.injEq, Prod.mk.injEq] at h
                  obtain ⟨rfl, rfl⟩ := h
                  obtain ⟨st', rfl, hq, hS⟩ := qsr_int hS
                  cases qsr_nil hS
                  rw [show σ.1.length - n0 = cells by omega, show qsz σ.1 - z0 = slots by omega]
                  exact W.zret hx hb (hret.trans (qrt2 hkN hok.2)) (by rcases hx01 with h1 | h1 <;> rw [h1] <;> rfl) (fun t ht hW => ⟨⟨_, ws, tys, rfl, ⟨_, ⟨rfl, hq⟩, rfl⟩, hx0, hh, by rw [ht]; exact hP, va_K.moved hW.alike hK, hD⟩, hSS.F ht⟩) hSS.2.2 hok.1 hlk
                · cases h
              · cases h
            · split at h
              · rename_i ho
                subst ho
                simp only [qok, qdec, Bool.and_eq_true, decide_eq_true_eq] at hok
                split at h
                · simp only [Option.some.injEq, Prod.mk.injEq] at h
                  obtain ⟨rfl, rfl⟩ := h
                  obtain ⟨q, st', rfl, hq, hS⟩ := qsr_ref hS
                  cases qsr_nil hS
                  rw [show σ.1.length - n0 = cells by omega, show qsz σ.1 - z0 = slots by omega]
                  obtain ⟨nm, hrt⟩ := qrt3 hkN hok.2
                  exact W.aret hx hb (hret.trans hrt) (Or.inl ⟨nm, rfl⟩) (Or.inr ⟨q, rfl⟩) (fun t ht hW => ⟨⟨_, ws, tys, rfl, ⟨_, ⟨q, hq, rfl⟩, rfl⟩, hx0, hh, by rw [ht]; exact hP, va_K.moved hW.alike hK, hD⟩, hSS.F ht⟩) hSS.2.2 hok.1 hlk
                · cases h
              · split at h
                · rename_i ho
                  subst ho
                  simp only [qok, qdec, Bool.and_eq_true, decide_eq_true_eq] at hok
                  split at h
                  · simp only [Option.some.injEq, Prod.mk.injEq] at h
                    obtain ⟨rfl, rfl⟩ := h
                    cases qsr_nil hS
                    rw [show σ.1.length - n0 = cells by omega, show qsz σ.1 - z0 = slots by omega]
                    exact W.vret hx hb (hret.trans (qrt0 hkN hok.2)) (fun t ht hW => ⟨⟨none, ws, tys, rfl, rfl, hx0, hh, by rw [ht]; exact hP, va_K.moved hW.alike hK, hD⟩, hSS.F ht⟩) hSS.2.2 hok.1 hlk
                  · cases h
                · cases h
end
section
/-! Rules of qW, one an instruction; numbers are Int -/
theorem qr_const {k pc : Nat} {L S : List qA} {T : List (Nat × Nat)} {m : Nat → Int → Int} {r : Nat → Int → Option Nat} {Q : qA → qM → Prop} {a : Int} {b : Nat} {c : List Nat} {nx : Nat}  (hc : qcd k pc = some (0, a, b, c, nx)) (h : qin a := by decide) (w : qW k nx L (qI a :: S) (T, m, r) Q) : qW k pc L S (T, m, r) Q := by
  exact qW_step hc (by decide) (by simp only [qstep, if_pos h]) w
theorem qr_il {k pc : Nat} {L S : List qA} {T : List (Nat × Nat)} {m : Nat → Int → Int} {r : Nat → Int → Option Nat} {Q : qA → qM → Prop} {a : Int} {b : Nat} {c : List Nat} {nx : Nat} {x : Int} (hc : qcd k pc = some (1, a, b, c, nx)) (hl : L[b]? = some (some (Sum.inl x))) (w : qW k nx L (qI x :: S) (T, m, r) Q) : qW k pc L S (T, m, r) Q := by
  exact qW_step hc (by decide) (by simp only [qstep, hl]) w
theorem qr_al {k pc : Nat} {L S : List qA} {T : List (Nat × Nat)} {m : Nat → Int → Int} {r : Nat → Int → Option Nat} {Q : qA → qM → Prop} {a : Int} {b : Nat} {c : List Nat} {nx : Nat} {x : Nat} (hc : qcd k pc = some (2, a, b, c, nx)) (hl : L[b]? = some (some (Sum.inr x))) (w : qW k nx L (qK x :: S) (T, m, r) Q) : qW k pc L S (T, m, r) Q := by
  exact qW_step hc (by decide) (by simp only [qstep, hl]) w
theorem qr_is0 {k pc : Nat} {L S : List qA} {T : List (Nat × Nat)} {m : Nat → Int → Int} {r : Nat → Int → Option Nat} {Q : qA → qM → Prop} {a : Int} {c : List Nat} {nx : Nat} {x : Int} {x0 : qA} (hc : qcd k pc = some (3, a, 0, c, nx))  (w : qW k nx (qI x :: L) S (T, m, r) Q) : qW k pc (x0 :: L) (qI x :: S) (T, m, r) Q := by
  exact qW_step hc (by decide) (by simp [qstep]) w
theorem qr_as0 {k pc : Nat} {L S : List qA} {T : List (Nat × Nat)} {m : Nat → Int → Int} {r : Nat → Int → Option Nat} {Q : qA → qM → Prop} {a : Int} {c : List Nat} {nx : Nat} {x : Nat} {x0 : qA} (hc : qcd k pc = some (4, a, 0, c, nx))  (w : qW k nx (qK x :: L) S (T, m, r) Q) : qW k pc (x0 :: L) (qK x :: S) (T, m, r) Q := by
  exact qW_step hc (by decide) (by simp [qstep]) w
theorem qr_inc0 {k pc : Nat} {L S : List qA} {T : List (Nat × Nat)} {m : Nat → Int → Int} {r : Nat → Int → Option Nat} {Q : qA → qM → Prop} {a : Int} {c : List Nat} {nx : Nat} {x : Int}  (hc : qcd k pc = some (5, a, 0, c, nx)) (h : qin (x + a)) (w : qW k nx (qI (x + a) :: L) S (T, m, r) Q) : qW k pc (qI x :: L) S (T, m, r) Q := by
  exact qW_step hc (by decide) (by simp [qstep]; exact h) w
theorem qr_is1 {k pc : Nat} {L S : List qA} {T : List (Nat × Nat)} {m : Nat → Int → Int} {r : Nat → Int → Option Nat} {Q : qA → qM → Prop} {a : Int} {c : List Nat} {nx : Nat} {x : Int} {x0 x1 : qA} (hc : qcd k pc = some (3, a, 1, c, nx))  (w : qW k nx (x0 :: qI x :: L) S (T, m, r) Q) : qW k pc (x0 :: x1 :: L) (qI x :: S) (T, m, r) Q := by
  exact qW_step hc (by decide) (by simp [qstep]) w
theorem qr_as1 {k pc : Nat} {L S : List qA} {T : List (Nat × Nat)} {m : Nat → Int → Int} {r : Nat → Int → Option Nat} {Q : qA → qM → Prop} {a : Int} {c : List Nat} {nx : Nat} {x : Nat} {x0 x1 : qA} (hc : qcd k pc = some (4, a, 1, c, nx))  (w : qW k nx (x0 :: qK x :: L) S (T, m, r) Q) : qW k pc (x0 :: x1 :: L) (qK x :: S) (T, m, r) Q := by
  exact qW_step hc (by decide) (by simp [qstep]) w
theorem qr_inc1 {k pc : Nat} {L S : List qA} {T : List (Nat × Nat)} {m : Nat → Int → Int} {r : Nat → Int → Option Nat} {Q : qA → qM → Prop} {a : Int} {c : List Nat} {nx : Nat} {x : Int} {x0 : qA} (hc : qcd k pc = some (5, a, 1, c, nx)) (h : qin (x + a)) (w : qW k nx (x0 :: qI (x + a) :: L) S (T, m, r) Q) : qW k pc (x0 :: qI x :: L) S (T, m, r) Q := by
  exact qW_step hc (by decide) (by simp [qstep]; exact h) w
theorem qr_is2 {k pc : Nat} {L S : List qA} {T : List (Nat × Nat)} {m : Nat → Int → Int} {r : Nat → Int → Option Nat} {Q : qA → qM → Prop} {a : Int} {c : List Nat} {nx : Nat} {x : Int} {x0 x1 x2 : qA} (hc : qcd k pc = some (3, a, 2, c, nx))  (w : qW k nx (x0 :: x1 :: qI x :: L) S (T, m, r) Q) : qW k pc (x0 :: x1 :: x2 :: L) (qI x :: S) (T, m, r) Q := by
  exact qW_step hc (by decide) (by simp [qstep]) w
theorem qr_as2 {k pc : Nat} {L S : List qA} {T : List (Nat × Nat)} {m : Nat → Int → Int} {r : Nat → Int → Option Nat} {Q : qA → qM → Prop} {a : Int} {c : List Nat} {nx : Nat} {x : Nat} {x0 x1 x2 : qA} (hc : qcd k pc = some (4, a, 2, c, nx))  (w : qW k nx (x0 :: x1 :: qK x :: L) S (T, m, r) Q) : qW k pc (x0 :: x1 :: x2 :: L) (qK x :: S) (T, m, r) Q := by
  exact qW_step hc (by decide) (by simp [qstep]) w
theorem qr_inc2 {k pc : Nat} {L S : List qA} {T : List (Nat × Nat)} {m : Nat → Int → Int} {r : Nat → Int → Option Nat} {Q : qA → qM → Prop} {a : Int} {c : List Nat} {nx : Nat} {x : Int} {x0 x1 : qA} (hc : qcd k pc = some (5, a, 2, c, nx)) (h : qin (x + a)) (w : qW k nx (x0 :: x1 :: qI (x + a) :: L) S (T, m, r) Q) : qW k pc (x0 :: x1 :: qI x :: L) S (T, m, r) Q := by
  exact qW_step hc (by decide) (by simp [qstep]; exact h) w
theorem qr_is3 {k pc : Nat} {L S : List qA} {T : List (Nat × Nat)} {m : Nat → Int → Int} {r : Nat → Int → Option Nat} {Q : qA → qM → Prop} {a : Int} {c : List Nat} {nx : Nat} {x : Int} {x0 x1 x2 x3 : qA} (hc : qcd k pc = some (3, a, 3, c, nx))  (w : qW k nx (x0 :: x1 :: x2 :: qI x :: L) S (T, m, r) Q) : qW k pc (x0 :: x1 :: x2 :: x3 :: L) (qI x :: S) (T, m, r) Q := by
  exact qW_step hc (by decide) (by simp [qstep]) w
theorem qr_as3 {k pc : Nat} {L S : List qA} {T : List (Nat × Nat)} {m : Nat → Int → Int} {r : Nat → Int → Option Nat} {Q : qA → qM → Prop} {a : Int} {c : List Nat} {nx : Nat} {x : Nat} {x0 x1 x2 x3 : qA} (hc : qcd k pc = some (4, a, 3, c, nx))  (w : qW k nx (x0 :: x1 :: x2 :: qK x :: L) S (T, m, r) Q) : qW k pc (x0 :: x1 :: x2 :: x3 :: L) (qK x :: S) (T, m, r) Q := by
  exact qW_step hc (by decide) (by simp [qstep]) w
theorem qr_inc3 {k pc : Nat} {L S : List qA} {T : List (Nat × Nat)} {m : Nat → Int → Int} {r : Nat → Int → Option Nat} {Q : qA → qM → Prop} {a : Int} {c : List Nat} {nx : Nat} {x : Int} {x0 x1 x2 : qA} (hc : qcd k pc = some (5, a, 3, c, nx)) (h : qin (x + a)) (w : qW k nx (x0 :: x1 :: x2 :: qI (x + a) :: L) S (T, m, r) Q) : qW k pc (x0 :: x1 :: x2 :: qI x :: L) S (T, m, r) Q := by
  exact qW_step hc (by decide) (by simp [qstep]; exact h) w
theorem qr_is4 {k pc : Nat} {L S : List qA} {T : List (Nat × Nat)} {m : Nat → Int → Int} {r : Nat → Int → Option Nat} {Q : qA → qM → Prop} {a : Int} {c : List Nat} {nx : Nat} {x : Int} {x0 x1 x2 x3 x4 : qA} (hc : qcd k pc = some (3, a, 4, c, nx))  (w : qW k nx (x0 :: x1 :: x2 :: x3 :: qI x :: L) S (T, m, r) Q) : qW k pc (x0 :: x1 :: x2 :: x3 :: x4 :: L) (qI x :: S) (T, m, r) Q := by
  exact qW_step hc (by decide) (by simp [qstep]) w
theorem qr_as4 {k pc : Nat} {L S : List qA} {T : List (Nat × Nat)} {m : Nat → Int → Int} {r : Nat → Int → Option Nat} {Q : qA → qM → Prop} {a : Int} {c : List Nat} {nx : Nat} {x : Nat} {x0 x1 x2 x3 x4 : qA} (hc : qcd k pc = some (4, a, 4, c, nx))  (w : qW k nx (x0 :: x1 :: x2 :: x3 :: qK x :: L) S (T, m, r) Q) : qW k pc (x0 :: x1 :: x2 :: x3 :: x4 :: L) (qK x :: S) (T, m, r) Q := by
  exact qW_step hc (by decide) (by simp [qstep]) w
theorem qr_inc4 {k pc : Nat} {L S : List qA} {T : List (Nat × Nat)} {m : Nat → Int → Int} {r : Nat → Int → Option Nat} {Q : qA → qM → Prop} {a : Int} {c : List Nat} {nx : Nat} {x : Int} {x0 x1 x2 x3 : qA} (hc : qcd k pc = some (5, a, 4, c, nx)) (h : qin (x + a)) (w : qW k nx (x0 :: x1 :: x2 :: x3 :: qI (x + a) :: L) S (T, m, r) Q) : qW k pc (x0 :: x1 :: x2 :: x3 :: qI x :: L) S (T, m, r) Q := by
  exact qW_step hc (by decide) (by simp [qstep]; exact h) w
theorem qr_is5 {k pc : Nat} {L S : List qA} {T : List (Nat × Nat)} {m : Nat → Int → Int} {r : Nat → Int → Option Nat} {Q : qA → qM → Prop} {a : Int} {c : List Nat} {nx : Nat} {x : Int} {x0 x1 x2 x3 x4 x5 : qA} (hc : qcd k pc = some (3, a, 5, c, nx))  (w : qW k nx (x0 :: x1 :: x2 :: x3 :: x4 :: qI x :: L) S (T, m, r) Q) : qW k pc (x0 :: x1 :: x2 :: x3 :: x4 :: x5 :: L) (qI x :: S) (T, m, r) Q := by
  exact qW_step hc (by decide) (by simp [qstep]) w
theorem qr_as5 {k pc : Nat} {L S : List qA} {T : List (Nat × Nat)} {m : Nat → Int → Int} {r : Nat → Int → Option Nat} {Q : qA → qM → Prop} {a : Int} {c : List Nat} {nx : Nat} {x : Nat} {x0 x1 x2 x3 x4 x5 : qA} (hc : qcd k pc = some (4, a, 5, c, nx))  (w : qW k nx (x0 :: x1 :: x2 :: x3 :: x4 :: qK x :: L) S (T, m, r) Q) : qW k pc (x0 :: x1 :: x2 :: x3 :: x4 :: x5 :: L) (qK x :: S) (T, m, r) Q := by
  exact qW_step hc (by decide) (by simp [qstep]) w
theorem qr_inc5 {k pc : Nat} {L S : List qA} {T : List (Nat × Nat)} {m : Nat → Int → Int} {r : Nat → Int → Option Nat} {Q : qA → qM → Prop} {a : Int} {c : List Nat} {nx : Nat} {x : Int} {x0 x1 x2 x3 x4 : qA} (hc : qcd k pc = some (5, a, 5, c, nx)) (h : qin (x + a)) (w : qW k nx (x0 :: x1 :: x2 :: x3 :: x4 :: qI (x + a) :: L) S (T, m, r) Q) : qW k pc (x0 :: x1 :: x2 :: x3 :: x4 :: qI x :: L) S (T, m, r) Q := by
  exact qW_step hc (by decide) (by simp [qstep]; exact h) w
theorem qr_is6 {k pc : Nat} {L S : List qA} {T : List (Nat × Nat)} {m : Nat → Int → Int} {r : Nat → Int → Option Nat} {Q : qA → qM → Prop} {a : Int} {c : List Nat} {nx : Nat} {x : Int} {x0 x1 x2 x3 x4 x5 x6 : qA} (hc : qcd k pc = some (3, a, 6, c, nx))  (w : qW k nx (x0 :: x1 :: x2 :: x3 :: x4 :: x5 :: qI x :: L) S (T, m, r) Q) : qW k pc (x0 :: x1 :: x2 :: x3 :: x4 :: x5 :: x6 :: L) (qI x :: S) (T, m, r) Q := by
  exact qW_step hc (by decide) (by simp [qstep]) w
theorem qr_as6 {k pc : Nat} {L S : List qA} {T : List (Nat × Nat)} {m : Nat → Int → Int} {r : Nat → Int → Option Nat} {Q : qA → qM → Prop} {a : Int} {c : List Nat} {nx : Nat} {x : Nat} {x0 x1 x2 x3 x4 x5 x6 : qA} (hc : qcd k pc = some (4, a, 6, c, nx))  (w : qW k nx (x0 :: x1 :: x2 :: x3 :: x4 :: x5 :: qK x :: L) S (T, m, r) Q) : qW k pc (x0 :: x1 :: x2 :: x3 :: x4 :: x5 :: x6 :: L) (qK x :: S) (T, m, r) Q := by
  exact qW_step hc (by decide) (by simp [qstep]) w
theorem qr_inc6 {k pc : Nat} {L S : List qA} {T : List (Nat × Nat)} {m : Nat → Int → Int} {r : Nat → Int → Option Nat} {Q : qA → qM → Prop} {a : Int} {c : List Nat} {nx : Nat} {x : Int} {x0 x1 x2 x3 x4 x5 : qA} (hc : qcd k pc = some (5, a, 6, c, nx)) (h : qin (x + a)) (w : qW k nx (x0 :: x1 :: x2 :: x3 :: x4 :: x5 :: qI (x + a) :: L) S (T, m, r) Q) : qW k pc (x0 :: x1 :: x2 :: x3 :: x4 :: x5 :: qI x :: L) S (T, m, r) Q := by
  exact qW_step hc (by decide) (by simp [qstep]; exact h) w
theorem qr_is7 {k pc : Nat} {L S : List qA} {T : List (Nat × Nat)} {m : Nat → Int → Int} {r : Nat → Int → Option Nat} {Q : qA → qM → Prop} {a : Int} {c : List Nat} {nx : Nat} {x : Int} {x0 x1 x2 x3 x4 x5 x6 x7 : qA} (hc : qcd k pc = some (3, a, 7, c, nx))  (w : qW k nx (x0 :: x1 :: x2 :: x3 :: x4 :: x5 :: x6 :: qI x :: L) S (T, m, r) Q) : qW k pc (x0 :: x1 :: x2 :: x3 :: x4 :: x5 :: x6 :: x7 :: L) (qI x :: S) (T, m, r) Q := by
  exact qW_step hc (by decide) (by simp [qstep]) w
theorem qr_as7 {k pc : Nat} {L S : List qA} {T : List (Nat × Nat)} {m : Nat → Int → Int} {r : Nat → Int → Option Nat} {Q : qA → qM → Prop} {a : Int} {c : List Nat} {nx : Nat} {x : Nat} {x0 x1 x2 x3 x4 x5 x6 x7 : qA} (hc : qcd k pc = some (4, a, 7, c, nx))  (w : qW k nx (x0 :: x1 :: x2 :: x3 :: x4 :: x5 :: x6 :: qK x :: L) S (T, m, r) Q) : qW k pc (x0 :: x1 :: x2 :: x3 :: x4 :: x5 :: x6 :: x7 :: L) (qK x :: S) (T, m, r) Q := by
  exact qW_step hc (by decide) (by simp [qstep]) w
theorem qr_inc7 {k pc : Nat} {L S : List qA} {T : List (Nat × Nat)} {m : Nat → Int → Int} {r : Nat → Int → Option Nat} {Q : qA → qM → Prop} {a : Int} {c : List Nat} {nx : Nat} {x : Int} {x0 x1 x2 x3 x4 x5 x6 : qA} (hc : qcd k pc = some (5, a, 7, c, nx)) (h : qin (x + a)) (w : qW k nx (x0 :: x1 :: x2 :: x3 :: x4 :: x5 :: x6 :: qI (x + a) :: L) S (T, m, r) Q) : qW k pc (x0 :: x1 :: x2 :: x3 :: x4 :: x5 :: x6 :: qI x :: L) S (T, m, r) Q := by
  exact qW_step hc (by decide) (by simp [qstep]; exact h) w
theorem qr_is8 {k pc : Nat} {L S : List qA} {T : List (Nat × Nat)} {m : Nat → Int → Int} {r : Nat → Int → Option Nat} {Q : qA → qM → Prop} {a : Int} {c : List Nat} {nx : Nat} {x : Int} {x0 x1 x2 x3 x4 x5 x6 x7 x8 : qA} (hc : qcd k pc = some (3, a, 8, c, nx))  (w : qW k nx (x0 :: x1 :: x2 :: x3 :: x4 :: x5 :: x6 :: x7 :: qI x :: L) S (T, m, r) Q) : qW k pc (x0 :: x1 :: x2 :: x3 :: x4 :: x5 :: x6 :: x7 :: x8 :: L) (qI x :: S) (T, m, r) Q := by
  exact qW_step hc (by decide) (by simp [qstep]) w
theorem qr_as8 {k pc : Nat} {L S : List qA} {T : List (Nat × Nat)} {m : Nat → Int → Int} {r : Nat → Int → Option Nat} {Q : qA → qM → Prop} {a : Int} {c : List Nat} {nx : Nat} {x : Nat} {x0 x1 x2 x3 x4 x5 x6 x7 x8 : qA} (hc : qcd k pc = some (4, a, 8, c, nx))  (w : qW k nx (x0 :: x1 :: x2 :: x3 :: x4 :: x5 :: x6 :: x7 :: qK x :: L) S (T, m, r) Q) : qW k pc (x0 :: x1 :: x2 :: x3 :: x4 :: x5 :: x6 :: x7 :: x8 :: L) (qK x :: S) (T, m, r) Q := by
  exact qW_step hc (by decide) (by simp [qstep]) w
theorem qr_inc8 {k pc : Nat} {L S : List qA} {T : List (Nat × Nat)} {m : Nat → Int → Int} {r : Nat → Int → Option Nat} {Q : qA → qM → Prop} {a : Int} {c : List Nat} {nx : Nat} {x : Int} {x0 x1 x2 x3 x4 x5 x6 x7 : qA} (hc : qcd k pc = some (5, a, 8, c, nx)) (h : qin (x + a)) (w : qW k nx (x0 :: x1 :: x2 :: x3 :: x4 :: x5 :: x6 :: x7 :: qI (x + a) :: L) S (T, m, r) Q) : qW k pc (x0 :: x1 :: x2 :: x3 :: x4 :: x5 :: x6 :: x7 :: qI x :: L) S (T, m, r) Q := by
  exact qW_step hc (by decide) (by simp [qstep]; exact h) w
theorem qr_is9 {k pc : Nat} {L S : List qA} {T : List (Nat × Nat)} {m : Nat → Int → Int} {r : Nat → Int → Option Nat} {Q : qA → qM → Prop} {a : Int} {c : List Nat} {nx : Nat} {x : Int} {x0 x1 x2 x3 x4 x5 x6 x7 x8 x9 : qA} (hc : qcd k pc = some (3, a, 9, c, nx))  (w : qW k nx (x0 :: x1 :: x2 :: x3 :: x4 :: x5 :: x6 :: x7 :: x8 :: qI x :: L) S (T, m, r) Q) : qW k pc (x0 :: x1 :: x2 :: x3 :: x4 :: x5 :: x6 :: x7 :: x8 :: x9 :: L) (qI x :: S) (T, m, r) Q := by
  exact qW_step hc (by decide) (by simp [qstep]) w
theorem qr_as9 {k pc : Nat} {L S : List qA} {T : List (Nat × Nat)} {m : Nat → Int → Int} {r : Nat → Int → Option Nat} {Q : qA → qM → Prop} {a : Int} {c : List Nat} {nx : Nat} {x : Nat} {x0 x1 x2 x3 x4 x5 x6 x7 x8 x9 : qA} (hc : qcd k pc = some (4, a, 9, c, nx))  (w : qW k nx (x0 :: x1 :: x2 :: x3 :: x4 :: x5 :: x6 :: x7 :: x8 :: qK x :: L) S (T, m, r) Q) : qW k pc (x0 :: x1 :: x2 :: x3 :: x4 :: x5 :: x6 :: x7 :: x8 :: x9 :: L) (qK x :: S) (T, m, r) Q := by
  exact qW_step hc (by decide) (by simp [qstep]) w
theorem qr_inc9 {k pc : Nat} {L S : List qA} {T : List (Nat × Nat)} {m : Nat → Int → Int} {r : Nat → Int → Option Nat} {Q : qA → qM → Prop} {a : Int} {c : List Nat} {nx : Nat} {x : Int} {x0 x1 x2 x3 x4 x5 x6 x7 x8 : qA} (hc : qcd k pc = some (5, a, 9, c, nx)) (h : qin (x + a)) (w : qW k nx (x0 :: x1 :: x2 :: x3 :: x4 :: x5 :: x6 :: x7 :: x8 :: qI (x + a) :: L) S (T, m, r) Q) : qW k pc (x0 :: x1 :: x2 :: x3 :: x4 :: x5 :: x6 :: x7 :: x8 :: qI x :: L) S (T, m, r) Q := by
  exact qW_step hc (by decide) (by simp [qstep]; exact h) w
theorem qr_add {k pc : Nat} {L S : List qA} {T : List (Nat × Nat)} {m : Nat → Int → Int} {r : Nat → Int → Option Nat} {Q : qA → qM → Prop} {a : Int} {b : Nat} {c : List Nat} {nx : Nat} {x y : Int} (hc : qcd k pc = some (6, a, b, c, nx)) (h : qin (x + y)) (w : qW k nx L (qI (x + y) :: S) (T, m, r) Q) : qW k pc L (qI y :: qI x :: S) (T, m, r) Q := by
  exact qW_step hc (by decide) (by simp only [qstep, if_pos h]) w
theorem qr_sub {k pc : Nat} {L S : List qA} {T : List (Nat × Nat)} {m : Nat → Int → Int} {r : Nat → Int → Option Nat} {Q : qA → qM → Prop} {a : Int} {b : Nat} {c : List Nat} {nx : Nat} {x y : Int} (hc : qcd k pc = some (7, a, b, c, nx)) (h : qin (x - y)) (w : qW k nx L (qI (x - y) :: S) (T, m, r) Q) : qW k pc L (qI y :: qI x :: S) (T, m, r) Q := by
  exact qW_step hc (by decide) (by simp only [qstep, if_pos h]) w
theorem qr_mul {k pc : Nat} {L S : List qA} {T : List (Nat × Nat)} {m : Nat → Int → Int} {r : Nat → Int → Option Nat} {Q : qA → qM → Prop} {a : Int} {b : Nat} {c : List Nat} {nx : Nat} {x y : Int} (hc : qcd k pc = some (8, a, b, c, nx)) (h : qin (x * y)) (w : qW k nx L (qI (x * y) :: S) (T, m, r) Q) : qW k pc L (qI y :: qI x :: S) (T, m, r) Q := by
  exact qW_step hc (by decide) (by simp only [qstep, if_pos h]) w
theorem qr_div {k pc : Nat} {L S : List qA} {T : List (Nat × Nat)} {m : Nat → Int → Int} {r : Nat → Int → Option Nat} {Q : qA → qM → Prop} {a : Int} {b : Nat} {c : List Nat} {nx : Nat} {x y : Int} (hc : qcd k pc = some (9, a, b, c, nx)) (h : 0 ≤ x ∧ 0 < y) (w : qW k nx L (qI (x / y) :: S) (T, m, r) Q) : qW k pc L (qI y :: qI x :: S) (T, m, r) Q := by
  exact qW_step hc (by decide) (by simp only [qstep, if_pos h]) w
theorem qr_rem {k pc : Nat} {L S : List qA} {T : List (Nat × Nat)} {m : Nat → Int → Int} {r : Nat → Int → Option Nat} {Q : qA → qM → Prop} {a : Int} {b : Nat} {c : List Nat} {nx : Nat} {x y : Int} (hc : qcd k pc = some (10, a, b, c, nx)) (h : 0 ≤ x ∧ 0 < y) (w : qW k nx L (qI (x % y) :: S) (T, m, r) Q) : qW k pc L (qI y :: qI x :: S) (T, m, r) Q := by
  exact qW_step hc (by decide) (by simp only [qstep, if_pos h]) w
theorem qr_dup {k pc : Nat} {L S : List qA} {T : List (Nat × Nat)} {m : Nat → Int → Int} {r : Nat → Int → Option Nat} {Q : qA → qM → Prop} {a : Int} {b : Nat} {c : List Nat} {nx : Nat} {x : Int ⊕ Nat} (hc : qcd k pc = some (12, a, b, c, nx))  (w : qW k nx L (some x :: some x :: S) (T, m, r) Q) : qW k pc L (some x :: S) (T, m, r) Q := by
  exact qW_step hc (by decide) rfl w
theorem qr_dup2 {k pc : Nat} {L S : List qA} {T : List (Nat × Nat)} {m : Nat → Int → Int} {r : Nat → Int → Option Nat} {Q : qA → qM → Prop} {a : Int} {b : Nat} {c : List Nat} {nx : Nat} {x y : Int ⊕ Nat} (hc : qcd k pc = some (13, a, b, c, nx))  (w : qW k nx L (some x :: some y :: some x :: some y :: S) (T, m, r) Q) : qW k pc L (some x :: some y :: S) (T, m, r) Q := by
  exact qW_step hc (by decide) rfl w
theorem qr_pop {k pc : Nat} {L S : List qA} {T : List (Nat × Nat)} {m : Nat → Int → Int} {r : Nat → Int → Option Nat} {Q : qA → qM → Prop} {a : Int} {b : Nat} {c : List Nat} {nx : Nat} {x : Int ⊕ Nat} (hc : qcd k pc = some (14, a, b, c, nx))  (w : qW k nx L S (T, m, r) Q) : qW k pc L (some x :: S) (T, m, r) Q := by
  exact qW_step hc (by decide) rfl w
theorem qr_goto {k pc : Nat} {L S : List qA} {T : List (Nat × Nat)} {m : Nat → Int → Int} {r : Nat → Int → Option Nat} {Q : qA → qM → Prop} {a : Int} {b : Nat} {c : List Nat} {nx : Nat}  (hc : qcd k pc = some (15, a, b, c, nx))  (w : qW k b L S (T, m, r) Q) : qW k pc L S (T, m, r) Q := by
  exact qW_step hc (by decide) rfl w
theorem qr_iceq {k pc : Nat} {L S : List qA} {T : List (Nat × Nat)} {m : Nat → Int → Int} {r : Nat → Int → Option Nat} {Q : qA → qM → Prop} {b : Nat} {c : List Nat} {nx : Nat} {x y : Int} (hc : qcd k pc = some (16, 0, b, c, nx)) (kt : x = y → qW k b L S (T, m, r) Q) (kf : x ≠ y → qW k nx L S (T, m, r) Q) : qW k pc L (qI y :: qI x :: S) (T, m, r) Q := by
  by_cases h : x = y
  · exact qW_step hc (by decide) (by simp [qstep, qcmp, h]) (kt h)
  · exact qW_step hc (by decide) (by simp [qstep, qcmp, h]) (kf (by omega))
theorem qr_ifeq {k pc : Nat} {L S : List qA} {T : List (Nat × Nat)} {m : Nat → Int → Int} {r : Nat → Int → Option Nat} {Q : qA → qM → Prop} {b : Nat} {c : List Nat} {nx : Nat} {x : Int} (hc : qcd k pc = some (17, 0, b, c, nx)) (kt : x = 0 → qW k b L S (T, m, r) Q) (kf : x ≠ 0 → qW k nx L S (T, m, r) Q) : qW k pc L (qI x :: S) (T, m, r) Q := by
  by_cases h : x = 0
  · exact qW_step hc (by decide) (by simp [qstep, qcmp, h]) (kt h)
  · exact qW_step hc (by decide) (by simp [qstep, qcmp, h]) (kf (by omega))
theorem qr_icne {k pc : Nat} {L S : List qA} {T : List (Nat × Nat)} {m : Nat → Int → Int} {r : Nat → Int → Option Nat} {Q : qA → qM → Prop} {b : Nat} {c : List Nat} {nx : Nat} {x y : Int} (hc : qcd k pc = some (16, 1, b, c, nx)) (kt : x ≠ y → qW k b L S (T, m, r) Q) (kf : x = y → qW k nx L S (T, m, r) Q) : qW k pc L (qI y :: qI x :: S) (T, m, r) Q := by
  by_cases h : x ≠ y
  · exact qW_step hc (by decide) (by simp [qstep, qcmp, h]) (kt h)
  · exact qW_step hc (by decide) (by simp [qstep, qcmp, h]) (kf (by omega))
theorem qr_ifne {k pc : Nat} {L S : List qA} {T : List (Nat × Nat)} {m : Nat → Int → Int} {r : Nat → Int → Option Nat} {Q : qA → qM → Prop} {b : Nat} {c : List Nat} {nx : Nat} {x : Int} (hc : qcd k pc = some (17, 1, b, c, nx)) (kt : x ≠ 0 → qW k b L S (T, m, r) Q) (kf : x = 0 → qW k nx L S (T, m, r) Q) : qW k pc L (qI x :: S) (T, m, r) Q := by
  by_cases h : x ≠ 0
  · exact qW_step hc (by decide) (by simp [qstep, qcmp, h]) (kt h)
  · exact qW_step hc (by decide) (by simp [qstep, qcmp, h]) (kf (by omega))
theorem qr_iclt {k pc : Nat} {L S : List qA} {T : List (Nat × Nat)} {m : Nat → Int → Int} {r : Nat → Int → Option Nat} {Q : qA → qM → Prop} {b : Nat} {c : List Nat} {nx : Nat} {x y : Int} (hc : qcd k pc = some (16, 2, b, c, nx)) (kt : x < y → qW k b L S (T, m, r) Q) (kf : y ≤ x → qW k nx L S (T, m, r) Q) : qW k pc L (qI y :: qI x :: S) (T, m, r) Q := by
  by_cases h : x < y
  · exact qW_step hc (by decide) (by simp [qstep, qcmp, h]) (kt h)
  · exact qW_step hc (by decide) (by simp [qstep, qcmp, h]) (kf (by omega))
theorem qr_iflt {k pc : Nat} {L S : List qA} {T : List (Nat × Nat)} {m : Nat → Int → Int} {r : Nat → Int → Option Nat} {Q : qA → qM → Prop} {b : Nat} {c : List Nat} {nx : Nat} {x : Int} (hc : qcd k pc = some (17, 2, b, c, nx)) (kt : x < 0 → qW k b L S (T, m, r) Q) (kf : 0 ≤ x → qW k nx L S (T, m, r) Q) : qW k pc L (qI x :: S) (T, m, r) Q := by
  by_cases h : x < 0
  · exact qW_step hc (by decide) (by simp [qstep, qcmp, h]) (kt h)
  · exact qW_step hc (by decide) (by simp [qstep, qcmp, h]) (kf (by omega))
theorem qr_icge {k pc : Nat} {L S : List qA} {T : List (Nat × Nat)} {m : Nat → Int → Int} {r : Nat → Int → Option Nat} {Q : qA → qM → Prop} {b : Nat} {c : List Nat} {nx : Nat} {x y : Int} (hc : qcd k pc = some (16, 3, b, c, nx)) (kt : y ≤ x → qW k b L S (T, m, r) Q) (kf : x < y → qW k nx L S (T, m, r) Q) : qW k pc L (qI y :: qI x :: S) (T, m, r) Q := by
  by_cases h : y ≤ x
  · exact qW_step hc (by decide) (by simp [qstep, qcmp, h]) (kt h)
  · exact qW_step hc (by decide) (by simp [qstep, qcmp, h]) (kf (by omega))
theorem qr_ifge {k pc : Nat} {L S : List qA} {T : List (Nat × Nat)} {m : Nat → Int → Int} {r : Nat → Int → Option Nat} {Q : qA → qM → Prop} {b : Nat} {c : List Nat} {nx : Nat} {x : Int} (hc : qcd k pc = some (17, 3, b, c, nx)) (kt : 0 ≤ x → qW k b L S (T, m, r) Q) (kf : x < 0 → qW k nx L S (T, m, r) Q) : qW k pc L (qI x :: S) (T, m, r) Q := by
  by_cases h : 0 ≤ x
  · exact qW_step hc (by decide) (by simp [qstep, qcmp, h]) (kt h)
  · exact qW_step hc (by decide) (by simp [qstep, qcmp, h]) (kf (by omega))
theorem qr_icgt {k pc : Nat} {L S : List qA} {T : List (Nat × Nat)} {m : Nat → Int → Int} {r : Nat → Int → Option Nat} {Q : qA → qM → Prop} {b : Nat} {c : List Nat} {nx : Nat} {x y : Int} (hc : qcd k pc = some (16, 4, b, c, nx)) (kt : y < x → qW k b L S (T, m, r) Q) (kf : x ≤ y → qW k nx L S (T, m, r) Q) : qW k pc L (qI y :: qI x :: S) (T, m, r) Q := by
  by_cases h : y < x
  · exact qW_step hc (by decide) (by simp [qstep, qcmp, h]) (kt h)
  · exact qW_step hc (by decide) (by simp [qstep, qcmp, h]) (kf (by omega))
theorem qr_ifgt {k pc : Nat} {L S : List qA} {T : List (Nat × Nat)} {m : Nat → Int → Int} {r : Nat → Int → Option Nat} {Q : qA → qM → Prop} {b : Nat} {c : List Nat} {nx : Nat} {x : Int} (hc : qcd k pc = some (17, 4, b, c, nx)) (kt : 0 < x → qW k b L S (T, m, r) Q) (kf : x ≤ 0 → qW k nx L S (T, m, r) Q) : qW k pc L (qI x :: S) (T, m, r) Q := by
  by_cases h : 0 < x
  · exact qW_step hc (by decide) (by simp [qstep, qcmp, h]) (kt h)
  · exact qW_step hc (by decide) (by simp [qstep, qcmp, h]) (kf (by omega))
theorem qr_icle {k pc : Nat} {L S : List qA} {T : List (Nat × Nat)} {m : Nat → Int → Int} {r : Nat → Int → Option Nat} {Q : qA → qM → Prop} {b : Nat} {c : List Nat} {nx : Nat} {x y : Int} (hc : qcd k pc = some (16, 5, b, c, nx)) (kt : x ≤ y → qW k b L S (T, m, r) Q) (kf : y < x → qW k nx L S (T, m, r) Q) : qW k pc L (qI y :: qI x :: S) (T, m, r) Q := by
  by_cases h : x ≤ y
  · exact qW_step hc (by decide) (by simp [qstep, qcmp, h]) (kt h)
  · exact qW_step hc (by decide) (by simp [qstep, qcmp, h]) (kf (by omega))
theorem qr_ifle {k pc : Nat} {L S : List qA} {T : List (Nat × Nat)} {m : Nat → Int → Int} {r : Nat → Int → Option Nat} {Q : qA → qM → Prop} {b : Nat} {c : List Nat} {nx : Nat} {x : Int} (hc : qcd k pc = some (17, 5, b, c, nx)) (kt : x ≤ 0 → qW k b L S (T, m, r) Q) (kf : 0 < x → qW k nx L S (T, m, r) Q) : qW k pc L (qI x :: S) (T, m, r) Q := by
  by_cases h : x ≤ 0
  · exact qW_step hc (by decide) (by simp [qstep, qcmp, h]) (kt h)
  · exact qW_step hc (by decide) (by simp [qstep, qcmp, h]) (kf (by omega))
def qbi (b : Bool) : Int := if b = true then 1 else 0
theorem qbi_t : qbi true = 1 := rfl
theorem qbi_f : qbi false = 0 := rfl
theorem qr_ifeqB {k pc : Nat} {L S : List qA} {T : List (Nat × Nat)} {m : Nat → Int → Int} {r : Nat → Int → Option Nat} {Q : qA → qM → Prop} {b : Nat} {c : List Nat} {nx : Nat} {x : Bool} (hc : qcd k pc = some (17, 0, b, c, nx)) (kt : x = false → qW k b L S (T, m, r) Q) (kf : x = true → qW k nx L S (T, m, r) Q) : qW k pc L (qI (qbi x) :: S) (T, m, r) Q := by
  refine qr_ifeq hc (fun h => kt ?_) (fun h => kf ?_)
  · cases x <;> first | rfl | exact absurd h (by decide)
  · cases x <;> first | rfl | exact absurd rfl h
theorem qr_ifneB {k pc : Nat} {L S : List qA} {T : List (Nat × Nat)} {m : Nat → Int → Int} {r : Nat → Int → Option Nat} {Q : qA → qM → Prop} {b : Nat} {c : List Nat} {nx : Nat} {x : Bool} (hc : qcd k pc = some (17, 1, b, c, nx)) (kt : x = true → qW k b L S (T, m, r) Q) (kf : x = false → qW k nx L S (T, m, r) Q) : qW k pc L (qI (qbi x) :: S) (T, m, r) Q := by
  refine qr_ifne hc (fun h => kt ?_) (fun h => kf ?_)
  · cases x <;> first | rfl | exact absurd rfl h
  · cases x <;> first | rfl | exact absurd h (by decide)
theorem qr_nul {k pc : Nat} {L S : List qA} {T : List (Nat × Nat)} {m : Nat → Int → Int} {r : Nat → Int → Option Nat} {Q : qA → qM → Prop} {a : Int} {b : Nat} {c : List Nat} {nx : Nat} {x : Nat} (hc : qcd k pc = some (18, a, b, c, nx))  (w : qW k nx L S (T, m, r) Q) : qW k pc L (qK x :: S) (T, m, r) Q := by
  exact qW_step hc (by decide) rfl w
theorem qr_nnul {k pc : Nat} {L S : List qA} {T : List (Nat × Nat)} {m : Nat → Int → Int} {r : Nat → Int → Option Nat} {Q : qA → qM → Prop} {a : Int} {b : Nat} {c : List Nat} {nx : Nat} {x : Nat} (hc : qcd k pc = some (19, a, b, c, nx))  (w : qW k b L S (T, m, r) Q) : qW k pc L (qK x :: S) (T, m, r) Q := by
  exact qW_step hc (by decide) rfl w
theorem qr_swin {k pc : Nat} {L S : List qA} {T : List (Nat × Nat)} {m : Nat → Int → Int} {r : Nat → Int → Option Nat} {Q : qA → qM → Prop} {a : Int} {b : Nat} {c : List Nat} {nx : Nat} {x : Int} {t : Nat} (hc : qcd k pc = some (20, a, b, c, nx)) (ha : a ≤ x) (h : c[(x - a).toNat]? = some t) (w : qW k t L S (T, m, r) Q) : qW k pc L (qI x :: S) (T, m, r) Q := by
  have h1 := (List.getElem?_eq_some_iff.mp h).1
  have h2 : a ≤ x ∧ x < a + c.length := ⟨ha, by omega⟩
  exact qW_step hc (by decide) (by simp only [qstep, if_pos h2, List.getD_eq_getElem?_getD, h, Option.getD_some]) w
theorem qr_swout {k pc : Nat} {L S : List qA} {T : List (Nat × Nat)} {m : Nat → Int → Int} {r : Nat → Int → Option Nat} {Q : qA → qM → Prop} {a : Int} {b : Nat} {c : List Nat} {nx : Nat} {x : Int} (hc : qcd k pc = some (20, a, b, c, nx)) (h : x < a ∨ a + c.length ≤ x) (w : qW k b L S (T, m, r) Q) : qW k pc L (qI x :: S) (T, m, r) Q := by
  have h2 : ¬ (a ≤ x ∧ x < a + c.length) := by omega
  exact qW_step hc (by decide) (by simp only [qstep, if_neg h2]) w
theorem qr_gi {k pc : Nat} {L S : List qA} {T : List (Nat × Nat)} {m : Nat → Int → Int} {r : Nat → Int → Option Nat} {Q : qA → qM → Prop} {a : Int} {b : Nat} {nx : Nat} {z ci : Nat} (hc : qcd k pc = some (21, a, b, [ci], nx)) (hk : T[z]? = some (0, ci)) (hf : 0 ≤ a ∧ (qfs ci)[a.toNat]? = some false := by decide) (w : qW k nx L (qI (m z a) :: S) (T, m, r) Q) : qW k pc L (qK z :: S) (T, m, r) Q := by
  exact qW_step hc (by decide) (by simp only [qstep, List.headD_cons, hk, hf, and_self, if_true]) w
theorem qr_gr {k pc : Nat} {L S : List qA} {T : List (Nat × Nat)} {m : Nat → Int → Int} {r : Nat → Int → Option Nat} {Q : qA → qM → Prop} {a : Int} {b : Nat} {nx : Nat} {z ci y : Nat} (hc : qcd k pc = some (22, a, b, [ci], nx)) (hk : T[z]? = some (0, ci)) (hf : 0 ≤ a ∧ (qfs ci)[a.toNat]? = some true := by decide) (hr : r z a = some y) (w : qW k nx L (qK y :: S) (T, m, r) Q) : qW k pc L (qK z :: S) (T, m, r) Q := by
  exact qW_step hc (by decide) (by simp only [qstep, List.headD_cons, hk, hf, hr, and_self, if_true]) w
theorem qr_pi {k pc : Nat} {L S : List qA} {T : List (Nat × Nat)} {m : Nat → Int → Int} {r : Nat → Int → Option Nat} {Q : qA → qM → Prop} {a : Int} {b : Nat} {nx : Nat} {z ci : Nat} {x : Int} (hc : qcd k pc = some (23, a, b, [ci], nx)) (hk : T[z]? = some (0, ci)) (hf : 0 ≤ a ∧ (qfs ci)[a.toNat]? = some false := by decide) (w : qW k nx L S (T, qup m z a x, r) Q) : qW k pc L (qI x :: qK z :: S) (T, m, r) Q := by
  exact qW_step hc (by decide) (by simp only [qstep, List.headD_cons, hk, hf, and_self, if_true]) w
theorem qr_pr {k pc : Nat} {L S : List qA} {T : List (Nat × Nat)} {m : Nat → Int → Int} {r : Nat → Int → Option Nat} {Q : qA → qM → Prop} {a : Int} {b : Nat} {nx : Nat} {z ci y : Nat} (hc : qcd k pc = some (24, a, b, [ci], nx)) (hk : T[z]? = some (0, ci)) (hf : 0 ≤ a ∧ (qfs ci)[a.toNat]? = some true := by decide) (w : qW k nx L S (T, m, qup r z a (some y)) Q) : qW k pc L (qK y :: qK z :: S) (T, m, r) Q := by
  exact qW_step hc (by decide) (by simp only [qstep, List.headD_cons, hk, hf, and_self, if_true]) w
theorem qr_ia {k pc : Nat} {L S : List qA} {T : List (Nat × Nat)} {m : Nat → Int → Int} {r : Nat → Int → Option Nat} {Q : qA → qM → Prop} {a : Int} {b : Nat} {c : List Nat} {nx : Nat} {z n : Nat} {i : Int} (hc : qcd k pc = some (25, a, b, c, nx)) (hk : T[z]? = some (1, n)) (h : 0 ≤ i ∧ i < n) (w : qW k nx L (qI (m z i) :: S) (T, m, r) Q) : qW k pc L (qI i :: qK z :: S) (T, m, r) Q := by
  exact qW_step hc (by decide) (by simp only [qstep, hk, if_pos h]) w
theorem qr_ias {k pc : Nat} {L S : List qA} {T : List (Nat × Nat)} {m : Nat → Int → Int} {r : Nat → Int → Option Nat} {Q : qA → qM → Prop} {a : Int} {b : Nat} {c : List Nat} {nx : Nat} {z n : Nat} {i x : Int} (hc : qcd k pc = some (26, a, b, c, nx)) (hk : T[z]? = some (1, n)) (h : 0 ≤ i ∧ i < n) (w : qW k nx L S (T, qup m z i x, r) Q) : qW k pc L (qI x :: qI i :: qK z :: S) (T, m, r) Q := by
  exact qW_step hc (by decide) (by simp only [qstep, hk, if_pos h]) w
theorem qr_aa {k pc : Nat} {L S : List qA} {T : List (Nat × Nat)} {m : Nat → Int → Int} {r : Nat → Int → Option Nat} {Q : qA → qM → Prop} {a : Int} {b : Nat} {c : List Nat} {nx : Nat} {z ci n y : Nat} {i : Int} (hc : qcd k pc = some (27, a, b, c, nx)) (hk : T[z]? = some (ci + 2, n)) (h : 0 ≤ i ∧ i < n) (hr : r z i = some y) (w : qW k nx L (qK y :: S) (T, m, r) Q) : qW k pc L (qI i :: qK z :: S) (T, m, r) Q := by
  exact qW_step hc (by decide) (by simp only [qstep, hk, if_pos h, hr]) w
theorem qr_aas {k pc : Nat} {L S : List qA} {T : List (Nat × Nat)} {m : Nat → Int → Int} {r : Nat → Int → Option Nat} {Q : qA → qM → Prop} {a : Int} {b : Nat} {c : List Nat} {nx : Nat} {z ci n y : Nat} {i : Int} (hc : qcd k pc = some (28, a, b, c, nx)) (hk : T[z]? = some (ci + 2, n)) (h : 0 ≤ i ∧ i < n ∧ T[y]? = some (0, ci)) (w : qW k nx L S (T, m, qup r z i (some y)) Q) : qW k pc L (qK y :: qI i :: qK z :: S) (T, m, r) Q := by
  exact qW_step hc (by decide) (by simp only [qstep, hk, if_pos h]) w
theorem qr_len {k pc : Nat} {L S : List qA} {T : List (Nat × Nat)} {m : Nat → Int → Int} {r : Nat → Int → Option Nat} {Q : qA → qM → Prop} {a : Int} {b : Nat} {c : List Nat} {nx : Nat} {z t n : Nat} (hc : qcd k pc = some (29, a, b, c, nx)) (hk : T[z]? = some (t + 1, n)) (w : qW k nx L (qI n :: S) (T, m, r) Q) : qW k pc L (qK z :: S) (T, m, r) Q := by
  exact qW_step hc (by decide) (by simp only [qstep, hk]) w
theorem qhn {b n l : Nat} (h : (Nat.ble b n && Nat.ble n (b + 8) && Nat.ble b l) = true) : b ≤ n ∧ n ≤ b + 8 ∧ b ≤ l := by
  simp only [Bool.and_eq_true] at h
  exact ⟨Nat.le_of_ble_eq_true h.1.1, Nat.le_of_ble_eq_true h.1.2, Nat.le_of_ble_eq_true h.2⟩
/-- a call of a method that answers a value and keeps the memory -/
theorem qr_callP {k pc : Nat} {L S : List qA} {T : List (Nat × Nat)} {m : Nat → Int → Int} {r : Nat → Int → Option Nat} {Q : qA → qM → Prop} {a : Int} {b : Nat} {c : List Nat} {nx : Nat} {L0 : List qA} {v : Int ⊕ Nat} (hc : qcd k pc = some (40, a, b, c, nx)) (h1 : qP b L0 (T, m, r) (some v)) (hr : qrcv b (S.take (qNa b)).reverse (T, m, r) = true) (hn : (Nat.ble (qNa b) S.length && Nat.ble S.length (qNa b + 8) && Nat.ble (qNa b) (qNl b)) = true := by rfl) (hL : qent b (S.take (qNa b)).reverse = L0 := by rfl) (ht : qRt b ≠ 0 := by decide)
    (w : qW k nx L (some v :: S.drop (qNa b)) (T, m, r) Q) : qW k pc L S (T, m, r) Q := by
  refine qW_call hc (qhn hn) hr hL h1 (fun x σ' hx => ?_)
  obtain ⟨rfl, rfl⟩ := hx
  rw [if_neg ht]
  exact w
/-- a call of a method that answers something -/
theorem qr_callA {k pc : Nat} {L S : List qA} {T : List (Nat × Nat)} {m : Nat → Int → Int} {r : Nat → Int → Option Nat} {Q : qA → qM → Prop} {a : Int} {b : Nat} {c : List Nat} {nx : Nat} {L0 : List qA} {Q1 : qA → qM → Prop} (hc : qcd k pc = some (40, a, b, c, nx)) (h1 : qW b 0 L0 [] (T, m, r) Q1) (hr : qrcv b (S.take (qNa b)).reverse (T, m, r) = true) (hn : (Nat.ble (qNa b) S.length && Nat.ble S.length (qNa b + 8) && Nat.ble (qNa b) (qNl b)) = true := by rfl) (hL : qent b (S.take (qNa b)).reverse = L0 := by rfl) (ht : qRt b ≠ 0 := by decide)
    (w : ∀ x σ', Q1 x σ' → qW k nx L (x :: S.drop (qNa b)) σ' Q) : qW k pc L S (T, m, r) Q := by
  refine qW_call hc (qhn hn) hr hL h1 (fun x σ' hx => ?_)
  rw [if_neg ht]
  exact w x σ' hx
/-- a call of a method that answers nothing -/
theorem qr_callV {k pc : Nat} {L S : List qA} {T : List (Nat × Nat)} {m : Nat → Int → Int} {r : Nat → Int → Option Nat} {Q : qA → qM → Prop} {a : Int} {b : Nat} {c : List Nat} {nx : Nat} {L0 : List qA} {Q1 : qA → qM → Prop} (hc : qcd k pc = some (40, a, b, c, nx)) (h1 : qW b 0 L0 [] (T, m, r) Q1) (hr : qrcv b (S.take (qNa b)).reverse (T, m, r) = true) (hn : (Nat.ble (qNa b) S.length && Nat.ble S.length (qNa b + 8) && Nat.ble (qNa b) (qNl b)) = true := by rfl) (hL : qent b (S.take (qNa b)).reverse = L0 := by rfl) (ht : qRt b = 0 := by decide)
    (w : ∀ x σ', Q1 x σ' → qW k nx L (S.drop (qNa b)) σ' Q) : qW k pc L S (T, m, r) Q := by
  refine qW_call hc (qhn hn) hr hL h1 (fun x σ' hx => ?_)
  rw [if_pos ht]
  exact w x σ' hx
theorem qrcv1 {b z ci : Nat} {as : List qA} {T : List (Nat × Nat)} {m : Nat → Int → Int} {r : Nat → Int → Option Nat} (h : T[z]? = some (0, ci)) (hk : qKi b = 1 := by rfl) (hc : qCl b = ci := by rfl) : qrcv b (qK z :: as) (T, m, r) = true := by
  unfold qrcv
  rw [hk]
  simp only [hc, h, decide_true]
end
section
/-! What the two constructors make -/
def qT0 : List (Nat × Nat) := [(0, 7), (0, 4), (1, 80), (0, 4), (1, 100), (0, 3), (0, 2), (0, 4), (1, 86), (0, 4), (1, 86), (0, 0), (0, 4), (1, 26), (0, 4), (1, 10), (0, 5), (2, 40), (0, 0), (0, 4), (1, 26), (0, 0), (0, 4), (1, 26), (0, 0), (0, 4), (1, 26), (0, 0), (0, 4), (1, 26), (0, 0), (0, 4), (1, 26), (0, 0), (0, 4), (1, 26), (0, 0), (0, 4), (1, 26), (0, 0), (0, 4), (1, 26), (0, 0), (0, 4), (1, 26), (0, 0), (0, 4), (1, 26), (0, 0), (0, 4), (1, 26), (0, 0), (0, 4), (1, 26), (0, 0), (0, 4), (1, 26), (0, 0), (0, 4), (1, 26), (0, 0), (0, 4), (1, 26), (0, 0), (0, 4), (1, 26), (0, 0), (0, 4), (1, 26), (0, 0), (0, 4), (1, 26), (0, 0), (0, 4), (1, 26), (0, 0), (0, 4), (1, 26), (0, 0), (0, 4), (1, 26), (0, 0), (0, 4), (1, 26), (0, 0), (0, 4), (1, 26), (0, 0), (0, 4), (1, 26), (0, 0), (0, 4), (1, 26), (0, 0), (0, 4), (1, 26), (0, 0), (0, 4), (1, 26), (0, 0), (0, 4), (1, 26), (0, 0), (0, 4), (1, 26), (0, 0), (0, 4), (1, 26), (0, 0), (0, 4), (1, 26), (0, 0), (0, 4), (1, 26), (0, 0), (0, 4), (1, 26), (0, 0), (0, 4), (1, 26), (0, 0), (0, 4), (1, 26), (0, 0), (0, 4), (1, 26), (0, 0), (0, 4), (1, 26), (0, 0), (0, 4), (1, 26), (0, 0), (0, 4), (1, 26), (0, 0), (0, 4), (1, 26), (0, 0), (0, 4), (1, 26), (0, 0), (0, 4), (1, 26), (0, 6), (0, 4), (1, 30), (0, 4), (1, 300), (0, 1), (8, 5), (0, 6), (0, 4), (1, 30), (0, 4), (1, 300), (0, 6), (0, 4), (1, 30), (0, 4), (1, 300), (0, 6), (0, 4), (1, 30), (0, 4), (1, 300), (0, 6), (0, 4), (1, 30), (0, 4), (1, 300), (0, 6), (0, 4), (1, 30), (0, 4), (1, 300), (0, 8), (1, 1294), (1, 6470), (1, 1294), (1, 80), (1, 160), (1, 8), (1, 40), (1, 40), (1, 40), (1, 5), (1, 20)]
def qL0 : List (List (Option Nat)) := [[some 1, some 3, some 5, some 6, some 16, some 141, some 144, some 149], [some 2], [], [some 4], [], [some 6, some 11, some 14], [some 7, some 9], [some 8], [], [some 10], [], [some 12], [some 13], [], [some 15], [], [some 17, some 138], [some 18, some 21, some 24, some 27, some 30, some 33, some 36, some 39, some 42, some 45, some 48, some 51, some 54, some 57, some 60, some 63, some 66, some 69, some 72, some 75, some 78, some 81, some 84, some 87, some 90, some 93, some 96, some 99, some 102, some 105, some 108, some 111, some 114, some 117, some 120, some 123, some 126, some 129, some 132, some 135], [some 19], [some 20], [], [some 22], [some 23], [], [some 25], [some 26], [], [some 28], [some 29], [], [some 31], [some 32], [], [some 34], [some 35], [], [some 37], [some 38], [], [some 40], [some 41], [], [some 43], [some 44], [], [some 46], [some 47], [], [some 49], [some 50], [], [some 52], [some 53], [], [some 55], [some 56], [], [some 58], [some 59], [], [some 61], [some 62], [], [some 64], [some 65], [], [some 67], [some 68], [], [some 70], [some 71], [], [some 73], [some 74], [], [some 76], [some 77], [], [some 79], [some 80], [], [some 82], [some 83], [], [some 85], [some 86], [], [some 88], [some 89], [], [some 91], [some 92], [], [some 94], [some 95], [], [some 97], [some 98], [], [some 100], [some 101], [], [some 103], [some 104], [], [some 106], [some 107], [], [some 109], [some 110], [], [some 112], [some 113], [], [some 115], [some 116], [], [some 118], [some 119], [], [some 121], [some 122], [], [some 124], [some 125], [], [some 127], [some 128], [], [some 130], [some 131], [], [some 133], [some 134], [], [some 136], [some 137], [], [some 139], [some 140], [], [some 142], [some 143], [], [some 145, some 147], [some 146], [], [some 148], [], [some 150], [some 151, some 156, some 161, some 166, some 171], [some 152, some 154], [some 153], [], [some 155], [], [some 157, some 159], [some 158], [], [some 160], [], [some 162, some 164], [some 163], [], [some 165], [], [some 167, some 169], [some 168], [], [some 170], [], [some 172, some 174], [some 173], [], [some 175], [], [some 177, some 178, none, some 179, some 180, none, some 181, none, some 182, some 183, some 184, some 185, none, some 186, none, none, none, some 187, none], [], [], [], [], [], [], [], [], [], [], []]
def qr0 (k : Nat) (j : Int) : Option Nat := if 0 ≤ j then ((qL0.getD k [])[j.toNat]?).join else none
def qs0 : qM := ([(0, 7)], fun _ _ => 0, fun _ _ => none)
def qrun1 : Option (qA × qM) := qev 6000 m_LR_init 0 [qK 0] [] qs0
def qs1 : qM := match qrun1 with
  | some x => x.2
  | none => qs0
def qrun2 : Option (qA × qM) := qev 200 m_Mo_init 0 (qent m_Mo_init [qK 176]) [] (qold qs1 (0, 8))
def qs2 : qM := match qrun2 with
  | some x => x.2
  | none => qs0
theorem qrun1_T : qrun1.map (fun x => (x.1, x.2.1)) = some (none, qT0.take 176) := by decide +kernel
end
section
/-! Row: a list of numbers with room. qRow: its cells; qRw m z l: it holds l -/
def qRow (T : List (Nat × Nat)) (r : Nat → Int → Option Nat) (z n : Nat) : Prop := T[z]? = some (0, 4) ∧ T[z + 1]? = some (1, n) ∧ r z 0 = some (z + 1) ∧ n ≤ 1000
def qRw (m : Nat → Int → Int) (z : Nat) (l : List Int) : Prop := m z 1 = l.length ∧ ∀ i : Nat, i < l.length → m (z + 1) i = l.getD i 0
/-- an element, -9 outside -/
def qAt (l : List Int) (i : Int) : Int := if 0 ≤ i ∧ i < l.length then l.getD i.toNat 0 else -9
/-- the memory outside some cells is kept -/
def qFr (P : Nat → Prop) (m m' : Nat → Int → Int) : Prop := ∀ a, ¬ P a → m' a = m a
theorem qFr_rf {P : Nat → Prop} {m : Nat → Int → Int} : qFr P m m := fun _ _ => rfl
theorem qFr_tr {P : Nat → Prop} {m m1 m2 : Nat → Int → Int} (h : qFr P m m1) (g : qFr P m1 m2) : qFr P m m2 := fun a ha => (g a ha).trans (h a ha)
theorem qFr_mo {P P' : Nat → Prop} {m m' : Nat → Int → Int} (h : qFr P m m') (g : ∀ a, P a → P' a) : qFr P' m m' := fun a ha => h a (fun x => ha (g a x))
theorem qFr_up {P : Nat → Prop} {m : Nat → Int → Int} {z : Nat} {i x : Int} (h : P z) : qFr P m (qup m z i x) := fun a ha => by
  funext j
  have hne : a ≠ z := fun e => ha (e ▸ h)
  simp [qup, hne]
theorem qRw_fr {P : Nat → Prop} {m m' : Nat → Int → Int} {z : Nat} {l : List Int} (h : qRw m z l) (f : qFr P m m') (h1 : ¬ P z) (h2 : ¬ P (z + 1)) : qRw m' z l :=
  ⟨by rw [f z h1]; exact h.1, fun i hi => by rw [f (z + 1) h2]; exact h.2 i hi⟩
theorem qup_s {m : Nat → Int → Int} {z : Nat} {i x : Int} : qup m z i x z i = x := by simp [qup]
theorem qup_i {m : Nat → Int → Int} {z : Nat} {i j x : Int} (h : j ≠ i) : qup m z i x z j = m z j := by simp [qup, h]
theorem qup_z {m : Nat → Int → Int} {z y : Nat} {i j x : Int} (h : y ≠ z) : qup m z i x y j = m y j := by simp [qup, h]
abbrev qPz (z : Nat) : Nat → Prop := fun a => a = z ∨ a = z + 1
variable {T : List (Nat × Nat)} {m : Nat → Int → Int} {r : Nat → Int → Option Nat}
theorem sRow_size {z n : Nat} (h : qRow T r z n) : qP m_Row_size [qK z] (T, m, r) (qI (m z 1)) := by
  refine qr_al rfl rfl (w := ?_)
  refine qr_gi rfl h.1 (w := ?_)
  refine qW_ireturn rfl ?_
  exact ⟨rfl, rfl⟩
theorem sRow_isInside {z n : Nat} {i : Int} (h : qRow T r z n) : qP m_Row_isInside [qK z, qI i] (T, m, r) (qI (qbi (decide (0 ≤ i ∧ i < m z 1 ∧ i < n)))) := by
  refine qr_il rfl rfl (w := ?_)
  refine qr_iflt rfl (fun hc => ?_) (fun hc => ?_)
  · refine qr_const rfl (w := ?_)
    refine qW_zreturn rfl (by first | exact Or.inl rfl | exact Or.inr rfl | (simp only [qbi]; split <;> simp)) ?_
    refine ⟨congrArg qI ?_, rfl⟩
    simp only [qbi]
    first | (rw [if_pos (decide_eq_true (by omega))]; done) | (rw [if_neg (fun h9 => by have := of_decide_eq_true h9; omega)]; done)
  · refine qr_il rfl rfl (w := ?_)
    refine qr_al rfl rfl (w := ?_)
    refine qr_gi rfl h.1 (w := ?_)
    refine qr_icge rfl (fun hcf => ?_) (fun hcf => ?_)
    · refine qr_const rfl (w := ?_)
      refine qW_zreturn rfl (by first | exact Or.inl rfl | exact Or.inr rfl | (simp only [qbi]; split <;> simp)) ?_
      refine ⟨congrArg qI ?_, rfl⟩
      simp only [qbi]
      first | (rw [if_pos (decide_eq_true (by omega))]; done) | (rw [if_neg (fun h9 => by have := of_decide_eq_true h9; omega)]; done)
    · refine qr_il rfl rfl (w := ?_)
      refine qr_al rfl rfl (w := ?_)
      refine qr_gr rfl h.1 (hr := h.2.2.1) (w := ?_)
      refine qr_len rfl h.2.1 (w := ?_)
      refine qr_icge rfl (fun hcff => ?_) (fun hcff => ?_)
      · refine qr_const rfl (w := ?_)
        refine qW_zreturn rfl (by first | exact Or.inl rfl | exact Or.inr rfl | (simp only [qbi]; split <;> simp)) ?_
        refine ⟨congrArg qI ?_, rfl⟩
        simp only [qbi]
        first | (rw [if_pos (decide_eq_true (by omega))]; done) | (rw [if_neg (fun h9 => by have := of_decide_eq_true h9; omega)]; done)
      · refine qr_const rfl (w := ?_)
        refine qr_goto rfl (w := ?_)
        refine qW_zreturn rfl (by first | exact Or.inl rfl | exact Or.inr rfl | (simp only [qbi]; split <;> simp)) ?_
        refine ⟨congrArg qI ?_, rfl⟩
        simp only [qbi]
        first | (rw [if_pos (decide_eq_true (by omega))]; done) | (rw [if_neg (fun h9 => by have := of_decide_eq_true h9; omega)]; done)
theorem sRow_at0 {z n : Nat} {i : Int} (h : qRow T r z n) : qP m_Row_at [qK z, qI i] (T, m, r) (qI (if 0 ≤ i ∧ i < m z 1 ∧ i < n then m (z + 1) i else -9)) := by
  refine qr_al rfl rfl (w := ?_)
  refine qr_il rfl rfl (w := ?_)
  refine qr_callP rfl (sRow_isInside h) (qrcv1 h.1) (w := ?_)
  refine qr_ifeqB rfl (fun hc => ?_) (fun hc => ?_)
  · refine qr_const rfl (w := ?_)
    refine qW_ireturn rfl ?_
    refine ⟨congrArg qI ?_, rfl⟩
    first | (rw [if_pos (of_decide_eq_true hc)]; done) | (rw [if_neg (of_decide_eq_false hc)]; done)
  · refine qr_al rfl rfl (w := ?_)
    refine qr_gr rfl h.1 (hr := h.2.2.1) (w := ?_)
    refine qr_il rfl rfl (w := ?_)
    refine qr_ia rfl h.2.1 (by have := of_decide_eq_true hc; omega) (w := ?_)
    refine qr_goto rfl (w := ?_)
    refine qW_ireturn rfl ?_
    refine ⟨congrArg qI ?_, rfl⟩
    first | (rw [if_pos (of_decide_eq_true hc)]; done) | (rw [if_neg (of_decide_eq_false hc)]; done)
theorem sRow_at {z n : Nat} {i : Int} {l : List Int} (h : qRow T r z n) (hl : qRw m z l) (hn : l.length ≤ n) : qP m_Row_at [qK z, qI i] (T, m, r) (qI (qAt l i)) := by
  have h1 := sRow_at0 (m := m) (i := i) h
  have h2 : (if 0 ≤ i ∧ i < m z 1 ∧ i < n then m (z + 1) i else -9) = qAt l i := by
    unfold qAt
    rw [hl.1]
    by_cases hi : 0 ≤ i ∧ i < l.length
    · rw [if_pos hi, if_pos ⟨hi.1, hi.2, by omega⟩]
      have h3 := hl.2 i.toNat (by omega)
      rw [Int.toNat_of_nonneg hi.1] at h3
      exact h3
    · rw [if_neg hi, if_neg (by omega)]
  rw [h2] at h1
  exact h1
theorem sRow_len {z n : Nat} {l : List Int} (h : qRow T r z n) (hl : qRw m z l) : qP m_Row_size [qK z] (T, m, r) (qI l.length) := by
  have h1 := sRow_size (m := m) h
  rw [hl.1] at h1
  exact h1

theorem sRow_put0 {z n : Nat} {i x : Int} (h : qRow T r z n) : qW m_Row_put 0 [qK z, qI i, qI x] [] (T, m, r) (fun _ σ => σ = (T, (if 0 ≤ i ∧ i < m z 1 ∧ i < n then qup m (z + 1) i x else m), r)) := by
  refine qr_al rfl rfl (w := ?_)
  refine qr_il rfl rfl (w := ?_)
  refine qr_callP rfl (sRow_isInside h) (qrcv1 h.1) (w := ?_)
  refine qr_ifeqB rfl (fun hc => ?_) (fun hc => ?_)
  · refine qW_return rfl ?_
    first | (rw [if_pos (of_decide_eq_true hc)]; done) | (rw [if_neg (of_decide_eq_false hc)]; done)
  · refine qr_al rfl rfl (w := ?_)
    refine qr_gr rfl h.1 (hr := h.2.2.1) (w := ?_)
    refine qr_il rfl rfl (w := ?_)
    refine qr_il rfl rfl (w := ?_)
    refine qr_ias rfl h.2.1 (by have := of_decide_eq_true hc; omega) (w := ?_)
    refine qW_return rfl ?_
    first | (rw [if_pos (of_decide_eq_true hc)]; done) | (rw [if_neg (of_decide_eq_false hc)]; done)
theorem sRow_add0 {z n : Nat} {x : Int} (h : qRow T r z n) : qW m_Row_add 0 [qK z, qI x] [] (T, m, r) (fun _ σ => σ = (T, (if 0 ≤ m z 1 ∧ m z 1 < n then qup (qup m (z + 1) (m z 1) x) z 1 (m z 1 + 1) else m), r)) := by
  refine qr_al rfl rfl (w := ?_)
  refine qr_gi rfl h.1 (w := ?_)
  refine qr_iflt rfl (fun hc => ?_) (fun hc => ?_)
  · refine qW_return rfl ?_
    first | (rw [if_pos ⟨by omega, by omega⟩, qup_z (by omega)]; done) | (rw [if_neg (by omega)]; done)
  · refine qr_al rfl rfl (w := ?_)
    refine qr_gi rfl h.1 (w := ?_)
    refine qr_al rfl rfl (w := ?_)
    refine qr_gr rfl h.1 (hr := h.2.2.1) (w := ?_)
    refine qr_len rfl h.2.1 (w := ?_)
    refine qr_icge rfl (fun hcf => ?_) (fun hcf => ?_)
    · refine qW_return rfl ?_
      first | (rw [if_pos ⟨by omega, by omega⟩, qup_z (by omega)]; done) | (rw [if_neg (by omega)]; done)
    · refine qr_al rfl rfl (w := ?_)
      refine qr_gr rfl h.1 (hr := h.2.2.1) (w := ?_)
      refine qr_al rfl rfl (w := ?_)
      refine qr_gi rfl h.1 (w := ?_)
      refine qr_il rfl rfl (w := ?_)
      refine qr_ias rfl h.2.1 (by first | omega | (have := h.2.2.2; rw [qup_z (by omega)]; omega)) (w := ?_)
      refine qr_al rfl rfl (w := ?_)
      refine qr_dup rfl (w := ?_)
      refine qr_gi rfl h.1 (w := ?_)
      refine qr_const rfl (w := ?_)
      refine qr_add rfl (by first | omega | (have := h.2.2.2; rw [qup_z (by omega)]; omega)) (w := ?_)
      refine qr_pi rfl h.1 (w := ?_)
      refine qW_return rfl ?_
      first | (rw [if_pos ⟨by omega, by omega⟩, qup_z (by omega)]; done) | (rw [if_neg (by omega)]; done)
theorem sRow_cut0 {z n : Nat} {x : Int} (h : qRow T r z n) : qW m_Row_cutTo 0 [qK z, qI x] [] (T, m, r) (fun _ σ => σ = (T, (if 0 ≤ x ∧ x < m z 1 then qup m z 1 x else m), r)) := by
  refine qr_il rfl rfl (w := ?_)
  refine qr_iflt rfl (fun hc => ?_) (fun hc => ?_)
  · refine qW_return rfl ?_
    first | (rw [if_pos ⟨by omega, by omega⟩]; done) | (rw [if_neg (by omega)]; done)
  · refine qr_il rfl rfl (w := ?_)
    refine qr_al rfl rfl (w := ?_)
    refine qr_gi rfl h.1 (w := ?_)
    refine qr_icge rfl (fun hcf => ?_) (fun hcf => ?_)
    · refine qW_return rfl ?_
      first | (rw [if_pos ⟨by omega, by omega⟩]; done) | (rw [if_neg (by omega)]; done)
    · refine qr_al rfl rfl (w := ?_)
      refine qr_il rfl rfl (w := ?_)
      refine qr_pi rfl h.1 (w := ?_)
      refine qW_return rfl ?_
      first | (rw [if_pos ⟨by omega, by omega⟩]; done) | (rw [if_neg (by omega)]; done)
theorem sRow_add {z n : Nat} {x : Int} {l : List Int} (h : qRow T r z n) (hl : qRw m z l) (hn : l.length < n) : qW m_Row_add 0 [qK z, qI x] [] (T, m, r) (fun _ σ => ∃ m', σ = (T, m', r) ∧ qRw m' z (l ++ [x]) ∧ qFr (qPz z) m m') := by
  refine qW_mono (sRow_add0 h) (fun _ σ hσ => ⟨_, hσ, ?_⟩)
  rw [if_pos (by rw [hl.1]; omega), hl.1]
  refine ⟨⟨?_, fun i hi => ?_⟩, qFr_tr (qFr_up (Or.inr rfl)) (qFr_up (Or.inl rfl))⟩
  · rw [qup_s]; simp
  · rw [qup_z (by omega)]
    simp only [List.length_append, List.length_cons, List.length_nil] at hi
    by_cases he : i = l.length
    · subst he
      rw [qup_s]
      simp [List.getD_eq_getElem?_getD]
    · rw [qup_i (by omega), hl.2 i (by omega)]
      simp only [List.getD_eq_getElem?_getD]
      rw [List.getElem?_append_left (by omega)]
theorem sRow_cut {z n : Nat} {k : Nat} {l : List Int} (h : qRow T r z n) (hl : qRw m z l) : qW m_Row_cutTo 0 [qK z, qI k] [] (T, m, r) (fun _ σ => ∃ m', σ = (T, m', r) ∧ qRw m' z (l.take k) ∧ qFr (fun a => a = z) m m') := by
  refine qW_mono (sRow_cut0 h) (fun _ σ hσ => ⟨_, hσ, ?_⟩)
  rw [hl.1]
  by_cases hk : k < l.length
  · rw [if_pos ⟨by omega, by omega⟩]
    refine ⟨⟨?_, fun i hi => ?_⟩, qFr_up rfl⟩
    · rw [qup_s, List.length_take]; omega
    · rw [List.length_take] at hi
      rw [qup_z (by omega), hl.2 i (by omega)]
      simp only [List.getD_eq_getElem?_getD]
      rw [List.getElem?_take_of_lt (by omega)]
  · rw [if_neg (by omega), List.take_of_length_le (by omega)]
    exact ⟨hl, qFr_rf⟩
theorem sRow_put {z n : Nat} {i x : Int} {l : List Int} (h : qRow T r z n) (hl : qRw m z l) (hn : l.length ≤ n) (hi : 0 ≤ i ∧ i < l.length) : qW m_Row_put 0 [qK z, qI i, qI x] [] (T, m, r) (fun _ σ => ∃ m', σ = (T, m', r) ∧ qRw m' z (l.set i.toNat x) ∧ qFr (qPz z) m m') := by
  refine qW_mono (sRow_put0 h) (fun _ σ hσ => ⟨_, hσ, ?_⟩)
  rw [if_pos (by rw [hl.1]; omega)]
  refine ⟨⟨?_, fun j hj => ?_⟩, qFr_up (Or.inr rfl)⟩
  · rw [qup_z (by omega), hl.1, List.length_set]
  · rw [List.length_set] at hj
    simp only [List.getD_eq_getElem?_getD]
    by_cases he : (j : Int) = i
    · have he2 : i.toNat = j := by omega
      rw [he, qup_s, he2, List.getElem?_set_self hj]
      rfl
    · rw [qup_i he, List.getElem?_set_ne (by omega), hl.2 j hj, List.getD_eq_getElem?_getD]
end
section
/-! Form: fields of a shape (a leaf by its path, a branch by 100 more), and how many are leaves -/
variable {T : List (Nat × Nat)} {m : Nat → Int → Int} {r : Nat → Int → Option Nat}
abbrev qIv (lo hi : Nat) : Nat → Prop := fun a => lo ≤ a ∧ a < hi
theorem qAt_lt {l : List Int} {i : Nat} (h : i < l.length) : qAt l i = l[i] := by
  unfold qAt
  rw [if_pos ⟨by omega, by omega⟩]
  simp [List.getD_eq_getElem?_getD, h]
theorem qAt_ge {l : List Int} {i : Nat} (h : l.length ≤ i) : qAt l i = -9 := by
  unfold qAt
  rw [if_neg (by omega)]
theorem qAt_neg {l : List Int} {i : Int} (h : i < 0) : qAt l i = -9 := by
  unfold qAt
  rw [if_neg (by omega)]
theorem qAt_app {l : List Int} {x : Int} {i : Int} (h : i < l.length) : qAt (l ++ [x]) i = qAt l i := by
  unfold qAt
  by_cases h0 : 0 ≤ i
  · rw [if_pos ⟨h0, by simp; omega⟩, if_pos ⟨h0, h⟩]
    simp only [List.getD_eq_getElem?_getD]
    rw [List.getElem?_append_left (by omega)]
  · rw [if_neg (by omega), if_neg (by omega)]
theorem qdrop {l : List Int} {i : Nat} (h : i < l.length) : l.drop i = l[i] :: l.drop (i + 1) := List.drop_eq_getElem_cons h
theorem qcont {f x : Int} {l : List Int} (h : f ≠ x) : (f :: l).contains x = l.contains x := by simp [List.contains_cons, Ne.symm h]
theorem qdrop_nil {l : List Int} {i : Nat} (h : i = l.length) : l.drop i = [] := by
  subst h
  simp
/-- a row copied from another -/
theorem sRow_copy_loop {z y n n' : Nat} {l : List Int} (h : qRow T r z n) (h' : qRow T r y n') (hn : l.length ≤ n) (hn' : l.length ≤ n') (hd : z + 1 < y ∨ y + 1 < z) :
    ∀ (k i : Nat) (m : Nat → Int → Int), i + k = l.length → qRw m y l → qRw m z (l.take i) → qW m_Row_copyFrom 7 [qK z, qK y, qI i] [] (T, m, r) (fun _ σ => ∃ m', σ = (T, m', r) ∧ qRw m' z l ∧ qFr (qPz z) m m') := by
  intro k
  have h3 := h.2.2.2
  induction k with
  | zero =>
    intro i m hik hl hz
    refine qr_il rfl rfl (w := ?_)
    refine qr_al rfl rfl (w := ?_)
    refine qr_callP rfl (sRow_len h' hl) (qrcv1 h'.1) (w := ?_)
    refine qr_icge rfl (fun hc => ?_) (fun hc => absurd hc (by omega))
    refine qW_return rfl ?_
    rw [List.take_of_length_le (by omega)] at hz
    exact ⟨m, rfl, hz, qFr_rf⟩
  | succ k ih =>
    intro i m hik hl hz
    refine qr_il rfl rfl (w := ?_)
    refine qr_al rfl rfl (w := ?_)
    refine qr_callP rfl (sRow_len h' hl) (qrcv1 h'.1) (w := ?_)
    refine qr_icge rfl (fun hc => absurd hc (by omega)) (fun hc => ?_)
    refine qr_al rfl rfl (w := ?_)
    refine qr_al rfl rfl (w := ?_)
    refine qr_il rfl rfl (w := ?_)
    refine qr_callP rfl (sRow_at h' hl hn') (qrcv1 h'.1) (w := ?_)
    refine qr_callV rfl (sRow_add h hz (by rw [List.length_take]; omega)) (qrcv1 h.1) (w := fun _ σ hσ => ?_)
    obtain ⟨m1, rfl, hz1, hf1⟩ := hσ
    have hl1 : qRw m1 y l := qRw_fr hl hf1 (by show ¬ (y = z ∨ y = z + 1); omega) (by show ¬ (y + 1 = z ∨ y + 1 = z + 1); omega)
    refine qr_inc2 rfl (by omega) (w := ?_)
    refine qr_goto rfl (w := ?_)
    rw [qAt_lt (by omega)] at hz1
    obtain ⟨n1, x1, s1, e1, m2, rfl, g1, g2⟩ := ih (i + 1) m1 (by omega) hl1 (by rw [List.take_succ, List.getElem?_eq_getElem (by omega)]; exact hz1)
    exact ⟨n1, x1, _, e1, m2, rfl, g1, qFr_tr hf1 g2⟩
theorem sRow_copy {z y n n' : Nat} {l : List Int} (h : qRow T r z n) (h' : qRow T r y n') (hl : qRw m y l) (hn : l.length ≤ n) (hn' : l.length ≤ n') (hd : z + 1 < y ∨ y + 1 < z) : qW m_Row_copyFrom 0 [qK z, qK y, none] [] (T, m, r) (fun _ σ => ∃ m', σ = (T, m', r) ∧ qRw m' z l ∧ qFr (qPz z) m m') := by
  refine qr_al rfl rfl (w := ?_)
  refine qr_const rfl (w := ?_)
  refine qr_pi rfl h.1 (w := ?_)
  refine qr_const rfl (w := ?_)
  refine qr_is2 rfl (w := ?_)
  have hf : qFr (qPz z) m (qup m z 1 0) := qFr_up (Or.inl rfl)
  obtain ⟨n1, x1, s1, e1, m2, rfl, g1, g2⟩ := sRow_copy_loop h h' hn hn' hd l.length 0 (qup m z 1 0) (by omega) (qRw_fr hl hf (by show ¬ (y = z ∨ y = z + 1); omega) (by show ¬ (y + 1 = z ∨ y + 1 = z + 1); omega)) ⟨by simp [qup], fun i hi => by simp at hi⟩
  exact ⟨n1, x1, _, e1, m2, rfl, g1, qFr_tr hf g2⟩
def qLv : List Int → Int
  | [] => 0
  | f :: t => (if f < 100 then 1 else 0) + qLv t
theorem qLv_app (a b : List Int) : qLv (a ++ b) = qLv a + qLv b := by
  induction a with
  | nil => simp [qLv]
  | cons x t ih => simp only [List.cons_append, qLv, ih]; omega
theorem qLv_le (l : List Int) : 0 ≤ qLv l ∧ qLv l ≤ l.length := by
  induction l with
  | nil => simp [qLv]
  | cons x t ih =>
    simp only [qLv, List.length_cons]
    split <;> omega
def qForm (T : List (Nat × Nat)) (r : Nat → Int → Option Nat) (z : Nat) : Prop := T[z]? = some (0, 0) ∧ r z 0 = some (z + 1) ∧ qRow T r (z + 1) 26
def qFm (m : Nat → Int → Int) (z : Nat) (fs : List Int) : Prop := qRw m (z + 1) fs ∧ m z 1 = qLv fs ∧ fs.length ≤ 26
theorem qFm_fr {P : Nat → Prop} {m m' : Nat → Int → Int} {z : Nat} {l : List Int} (h : qFm m z l) (f : qFr P m m') (h1 : ¬ P z) (h2 : ¬ P (z + 1)) (h3 : ¬ P (z + 2)) : qFm m' z l :=
  ⟨qRw_fr h.1 f h2 h3, by rw [f z h1]; exact h.2.1, h.2.2⟩
theorem qFr_Pz {z lo hi : Nat} {m m' : Nat → Int → Int} (h : qFr (qPz z) m m') (h1 : lo ≤ z) (h2 : z + 1 < hi) : qFr (qIv lo hi) m m' := qFr_mo h (fun a ha => by rcases ha with rfl | rfl <;> (constructor <;> omega))
theorem sForm_size {z : Nat} {fs : List Int} (h : qForm T r z) (hf : qFm m z fs) : qP m_Form_size [qK z] (T, m, r) (qI fs.length) := by
  refine qr_al rfl rfl (w := ?_)
  refine qr_gr rfl h.1 (hr := h.2.1) (w := ?_)
  refine qr_callP rfl (sRow_len h.2.2 hf.1) (qrcv1 h.2.2.1) (w := ?_)
  refine qW_ireturn rfl ?_
  exact ⟨rfl, rfl⟩
theorem sForm_leaves {z : Nat} {fs : List Int} (h : qForm T r z) (hf : qFm m z fs) : qP m_Form_leaves [qK z] (T, m, r) (qI (qLv fs)) := by
  refine qr_al rfl rfl (w := ?_)
  refine qr_gi rfl h.1 (w := ?_)
  refine qW_ireturn rfl ?_
  exact ⟨congrArg qI hf.2.1, rfl⟩
theorem sForm_branches {z : Nat} {fs : List Int} (h : qForm T r z) (hf : qFm m z fs) : qP m_Form_branches [qK z] (T, m, r) (qI (fs.length - qLv fs)) := by
  have hv := qLv_le fs
  have h2 := hf.2.2
  refine qr_al rfl rfl (w := ?_)
  refine qr_gr rfl h.1 (hr := h.2.1) (w := ?_)
  refine qr_callP rfl (sRow_len h.2.2 hf.1) (qrcv1 h.2.2.1) (w := ?_)
  refine qr_al rfl rfl (w := ?_)
  refine qr_gi rfl h.1 (w := ?_)
  refine qr_sub rfl (by rw [hf.2.1]; omega) (w := ?_)
  refine qW_ireturn rfl ?_
  exact ⟨by rw [hf.2.1], rfl⟩
theorem sForm_at {z : Nat} {i : Int} {fs : List Int} (h : qForm T r z) (hf : qFm m z fs) : qP m_Form_at [qK z, qI i] (T, m, r) (qI (qAt fs i)) := by
  refine qr_al rfl rfl (w := ?_)
  refine qr_gr rfl h.1 (hr := h.2.1) (w := ?_)
  refine qr_il rfl rfl (w := ?_)
  refine qr_callP rfl (sRow_at h.2.2 hf.1 hf.2.2) (qrcv1 h.2.2.1) (w := ?_)
  refine qW_ireturn rfl ?_
  exact ⟨rfl, rfl⟩
theorem sForm_isBranchAt {z : Nat} {i : Int} {fs : List Int} (h : qForm T r z) (hf : qFm m z fs) : qP m_Form_isBranchAt [qK z, qI i] (T, m, r) (qI (qbi (decide (100 ≤ qAt fs i)))) := by
  refine qr_al rfl rfl (w := ?_)
  refine qr_gr rfl h.1 (hr := h.2.1) (w := ?_)
  refine qr_il rfl rfl (w := ?_)
  refine qr_callP rfl (sRow_at h.2.2 hf.1 hf.2.2) (qrcv1 h.2.2.1) (w := ?_)
  refine qr_const rfl (w := ?_)
  refine qr_iclt rfl (fun hc => ?_) (fun hc => ?_)
  · refine qr_const rfl (w := ?_)
    refine qW_zreturn rfl (by first | exact Or.inl rfl | exact Or.inr rfl | (simp only [qbi]; split <;> simp)) ?_
    refine ⟨congrArg qI ?_, rfl⟩
    simp only [qbi]
    first | (rw [if_pos (decide_eq_true (by omega))]; done) | (rw [if_neg (fun h9 => by have := of_decide_eq_true h9; omega)]; done)
  · refine qr_const rfl (w := ?_)
    refine qr_goto rfl (w := ?_)
    refine qW_zreturn rfl (by first | exact Or.inl rfl | exact Or.inr rfl | (simp only [qbi]; split <;> simp)) ?_
    refine ⟨congrArg qI ?_, rfl⟩
    simp only [qbi]
    first | (rw [if_pos (decide_eq_true (by omega))]; done) | (rw [if_neg (fun h9 => by have := of_decide_eq_true h9; omega)]; done)
/-- the path of a field -/
def qPa (f : Int) : Int := if 100 ≤ f then f - 100 else f
theorem sForm_pathAt {z : Nat} {i : Int} {fs : List Int} (h : qForm T r z) (hf : qFm m z fs) (hb : qAt fs i < 1000) : qP m_Form_pathAt [qK z, qI i, none] (T, m, r) (qI (qPa (qAt fs i))) := by
  unfold qPa
  refine qr_al rfl rfl (w := ?_)
  refine qr_gr rfl h.1 (hr := h.2.1) (w := ?_)
  refine qr_il rfl rfl (w := ?_)
  refine qr_callP rfl (sRow_at h.2.2 hf.1 hf.2.2) (qrcv1 h.2.2.1) (w := ?_)
  refine qr_is2 rfl (w := ?_)
  refine qr_il rfl rfl (w := ?_)
  refine qr_const rfl (w := ?_)
  refine qr_iclt rfl (fun hc => ?_) (fun hc => ?_)
  · refine qr_il rfl rfl (w := ?_)
    refine qW_ireturn rfl ?_
    refine ⟨congrArg qI ?_, rfl⟩
    first | (rw [if_pos (by omega)]; done) | (rw [if_neg (by omega)]; done)
  · refine qr_il rfl rfl (w := ?_)
    refine qr_const rfl (w := ?_)
    refine qr_sub rfl (by omega) (w := ?_)
    refine qr_goto rfl (w := ?_)
    refine qW_ireturn rfl ?_
    refine ⟨congrArg qI ?_, rfl⟩
    first | (rw [if_pos (by omega)]; done) | (rw [if_neg (by omega)]; done)
abbrev qP2 (b pc : Nat) (L0 : List qA) (σ : qM) (v : qA) : Prop := qW b pc L0 [] σ (fun r σ' => r = v ∧ σ' = σ)
theorem sForm_holds_loop {z : Nat} {x : Int} {fs : List Int} (h : qForm T r z) (hf : qFm m z fs) : ∀ (k i : Nat), i + k = fs.length → qP2 m_Form_holds 2 [qK z, qI x, qI i] (T, m, r) (qI (qbi ((fs.drop i).contains x))) := by
  have h26 := hf.2.2
  intro k
  induction k with
  | zero =>
    intro i hik
    rw [qdrop_nil (by omega)]
    unfold qP2
    refine qr_il rfl rfl (w := ?_)
    refine qr_al rfl rfl (w := ?_)
    refine qr_gr rfl h.1 (hr := h.2.1) (w := ?_)
    refine qr_callP rfl (sRow_len h.2.2 hf.1) (qrcv1 h.2.2.1) (w := ?_)
    refine qr_icge rfl (fun hc => ?_) (fun hc => ?_)
    · refine qr_const rfl (w := ?_)
      refine qW_zreturn rfl (by first | exact Or.inl rfl | exact Or.inr rfl | (simp only [qbi]; split <;> simp)) ?_
      exact ⟨rfl, rfl⟩
    · exact absurd hc (by omega)
  | succ k ih =>
    intro i hik
    rw [qdrop (by omega)]
    unfold qP2
    refine qr_il rfl rfl (w := ?_)
    refine qr_al rfl rfl (w := ?_)
    refine qr_gr rfl h.1 (hr := h.2.1) (w := ?_)
    refine qr_callP rfl (sRow_len h.2.2 hf.1) (qrcv1 h.2.2.1) (w := ?_)
    refine qr_icge rfl (fun hc => ?_) (fun hc => ?_)
    · exact absurd hc (by omega)
    · refine qr_al rfl rfl (w := ?_)
      refine qr_gr rfl h.1 (hr := h.2.1) (w := ?_)
      refine qr_il rfl rfl (w := ?_)
      refine qr_callP rfl (sRow_at h.2.2 hf.1 hf.2.2) (qrcv1 h.2.2.1) (w := ?_)
      refine qr_il rfl rfl (w := ?_)
      refine qr_icne rfl (fun hcf => ?_) (fun hcf => ?_)
      · refine qr_inc2 rfl (by omega) (w := ?_)
        refine qr_goto rfl (w := ?_)
        rw [qAt_lt (by omega)] at hcf
        have h1 := ih (i + 1) (by omega)
        have h2 : (fs[i] :: fs.drop (i + 1)).contains x = (fs.drop (i + 1)).contains x := qcont hcf
        rw [h2]
        exact h1
      · refine qr_const rfl (w := ?_)
        refine qW_zreturn rfl (Or.inr rfl) ?_
        rw [qAt_lt (by omega)] at hcf
        refine ⟨?_, rfl⟩
        simp [List.contains_cons, hcf, qbi]
theorem sForm_holds {z : Nat} {x : Int} {fs : List Int} (h : qForm T r z) (hf : qFm m z fs) : qP m_Form_holds [qK z, qI x, none] (T, m, r) (qI (qbi (fs.contains x))) := by
  refine qr_const rfl (w := ?_)
  refine qr_is2 rfl (w := ?_)
  exact sForm_holds_loop h hf fs.length 0 (by omega)
/-- which leaf a path is, counted from a; -9: none -/
def qLp : List Int → Int → Int → Int
  | [], _, _ => -9
  | f :: t, p, a => if f = p then a else qLp t p (a + if f < 100 then 1 else 0)
theorem sForm_leafPlace_loop {z : Nat} {x : Int} {fs : List Int} (h : qForm T r z) (hf : qFm m z fs) : ∀ (k i : Nat) (a : Int), i + k = fs.length → 0 ≤ a → a ≤ i → qP2 m_Form_leafPlace 4 [qK z, qI x, qI a, qI i] (T, m, r) (qI (qLp (fs.drop i) x a)) := by
  have h26 := hf.2.2
  intro k
  induction k with
  | zero =>
    intro i a hik ha hb
    rw [qdrop_nil (by omega)]
    unfold qP2
    refine qr_il rfl rfl (w := ?_)
    refine qr_al rfl rfl (w := ?_)
    refine qr_gr rfl h.1 (hr := h.2.1) (w := ?_)
    refine qr_callP rfl (sRow_len h.2.2 hf.1) (qrcv1 h.2.2.1) (w := ?_)
    refine qr_icge rfl (fun hc => ?_) (fun hc => ?_)
    · refine qr_const rfl (w := ?_)
      refine qW_ireturn rfl ?_
      exact ⟨rfl, rfl⟩
    · exact absurd hc (by omega)
  | succ k ih =>
    intro i a hik ha hb
    rw [qdrop (by omega)]
    unfold qP2
    refine qr_il rfl rfl (w := ?_)
    refine qr_al rfl rfl (w := ?_)
    refine qr_gr rfl h.1 (hr := h.2.1) (w := ?_)
    refine qr_callP rfl (sRow_len h.2.2 hf.1) (qrcv1 h.2.2.1) (w := ?_)
    refine qr_icge rfl (fun hc => ?_) (fun hc => ?_)
    · exact absurd hc (by omega)
    · refine qr_al rfl rfl (w := ?_)
      refine qr_gr rfl h.1 (hr := h.2.1) (w := ?_)
      refine qr_il rfl rfl (w := ?_)
      refine qr_callP rfl (sRow_at h.2.2 hf.1 hf.2.2) (qrcv1 h.2.2.1) (w := ?_)
      refine qr_il rfl rfl (w := ?_)
      refine qr_icne rfl (fun hcf => ?_) (fun hcf => ?_)
      · refine qr_al rfl rfl (w := ?_)
        refine qr_il rfl rfl (w := ?_)
        refine qr_callP rfl (sForm_isBranchAt h hf) (qrcv1 h.1) (w := ?_)
        refine qr_ifneB rfl (fun hcft => ?_) (fun hcft => ?_)
        · refine qr_inc3 rfl (by omega) (w := ?_)
          refine qr_goto rfl (w := ?_)
          rw [qAt_lt (by omega)] at *
          have h1 := ih (i + 1) (a) (by omega) (by omega) (by omega)
          have h2 : qLp (fs[i] :: fs.drop (i + 1)) x a = qLp (fs.drop (i + 1)) x (a) := by
            have hx : ¬ fs[i] = x := by assumption
            simp only [decide_eq_true_eq, decide_eq_false_iff_not] at *
            simp only [qLp, if_neg hx]
            congr 1
            split <;> omega
          rw [h2]
          exact h1
        · refine qr_inc2 rfl (by omega) (w := ?_)
          refine qr_inc3 rfl (by omega) (w := ?_)
          refine qr_goto rfl (w := ?_)
          rw [qAt_lt (by omega)] at *
          have h1 := ih (i + 1) (a + 1) (by omega) (by omega) (by omega)
          have h2 : qLp (fs[i] :: fs.drop (i + 1)) x a = qLp (fs.drop (i + 1)) x (a + 1) := by
            have hx : ¬ fs[i] = x := by assumption
            simp only [decide_eq_true_eq, decide_eq_false_iff_not] at *
            simp only [qLp, if_neg hx]
            congr 1
            split <;> omega
          rw [h2]
          exact h1
      · refine qr_il rfl rfl (w := ?_)
        refine qW_ireturn rfl ?_
        rw [qAt_lt (by omega)] at hcf
        exact ⟨by simp [qLp, hcf], rfl⟩
theorem sForm_leafPlace {z : Nat} {x : Int} {fs : List Int} (h : qForm T r z) (hf : qFm m z fs) : qP m_Form_leafPlace [qK z, qI x, none, none] (T, m, r) (qI (qLp fs x 0)) := by
  refine qr_const rfl (w := ?_)
  refine qr_is2 rfl (w := ?_)
  refine qr_const rfl (w := ?_)
  refine qr_is3 rfl (w := ?_)
  exact sForm_leafPlace_loop h hf fs.length 0 0 (by omega) (by omega) (by omega)
theorem sForm_isSameAs_loop {z y : Nat} {fs gs : List Int} (h : qForm T r z) (hf : qFm m z fs) (h' : qForm T r y) (hg : qFm m y gs) (hl : fs.length = gs.length) : ∀ (k i : Nat), i + k = fs.length → qP2 m_Form_isSameAs 18 [qK z, qK y, qI i] (T, m, r) (qI (qbi (decide (fs.drop i = gs.drop i)))) := by
  have h26 := hf.2.2
  intro k
  induction k with
  | zero =>
    intro i hik
    rw [qdrop_nil (by omega), qdrop_nil (by omega)]
    unfold qP2
    refine qr_il rfl rfl (w := ?_)
    refine qr_al rfl rfl (w := ?_)
    refine qr_gr rfl h.1 (hr := h.2.1) (w := ?_)
    refine qr_callP rfl (sRow_len h.2.2 hf.1) (qrcv1 h.2.2.1) (w := ?_)
    refine qr_icge rfl (fun hc => ?_) (fun hc => ?_)
    · refine qr_const rfl (w := ?_)
      refine qW_zreturn rfl (by first | exact Or.inl rfl | exact Or.inr rfl | (simp only [qbi]; split <;> simp)) ?_
      exact ⟨rfl, rfl⟩
    · exact absurd hc (by omega)
  | succ k ih =>
    intro i hik
    rw [qdrop (l := fs) (by omega), qdrop (l := gs) (by omega)]
    unfold qP2
    refine qr_il rfl rfl (w := ?_)
    refine qr_al rfl rfl (w := ?_)
    refine qr_gr rfl h.1 (hr := h.2.1) (w := ?_)
    refine qr_callP rfl (sRow_len h.2.2 hf.1) (qrcv1 h.2.2.1) (w := ?_)
    refine qr_icge rfl (fun hc => ?_) (fun hc => ?_)
    · exact absurd hc (by omega)
    · refine qr_al rfl rfl (w := ?_)
      refine qr_gr rfl h.1 (hr := h.2.1) (w := ?_)
      refine qr_il rfl rfl (w := ?_)
      refine qr_callP rfl (sRow_at h.2.2 hf.1 hf.2.2) (qrcv1 h.2.2.1) (w := ?_)
      refine qr_al rfl rfl (w := ?_)
      refine qr_il rfl rfl (w := ?_)
      refine qr_callP rfl (sForm_at h' hg) (qrcv1 h'.1) (w := ?_)
      refine qr_iceq rfl (fun hcf => ?_) (fun hcf => ?_)
      · refine qr_inc2 rfl (by omega) (w := ?_)
        refine qr_goto rfl (w := ?_)
        rw [qAt_lt (by omega), qAt_lt (by omega)] at hcf
        have h1 := ih (i + 1) (by omega)
        simp only [List.cons.injEq, hcf, true_and]
        exact h1
      · refine qr_const rfl (w := ?_)
        refine qW_zreturn rfl (Or.inl rfl) ?_
        rw [qAt_lt (by omega), qAt_lt (by omega)] at hcf
        exact ⟨by simp only [List.cons.injEq, hcf, false_and]; rfl, rfl⟩
theorem sForm_isSameAs {z y : Nat} {fs gs : List Int} (h : qForm T r z) (hf : qFm m z fs) (h' : qForm T r y) (hg : qFm m y gs) : qP m_Form_isSameAs [qK z, qK y, none] (T, m, r) (qI (qbi (decide (fs = gs)))) := by
  refine qr_al rfl rfl (w := ?_)
  refine qr_gr rfl h.1 (hr := h.2.1) (w := ?_)
  refine qr_callP rfl (sRow_len h.2.2 hf.1) (qrcv1 h.2.2.1) (w := ?_)
  refine qr_al rfl rfl (w := ?_)
  refine qr_callP rfl (sForm_size h' hg) (qrcv1 h'.1) (w := ?_)
  refine qr_iceq rfl (fun hc => ?_) (fun hc => ?_)
  · refine qr_const rfl (w := ?_)
    refine qr_is2 rfl (w := ?_)
    exact sForm_isSameAs_loop h hf h' hg (by omega) fs.length 0 (by omega)
  · refine qr_const rfl (w := ?_)
    refine qW_zreturn rfl (Or.inl rfl) ?_
    have hne : ¬ fs = gs := fun e => hc (by rw [e])
    exact ⟨by rw [decide_eq_false hne]; rfl, rfl⟩
/-- how many leaves of one are in another -/
def qIc : List Int → List Int → Int
  | [], _ => 0
  | f :: t, gs => (if f < 100 ∧ f ∈ gs then 1 else 0) + qIc t gs
theorem qIc_le (l gs : List Int) : 0 ≤ qIc l gs ∧ qIc l gs ≤ l.length := by
  induction l with
  | nil => simp [qIc]
  | cons x t ih =>
    simp only [qIc, List.length_cons]
    split <;> omega
theorem sForm_leavesInCommon_loop {z y : Nat} {fs gs : List Int} (h : qForm T r z) (hf : qFm m z fs) (h' : qForm T r y) (hg : qFm m y gs) : ∀ (k i : Nat) (a : Int), i + k = fs.length → 0 ≤ a → a ≤ i → qP2 m_Form_leavesInCommon 4 [qK z, qK y, qI a, qI i] (T, m, r) (qI (a + qIc (fs.drop i) gs)) := by
  have h26 := hf.2.2
  intro k
  induction k with
  | zero =>
    intro i a hik ha hb
    rw [qdrop_nil (by omega)]
    unfold qP2
    refine qr_il rfl rfl (w := ?_)
    refine qr_al rfl rfl (w := ?_)
    refine qr_gr rfl h.1 (hr := h.2.1) (w := ?_)
    refine qr_callP rfl (sRow_len h.2.2 hf.1) (qrcv1 h.2.2.1) (w := ?_)
    refine qr_icge rfl (fun hc => ?_) (fun hc => ?_)
    · refine qr_il rfl rfl (w := ?_)
      refine qW_ireturn rfl ?_
      exact ⟨by simp [qIc], rfl⟩
    · exact absurd hc (by omega)
  | succ k ih =>
    intro i a hik ha hb
    rw [qdrop (by omega)]
    unfold qP2
    refine qr_il rfl rfl (w := ?_)
    refine qr_al rfl rfl (w := ?_)
    refine qr_gr rfl h.1 (hr := h.2.1) (w := ?_)
    refine qr_callP rfl (sRow_len h.2.2 hf.1) (qrcv1 h.2.2.1) (w := ?_)
    refine qr_icge rfl (fun hc => ?_) (fun hc => ?_)
    · exact absurd hc (by omega)
    · refine qr_al rfl rfl (w := ?_)
      refine qr_il rfl rfl (w := ?_)
      refine qr_callP rfl (sForm_isBranchAt h hf) (qrcv1 h.1) (w := ?_)
      refine qr_ifneB rfl (fun hcf => ?_) (fun hcf => ?_)
      · refine qr_inc3 rfl (by omega) (w := ?_)
        refine qr_goto rfl (w := ?_)
        rw [qAt_lt (by omega)] at *
        have h1 := ih (i + 1) (a) (by omega) (by omega) (by omega)
        have h2 : a + qIc (fs[i] :: fs.drop (i + 1)) gs = (a) + qIc (fs.drop (i + 1)) gs := by
          simp only [decide_eq_true_eq, decide_eq_false_iff_not, List.contains_iff_mem, Bool.not_eq_true, Bool.eq_false_iff, ne_eq] at *
          simp only [qIc]
          split <;> (simp_all; try omega)
        rw [h2]
        exact h1
      · refine qr_al rfl rfl (w := ?_)
        refine qr_al rfl rfl (w := ?_)
        refine qr_gr rfl h.1 (hr := h.2.1) (w := ?_)
        refine qr_il rfl rfl (w := ?_)
        refine qr_callP rfl (sRow_at h.2.2 hf.1 hf.2.2) (qrcv1 h.2.2.1) (w := ?_)
        refine qr_callP rfl (sForm_holds h' hg) (qrcv1 h'.1) (w := ?_)
        refine qr_ifeqB rfl (fun hcff => ?_) (fun hcff => ?_)
        · refine qr_inc3 rfl (by omega) (w := ?_)
          refine qr_goto rfl (w := ?_)
          rw [qAt_lt (by omega)] at *
          have h1 := ih (i + 1) (a) (by omega) (by omega) (by omega)
          have h2 : a + qIc (fs[i] :: fs.drop (i + 1)) gs = (a) + qIc (fs.drop (i + 1)) gs := by
            simp only [decide_eq_true_eq, decide_eq_false_iff_not, List.contains_iff_mem, Bool.not_eq_true, Bool.eq_false_iff, ne_eq] at *
            simp only [qIc]
            split <;> (simp_all; try omega)
          rw [h2]
          exact h1
        · refine qr_inc2 rfl (by omega) (w := ?_)
          refine qr_inc3 rfl (by omega) (w := ?_)
          refine qr_goto rfl (w := ?_)
          rw [qAt_lt (by omega)] at *
          have h1 := ih (i + 1) (a + 1) (by omega) (by omega) (by omega)
          have h2 : a + qIc (fs[i] :: fs.drop (i + 1)) gs = (a + 1) + qIc (fs.drop (i + 1)) gs := by
            simp only [decide_eq_true_eq, decide_eq_false_iff_not, List.contains_iff_mem, Bool.not_eq_true, Bool.eq_false_iff, ne_eq] at *
            simp only [qIc]
            split <;> (simp_all; try omega)
          rw [h2]
          exact h1
theorem sForm_leavesInCommon {z y : Nat} {fs gs : List Int} (h : qForm T r z) (hf : qFm m z fs) (h' : qForm T r y) (hg : qFm m y gs) : qP m_Form_leavesInCommon [qK z, qK y, none, none] (T, m, r) (qI (qIc fs gs)) := by
  refine qr_const rfl (w := ?_)
  refine qr_is2 rfl (w := ?_)
  refine qr_const rfl (w := ?_)
  refine qr_is3 rfl (w := ?_)
  have h1 := sForm_leavesInCommon_loop h hf h' hg fs.length 0 0 (by omega) (by omega) (by omega)
  rw [Int.zero_add] at h1
  exact h1
theorem sForm_clear {z : Nat} {fs : List Int} (h : qForm T r z) (hf : qFm m z fs) : qW m_Form_clear 0 [qK z] [] (T, m, r) (fun _ σ => ∃ m', σ = (T, m', r) ∧ qFm m' z [] ∧ qFr (qIv z (z + 3)) m m') := by
  refine qr_al rfl rfl (w := ?_)
  refine qr_gr rfl h.1 (hr := h.2.1) (w := ?_)
  refine qr_const rfl (w := ?_)
  refine qr_callV rfl (sRow_cut (k := 0) h.2.2 hf.1) (qrcv1 h.2.2.1) (w := fun _ σ hσ => ?_)
  obtain ⟨m1, rfl, hz1, hf1⟩ := hσ
  refine qr_al rfl rfl (w := ?_)
  refine qr_const rfl (w := ?_)
  refine qr_pi rfl h.1 (w := ?_)
  refine qW_return rfl ?_
  refine ⟨_, rfl, ⟨qRw_fr hz1 (qFr_up (P := fun a => a = z) rfl) (by show ¬ z + 1 = z; omega) (by show ¬ z + 1 + 1 = z; omega), qup_s, by simp⟩, qFr_tr (qFr_mo hf1 (fun a ha => ?_)) (qFr_up ⟨by omega, by omega⟩)⟩
  subst ha
  constructor <;> omega
theorem sForm_add {z : Nat} {x : Int} {fs : List Int} (h : qForm T r z) (hf : qFm m z fs) (hl : fs.length < 26) : qW m_Form_add 0 [qK z, qI x] [] (T, m, r) (fun _ σ => ∃ m', σ = (T, m', r) ∧ qFm m' z (fs ++ [x]) ∧ qFr (qIv z (z + 3)) m m') := by
  have hv := qLv_le fs
  refine qr_al rfl rfl (w := ?_)
  refine qr_gr rfl h.1 (hr := h.2.1) (w := ?_)
  refine qr_il rfl rfl (w := ?_)
  refine qr_callV rfl (sRow_add h.2.2 hf.1 hl) (qrcv1 h.2.2.1) (w := fun _ σ hσ => ?_)
  obtain ⟨m1, rfl, hz1, hf1⟩ := hσ
  have hz0 : m1 z 1 = qLv fs := by rw [hf1 z (by show ¬ (z = z + 1 ∨ z = z + 1 + 1); omega)]; exact hf.2.1
  refine qr_il rfl rfl (w := ?_)
  refine qr_const rfl (w := ?_)
  refine qr_icge rfl (fun hc => ?_) (fun hc => ?_)
  · first
      | (refine qW_return rfl ⟨_, rfl, ⟨hz1, ?_, by simp; omega⟩, qFr_Pz hf1 (by omega) (by omega)⟩
         rw [hz0, qLv_app]
         simp only [qLv]
         split <;> omega)
      | (refine qW_return rfl ⟨_, rfl, ⟨qRw_fr hz1 (qFr_up (P := fun a => a = z) rfl) (by show ¬ z + 1 = z; omega) (by show ¬ z + 1 + 1 = z; omega), ?_, by simp; omega⟩, qFr_tr (qFr_Pz hf1 (by omega) (by omega)) (qFr_up ⟨by omega, by omega⟩)⟩
         rw [qup_s, hz0, qLv_app]
         simp only [qLv]
         split <;> omega)
  · refine qr_al rfl rfl (w := ?_)
    refine qr_dup rfl (w := ?_)
    refine qr_gi rfl h.1 (w := ?_)
    refine qr_const rfl (w := ?_)
    refine qr_add rfl (by omega) (w := ?_)
    refine qr_pi rfl h.1 (w := ?_)
    first
      | (refine qW_return rfl ⟨_, rfl, ⟨hz1, ?_, by simp; omega⟩, qFr_Pz hf1 (by omega) (by omega)⟩
         rw [hz0, qLv_app]
         simp only [qLv]
         split <;> omega)
      | (refine qW_return rfl ⟨_, rfl, ⟨qRw_fr hz1 (qFr_up (P := fun a => a = z) rfl) (by show ¬ z + 1 = z; omega) (by show ¬ z + 1 + 1 = z; omega), ?_, by simp; omega⟩, qFr_tr (qFr_Pz hf1 (by omega) (by omega)) (qFr_up ⟨by omega, by omega⟩)⟩
         rw [qup_s, hz0, qLv_app]
         simp only [qLv]
         split <;> omega)
theorem sForm_copyFrom {z y : Nat} {gs : List Int} (h : qForm T r z) (h' : qForm T r y) (hg : qFm m y gs) (hd : z + 3 ≤ y ∨ y + 3 ≤ z) : qW m_Form_copyFrom 0 [qK z, qK y] [] (T, m, r) (fun _ σ => ∃ m', σ = (T, m', r) ∧ qFm m' z gs ∧ qFr (qIv z (z + 3)) m m') := by
  refine qr_al rfl rfl (w := ?_)
  refine qr_gr rfl h.1 (hr := (by first | exact h.2.1 | exact h'.2.1)) (w := ?_)
  refine qr_al rfl rfl (w := ?_)
  refine qr_gr rfl h'.1 (hr := (by first | exact h.2.1 | exact h'.2.1)) (w := ?_)
  refine qr_callV rfl (sRow_copy h.2.2 h'.2.2 hg.1 hg.2.2 hg.2.2 (by omega)) (qrcv1 h.2.2.1) (w := fun _ σ hσ => ?_)
  obtain ⟨m1, rfl, hz1, hf1⟩ := hσ
  have hz0 : m1 y 1 = qLv gs := by rw [hf1 y (by show ¬ (y = z + 1 ∨ y = z + 1 + 1); omega)]; exact hg.2.1
  refine qr_al rfl rfl (w := ?_)
  refine qr_al rfl rfl (w := ?_)
  refine qr_gi rfl h'.1 (w := ?_)
  refine qr_pi rfl h.1 (w := ?_)
  refine qW_return rfl ?_
  refine ⟨_, rfl, ⟨qRw_fr hz1 (qFr_up (P := fun a => a = z) rfl) (by show ¬ z + 1 = z; omega) (by show ¬ z + 1 + 1 = z; omega), ?_, hg.2.2⟩, qFr_tr (qFr_Pz hf1 (by omega) (by omega)) (qFr_up ⟨by omega, by omega⟩)⟩
  rw [qup_s, hz0]
end
section
/-! Paths and State -/
variable {T : List (Nat × Nat)} {m : Nat → Int → Int} {r : Nat → Int → Option Nat}
def qPths (T : List (Nat × Nat)) (r : Nat → Int → Option Nat) (z : Nat) : Prop := T[z]? = some (0, 2) ∧ r z 0 = some (z + 1) ∧ r z 1 = some (z + 3) ∧ qRow T r (z + 1) 86 ∧ qRow T r (z + 3) 86
def qPh (m : Nat → Int → Int) (z : Nat) (ps : List (Int × Int)) : Prop := qRw m (z + 1) (ps.map Prod.fst) ∧ qRw m (z + 3) (ps.map Prod.snd) ∧ ps.length ≤ 86
theorem qPh_fr {P : Nat → Prop} {m m' : Nat → Int → Int} {z : Nat} {l : List (Int × Int)} (h : qPh m z l) (f : qFr P m m') (h0 : ∀ a, z < a → a < z + 5 → ¬ P a) : qPh m' z l :=
  ⟨qRw_fr h.1 f (h0 _ (by omega) (by omega)) (h0 _ (by omega) (by omega)), qRw_fr h.2.1 f (h0 _ (by omega) (by omega)) (h0 _ (by omega) (by omega)), h.2.2⟩
/-- the outer path of a path -/
def qOu (ps : List (Int × Int)) (p : Int) : Int := qAt (ps.map Prod.snd) p
def qLe (ps : List (Int × Int)) (p : Int) : Int := qAt (ps.map Prod.fst) p
theorem sPaths_size {z : Nat} {ps : List (Int × Int)} (h : qPths T r z) (hf : qPh m z ps) : qP m_Paths_size [qK z] (T, m, r) (qI ps.length) := by
  refine qr_al rfl rfl (w := ?_)
  refine qr_gr rfl h.1 (hr := h.2.1) (w := ?_)
  refine qr_callP rfl (sRow_len h.2.2.2.1 hf.1) (qrcv1 h.2.2.2.1.1) (w := ?_)
  rw [List.length_map]
  refine qW_ireturn rfl ?_
  exact ⟨rfl, rfl⟩
theorem sPaths_letterOf {z : Nat} {p : Int} {ps : List (Int × Int)} (h : qPths T r z) (hf : qPh m z ps) : qP m_Paths_letterOf [qK z, qI p] (T, m, r) (qI (qLe ps p)) := by
  refine qr_al rfl rfl (w := ?_)
  refine qr_gr rfl h.1 (hr := h.2.1) (w := ?_)
  refine qr_il rfl rfl (w := ?_)
  refine qr_callP rfl (sRow_at h.2.2.2.1 hf.1 (by rw [List.length_map]; exact hf.2.2)) (qrcv1 h.2.2.2.1.1) (w := ?_)
  refine qW_ireturn rfl ?_
  exact ⟨rfl, rfl⟩
theorem sPaths_outerOf {z : Nat} {p : Int} {ps : List (Int × Int)} (h : qPths T r z) (hf : qPh m z ps) : qP m_Paths_outerOf [qK z, qI p] (T, m, r) (qI (qOu ps p)) := by
  refine qr_al rfl rfl (w := ?_)
  refine qr_gr rfl h.1 (hr := h.2.2.1) (w := ?_)
  refine qr_il rfl rfl (w := ?_)
  refine qr_callP rfl (sRow_at h.2.2.2.2 hf.2.1 (by rw [List.length_map]; exact hf.2.2)) (qrcv1 h.2.2.2.2.1) (w := ?_)
  refine qW_ireturn rfl ?_
  exact ⟨rfl, rfl⟩
theorem sPaths_cutTo {z k : Nat} {ps : List (Int × Int)} (h : qPths T r z) (hf : qPh m z ps) : qW m_Paths_cutTo 0 [qK z, qI k] [] (T, m, r) (fun _ σ => ∃ m', σ = (T, m', r) ∧ qPh m' z (ps.take k) ∧ qFr (qIv z (z + 5)) m m') := by
  refine qr_al rfl rfl (w := ?_)
  refine qr_gr rfl h.1 (hr := h.2.1) (w := ?_)
  refine qr_il rfl rfl (w := ?_)
  refine qr_callV rfl (sRow_cut h.2.2.2.1 hf.1) (qrcv1 h.2.2.2.1.1) (w := fun _ σ hσ => ?_)
  obtain ⟨m1, rfl, hz1, hf1⟩ := hσ
  refine qr_al rfl rfl (w := ?_)
  refine qr_gr rfl h.1 (hr := h.2.2.1) (w := ?_)
  refine qr_il rfl rfl (w := ?_)
  refine qr_callV rfl (sRow_cut h.2.2.2.2 (qRw_fr hf.2.1 hf1 (by show ¬ z + 3 = z + 1; omega) (by show ¬ z + 3 + 1 = z + 1; omega))) (qrcv1 h.2.2.2.2.1) (w := fun _ σ hσ => ?_)
  obtain ⟨m2, rfl, hz2, hf2⟩ := hσ
  refine qW_return rfl ?_
  refine ⟨_, rfl, ⟨?_, ?_, by rw [List.length_take]; have := hf.2.2; omega⟩, qFr_tr (qFr_mo hf1 (fun a ha => ?_)) (qFr_mo hf2 (fun a ha => ?_))⟩
  · rw [List.map_take]
    exact qRw_fr hz1 hf2 (by show ¬ z + 1 = z + 3; omega) (by show ¬ z + 1 + 1 = z + 3; omega)
  · rw [List.map_take]
    exact hz2
  · subst ha
    constructor <;> omega
  · subst ha
    constructor <;> omega
/-- the place of a pair, from a on; the end if it isn't there -/
def qFi : List (Int × Int) → Int → Int → Nat → Nat
  | [], _, _, a => a
  | p :: t, l, u, a => if p.1 = l ∧ p.2 = u then a else qFi t l u (a + 1)
theorem qFi_le (ps : List (Int × Int)) (l u : Int) : ∀ a, a ≤ qFi ps l u a ∧ qFi ps l u a ≤ a + ps.length := by
  induction ps with
  | nil => intro a; simp [qFi]
  | cons p t ih =>
    intro a
    simp only [qFi, List.length_cons]
    have := ih (a + 1)
    split <;> omega
def qAd (ps : List (Int × Int)) (l u : Int) : List (Int × Int) := if qFi ps l u 0 < ps.length then ps else ps ++ [(l, u)]
theorem qdrop2 {α : Type} {l : List α} {i : Nat} (h : i < l.length) : l.drop i = l[i] :: l.drop (i + 1) := List.drop_eq_getElem_cons h
theorem qLe_at {ps : List (Int × Int)} {i : Nat} (h : i < ps.length) : qAt (ps.map Prod.fst) i = ps[i].1 := by
  rw [qAt_lt (by simpa using h)]
  simp
theorem qOu_at {ps : List (Int × Int)} {i : Nat} (h : i < ps.length) : qAt (ps.map Prod.snd) i = ps[i].2 := by
  rw [qAt_lt (by simpa using h)]
  simp
theorem sPaths_findOrAdd_loop {z : Nat} {l u : Int} {ps : List (Int × Int)} (h : qPths T r z) (hf : qPh m z ps) (hn : ps.length < 86) : ∀ (k i : Nat), i + k = ps.length → (qFi (ps.drop i) l u i = qFi ps l u 0) → qW m_Paths_findOrAdd 2 [qK z, qI l, qI u, qI i] [] (T, m, r) (fun x σ => ∃ m', σ = (T, m', r) ∧ x = qI (qFi ps l u 0) ∧ qPh m' z (qAd ps l u) ∧ qFr (qIv z (z + 5)) m m') := by
  intro k
  induction k with
  | zero =>
    intro i hik hfi
    rw [show ps.drop i = [] by rw [List.drop_eq_nil_iff]; omega] at hfi
    simp only [qFi] at hfi
    refine qr_il rfl rfl (w := ?_)
    refine qr_al rfl rfl (w := ?_)
    refine qr_gr rfl h.1 (hr := h.2.1) (w := ?_)
    refine qr_callP rfl (sRow_len h.2.2.2.1 hf.1) (qrcv1 h.2.2.2.1.1) (w := ?_)
    rw [List.length_map]
    refine qr_icge rfl (fun hc => ?_) (fun hc => ?_)
    · refine qr_al rfl rfl (w := ?_)
      refine qr_gr rfl h.1 (hr := h.2.1) (w := ?_)
      refine qr_il rfl rfl (w := ?_)
      refine qr_callV rfl (sRow_add h.2.2.2.1 hf.1 (by rw [List.length_map]; exact hn)) (qrcv1 h.2.2.2.1.1) (w := fun _ σ hσ => ?_)
      obtain ⟨m1, rfl, hz1, hf1⟩ := hσ
      have hf2 : qRw m1 (z + 3) (ps.map Prod.snd) := qRw_fr hf.2.1 hf1 (by show ¬ (z + 3 = z + 1 ∨ z + 3 = z + 1 + 1); omega) (by show ¬ (z + 3 + 1 = z + 1 ∨ z + 3 + 1 = z + 1 + 1); omega)
      refine qr_al rfl rfl (w := ?_)
      refine qr_gr rfl h.1 (hr := h.2.2.1) (w := ?_)
      refine qr_il rfl rfl (w := ?_)
      refine qr_callV rfl (sRow_add h.2.2.2.2 hf2 (by rw [List.length_map]; exact hn)) (qrcv1 h.2.2.2.2.1) (w := fun _ σ hσ => ?_)
      obtain ⟨m2, rfl, hz2, hf3⟩ := hσ
      have hz3 : qRw m2 (z + 1) (ps.map Prod.fst ++ [l]) := qRw_fr hz1 hf3 (by show ¬ (z + 1 = z + 3 ∨ z + 1 = z + 3 + 1); omega) (by show ¬ (z + 1 + 1 = z + 3 ∨ z + 1 + 1 = z + 3 + 1); omega)
      refine qr_al rfl rfl (w := ?_)
      refine qr_gr rfl h.1 (hr := h.2.1) (w := ?_)
      refine qr_callP rfl (sRow_len h.2.2.2.1 hz3) (qrcv1 h.2.2.2.1.1) (w := ?_)
      rw [List.length_append, List.length_map]
      refine qr_const rfl (w := ?_)
      refine qr_sub rfl (by simp only [List.length_cons, List.length_nil]; omega) (w := ?_)
      refine qW_ireturn rfl ?_
      refine ⟨_, rfl, ?_, ?_, qFr_tr (qFr_Pz hf1 (by omega) (by omega)) (qFr_Pz hf3 (by omega) (by omega))⟩
      · rw [← hfi]
        simp only [List.length_cons, List.length_nil]
        exact congrArg qI (by omega)
      · have hno : ¬ qFi ps l u 0 < ps.length := by omega
        unfold qAd
        rw [if_neg hno]
        refine ⟨?_, ?_, by simp; omega⟩
        · rw [List.map_append]; exact hz3
        · rw [List.map_append]; exact hz2
    · exact absurd hc (by omega)
  | succ k ih =>
    intro i hik hfi
    rw [qdrop2 (by omega)] at hfi
    refine qr_il rfl rfl (w := ?_)
    refine qr_al rfl rfl (w := ?_)
    refine qr_gr rfl h.1 (hr := h.2.1) (w := ?_)
    refine qr_callP rfl (sRow_len h.2.2.2.1 hf.1) (qrcv1 h.2.2.2.1.1) (w := ?_)
    rw [List.length_map]
    refine qr_icge rfl (fun hc => ?_) (fun hc => ?_)
    · exact absurd hc (by omega)
    · refine qr_al rfl rfl (w := ?_)
      refine qr_gr rfl h.1 (hr := h.2.1) (w := ?_)
      refine qr_il rfl rfl (w := ?_)
      refine qr_callP rfl (sRow_at h.2.2.2.1 hf.1 (by rw [List.length_map]; exact hf.2.2)) (qrcv1 h.2.2.2.1.1) (w := ?_)
      refine qr_il rfl rfl (w := ?_)
      refine qr_icne rfl (fun hcf => ?_) (fun hcf => ?_)
      · refine qr_inc3 rfl (by omega) (w := ?_)
        refine qr_goto rfl (w := ?_)
        rw [qLe_at (by omega)] at hcf
        first
          | (rw [qOu_at (by omega)] at hcff
             have hno : ¬ (ps[i].1 = l ∧ ps[i].2 = u) := fun e => hcff e.2
             simp only [qFi, if_neg hno] at hfi
             exact ih (i + 1) (by omega) hfi)
          | (have hno : ¬ (ps[i].1 = l ∧ ps[i].2 = u) := fun e => hcf e.1
             simp only [qFi, if_neg hno] at hfi
             exact ih (i + 1) (by omega) hfi)
      · refine qr_al rfl rfl (w := ?_)
        refine qr_gr rfl h.1 (hr := h.2.2.1) (w := ?_)
        refine qr_il rfl rfl (w := ?_)
        refine qr_callP rfl (sRow_at h.2.2.2.2 hf.2.1 (by rw [List.length_map]; exact hf.2.2)) (qrcv1 h.2.2.2.2.1) (w := ?_)
        refine qr_il rfl rfl (w := ?_)
        refine qr_icne rfl (fun hcff => ?_) (fun hcff => ?_)
        · refine qr_inc3 rfl (by omega) (w := ?_)
          refine qr_goto rfl (w := ?_)
          rw [qLe_at (by omega)] at hcf
          first
            | (rw [qOu_at (by omega)] at hcff
               have hno : ¬ (ps[i].1 = l ∧ ps[i].2 = u) := fun e => hcff e.2
               simp only [qFi, if_neg hno] at hfi
               exact ih (i + 1) (by omega) hfi)
            | (have hno : ¬ (ps[i].1 = l ∧ ps[i].2 = u) := fun e => hcf e.1
               simp only [qFi, if_neg hno] at hfi
               exact ih (i + 1) (by omega) hfi)
        · rw [qLe_at (by omega)] at hcf
          rw [qOu_at (by omega)] at hcff
          have hye : ps[i].1 = l ∧ ps[i].2 = u := ⟨hcf, hcff⟩
          simp only [qFi, if_pos hye] at hfi
          refine qr_il rfl rfl (w := ?_)
          refine qW_ireturn rfl ⟨m, rfl, by rw [hfi], ?_, qFr_rf⟩
          unfold qAd
          rw [if_pos (by omega)]
          exact hf
theorem sPaths_findOrAdd {z : Nat} {l u : Int} {ps : List (Int × Int)} (h : qPths T r z) (hf : qPh m z ps) (hn : ps.length < 86) : qW m_Paths_findOrAdd 0 [qK z, qI l, qI u, none] [] (T, m, r) (fun x σ => ∃ m', σ = (T, m', r) ∧ x = qI (qFi ps l u 0) ∧ qPh m' z (qAd ps l u) ∧ qFr (qIv z (z + 5)) m m') := by
  refine qr_const rfl (w := ?_)
  refine qr_is3 rfl (w := ?_)
  exact sPaths_findOrAdd_loop h hf hn ps.length 0 (by omega) rfl
/-- a path is another one, or stands within it, seen n levels up -/
def qWi (ps : List (Int × Int)) : Nat → Int → Int → Bool
  | 0, _, _ => false
  | n + 1, p, q => if p = -9 then false else if p = q then true else qWi ps n (qOu ps p) q
theorem sPaths_isWithin_loop {z : Nat} {p0 q : Int} {ps : List (Int × Int)} (h : qPths T r z) (hf : qPh m z ps) : ∀ (k i : Nat) (p : Int), i + k = 4 → qP2 m_Paths_isWithin 5 [qK z, qI p0, qI q, qI p, qI i] (T, m, r) (qI (qbi (qWi ps k p q))) := by
  intro k
  induction k with
  | zero =>
    intro i p hik
    unfold qP2
    refine qr_il rfl rfl (w := ?_)
    refine qr_const rfl (w := ?_)
    refine qr_icge rfl (fun hc => ?_) (fun hc => ?_)
    · refine qr_const rfl (w := ?_)
      refine qW_zreturn rfl (by first | exact Or.inl rfl | exact Or.inr rfl | (simp only [qbi]; split <;> simp)) ?_
      exact ⟨rfl, rfl⟩
    · exact absurd hc (by omega)
  | succ k ih =>
    intro i p hik
    unfold qP2
    refine qr_il rfl rfl (w := ?_)
    refine qr_const rfl (w := ?_)
    refine qr_icge rfl (fun hc => ?_) (fun hc => ?_)
    · refine qr_const rfl (w := ?_)
      refine qW_zreturn rfl (by first | exact Or.inl rfl | exact Or.inr rfl | (simp only [qbi]; split <;> simp)) ?_
      first
        | exact absurd hc (by omega)
        | exact ⟨by simp only [qWi, if_pos hcf, qbi_f], rfl⟩
    · refine qr_il rfl rfl (w := ?_)
      refine qr_const rfl (w := ?_)
      refine qr_iceq rfl (fun hcf => ?_) (fun hcf => ?_)
      · refine qr_const rfl (w := ?_)
        refine qW_zreturn rfl (by first | exact Or.inl rfl | exact Or.inr rfl | (simp only [qbi]; split <;> simp)) ?_
        first
          | exact absurd hc (by omega)
          | exact ⟨by simp only [qWi, if_pos hcf, qbi_f], rfl⟩
      · refine qr_il rfl rfl (w := ?_)
        refine qr_il rfl rfl (w := ?_)
        refine qr_icne rfl (fun hcff => ?_) (fun hcff => ?_)
        · refine qr_al rfl rfl (w := ?_)
          refine qr_gr rfl h.1 (hr := h.2.2.1) (w := ?_)
          refine qr_il rfl rfl (w := ?_)
          refine qr_callP rfl (sRow_at h.2.2.2.2 hf.2.1 (by rw [List.length_map]; exact hf.2.2)) (qrcv1 h.2.2.2.2.1) (w := ?_)
          refine qr_is3 rfl (w := ?_)
          refine qr_inc4 rfl (by omega) (w := ?_)
          refine qr_goto rfl (w := ?_)
          have h1 := ih (i + 1) (qOu ps p) (by omega)
          simp only [qWi, if_neg hcf, if_neg hcff]
          exact h1
        · refine qr_const rfl (w := ?_)
          refine qW_zreturn rfl (Or.inr rfl) ⟨?_, rfl⟩
          simp only [qWi, if_neg hcf, if_pos hcff, qbi_t]
theorem sPaths_isWithin {z : Nat} {p q : Int} {ps : List (Int × Int)} (h : qPths T r z) (hf : qPh m z ps) : qP m_Paths_isWithin [qK z, qI p, qI q, none, none] (T, m, r) (qI (qbi (qWi ps 4 p q))) := by
  refine qr_il rfl rfl (w := ?_)
  refine qr_is3 rfl (w := ?_)
  refine qr_const rfl (w := ?_)
  refine qr_is4 rfl (w := ?_)
  exact sPaths_isWithin_loop h hf 4 0 p (by omega)
def qSt (T : List (Nat × Nat)) (r : Nat → Int → Option Nat) (z : Nat) : Prop := T[z]? = some (0, 6) ∧ r z 0 = some (z + 1) ∧ r z 1 = some (z + 3) ∧ qRow T r (z + 1) 30 ∧ qRow T r (z + 3) 300
def qSc (m : Nat → Int → Int) (z : Nat) (rs vs : List Int) (pk sk bd : Int) : Prop := qRw m (z + 1) rs ∧ qRw m (z + 3) vs ∧ m z 2 = pk ∧ m z 3 = sk ∧ m z 4 = bd ∧ rs.length ≤ 30 ∧ vs.length = 10 * rs.length
theorem qSc_fr {P : Nat → Prop} {m m' : Nat → Int → Int} {z : Nat} {rs vs : List Int} {pk sk bd : Int} (h : qSc m z rs vs pk sk bd) (f : qFr P m m') (h0 : ∀ a, z ≤ a → a < z + 5 → ¬ P a) : qSc m' z rs vs pk sk bd :=
  ⟨qRw_fr h.1 f (h0 _ (by omega) (by omega)) (h0 _ (by omega) (by omega)), qRw_fr h.2.1 f (h0 _ (by omega) (by omega)) (h0 _ (by omega) (by omega)), by rw [f z (h0 _ (by omega) (by omega))]; exact h.2.2.1, by rw [f z (h0 _ (by omega) (by omega))]; exact h.2.2.2.1, by rw [f z (h0 _ (by omega) (by omega))]; exact h.2.2.2.2.1, h.2.2.2.2.2.1, h.2.2.2.2.2.2⟩
/-- how many are x; how many aren't -9; the place of the (n+1)th x -/
def qCt : List Int → Int → Int
  | [], _ => 0
  | f :: t, x => (if f = x then 1 else 0) + qCt t x
def qNe : List Int → Int
  | [] => 0
  | f :: t => (if f ≠ -9 then 1 else 0) + qNe t
def qNt : List Int → Int → Int → Int → Int
  | [], _, _, _ => -9
  | f :: t, x, n, a => if f = x then (if n = 0 then a else qNt t x (n - 1) (a + 1)) else qNt t x n (a + 1)
theorem qCt_le (l : List Int) (x : Int) : 0 ≤ qCt l x ∧ qCt l x ≤ l.length := by
  induction l with
  | nil => simp [qCt]
  | cons f t ih =>
    simp only [qCt, List.length_cons]
    split <;> omega
theorem qNe_le (l : List Int) : 0 ≤ qNe l ∧ qNe l ≤ l.length := by
  induction l with
  | nil => simp [qNe]
  | cons f t ih =>
    simp only [qNe, List.length_cons]
    split <;> omega
theorem sState_shapeOf {z : Nat} {rs vs : List Int} {pk sk bd : Int} (h : qSt T r z) (hf : qSc m z rs vs pk sk bd) {i : Int} : qP m_State_shapeOf [qK z, qI i] (T, m, r) (qI (qAt rs i)) := by
  refine qr_al rfl rfl (w := ?_)
  refine qr_gr rfl h.1 (hr := h.2.1) (w := ?_)
  refine qr_il rfl rfl (w := ?_)
  refine qr_callP rfl (sRow_at h.2.2.2.1 hf.1 hf.2.2.2.2.2.1) (qrcv1 h.2.2.2.1.1) (w := ?_)
  refine qW_ireturn rfl ?_
  exact ⟨rfl, rfl⟩
theorem sState_has {z : Nat} {rs vs : List Int} {pk sk bd : Int} (h : qSt T r z) (hf : qSc m z rs vs pk sk bd) {i : Int} : qP m_State_has [qK z, qI i] (T, m, r) (qI (qbi (decide (qAt rs i ≠ -9)))) := by
  refine qr_al rfl rfl (w := ?_)
  refine qr_gr rfl h.1 (hr := h.2.1) (w := ?_)
  refine qr_il rfl rfl (w := ?_)
  refine qr_callP rfl (sRow_at h.2.2.2.1 hf.1 hf.2.2.2.2.2.1) (qrcv1 h.2.2.2.1.1) (w := ?_)
  refine qr_const rfl (w := ?_)
  refine qr_iceq rfl (fun hc => ?_) (fun hc => ?_)
  · refine qr_const rfl (w := ?_)
    refine qW_zreturn rfl (by first | exact Or.inl rfl | exact Or.inr rfl | (simp only [qbi]; split <;> simp)) ?_
    exact ⟨by simp [qbi, hc], rfl⟩
  · refine qr_const rfl (w := ?_)
    refine qr_goto rfl (w := ?_)
    refine qW_zreturn rfl (by first | exact Or.inl rfl | exact Or.inr rfl | (simp only [qbi]; split <;> simp)) ?_
    exact ⟨by simp [qbi, hc], rfl⟩
theorem sState_recordsRead {z : Nat} {rs vs : List Int} {pk sk bd : Int} (h : qSt T r z) (hf : qSc m z rs vs pk sk bd) : qP m_State_recordsRead [qK z] (T, m, r) (qI rs.length) := by
  refine qr_al rfl rfl (w := ?_)
  refine qr_gr rfl h.1 (hr := h.2.1) (w := ?_)
  refine qr_callP rfl (sRow_len h.2.2.2.1 hf.1) (qrcv1 h.2.2.2.1.1) (w := ?_)
  refine qW_ireturn rfl ?_
  exact ⟨rfl, rfl⟩
theorem sState_recordsLeft_loop {z : Nat} {rs vs : List Int} {pk sk bd : Int} (h : qSt T r z) (hf : qSc m z rs vs pk sk bd) : ∀ (k i : Nat) (a : Int), i + k = rs.length → 0 ≤ a → a ≤ i → qP2 m_State_recordsLeft 4 [qK z, qI a, qI i] (T, m, r) (qI (a + qNe (rs.drop i))) := by
  have h30 := hf.2.2.2.2.2.1
  intro k
  induction k with
  | zero =>
    intro i a hik ha hb
    rw [qdrop_nil (by omega)]
    unfold qP2
    refine qr_il rfl rfl (w := ?_)
    refine qr_al rfl rfl (w := ?_)
    refine qr_gr rfl h.1 (hr := h.2.1) (w := ?_)
    refine qr_callP rfl (sRow_len h.2.2.2.1 hf.1) (qrcv1 h.2.2.2.1.1) (w := ?_)
    refine qr_icge rfl (fun hc => ?_) (fun hc => ?_)
    · refine qr_il rfl rfl (w := ?_)
      refine qW_ireturn rfl ?_
      exact ⟨by simp [qNe], rfl⟩
    · exact absurd hc (by omega)
  | succ k ih =>
    intro i a hik ha hb
    rw [qdrop (by omega)]
    unfold qP2
    refine qr_il rfl rfl (w := ?_)
    refine qr_al rfl rfl (w := ?_)
    refine qr_gr rfl h.1 (hr := h.2.1) (w := ?_)
    refine qr_callP rfl (sRow_len h.2.2.2.1 hf.1) (qrcv1 h.2.2.2.1.1) (w := ?_)
    refine qr_icge rfl (fun hc => ?_) (fun hc => ?_)
    · exact absurd hc (by omega)
    · refine qr_al rfl rfl (w := ?_)
      refine qr_il rfl rfl (w := ?_)
      refine qr_callP rfl (sState_has h hf) (qrcv1 h.1) (w := ?_)
      refine qr_ifeqB rfl (fun hcf => ?_) (fun hcf => ?_)
      · refine qr_inc2 rfl (by omega) (w := ?_)
        refine qr_goto rfl (w := ?_)
        rw [qAt_lt (by omega)] at *
        have h1 := ih (i + 1) (a) (by omega) (by omega) (by omega)
        have h2 : a + qNe (rs[i] :: rs.drop (i + 1)) = (a) + qNe (rs.drop (i + 1)) := by
          simp only [decide_eq_true_eq, decide_eq_false_iff_not] at *
          simp only [qNe]
          split <;> (try omega)
          all_goals contradiction
        rw [h2]
        exact h1
      · refine qr_inc1 rfl (by omega) (w := ?_)
        refine qr_inc2 rfl (by omega) (w := ?_)
        refine qr_goto rfl (w := ?_)
        rw [qAt_lt (by omega)] at *
        have h1 := ih (i + 1) (a + 1) (by omega) (by omega) (by omega)
        have h2 : a + qNe (rs[i] :: rs.drop (i + 1)) = (a + 1) + qNe (rs.drop (i + 1)) := by
          simp only [decide_eq_true_eq, decide_eq_false_iff_not] at *
          simp only [qNe]
          split <;> (try omega)
          all_goals contradiction
        rw [h2]
        exact h1
theorem sState_recordsLeft {z : Nat} {rs vs : List Int} {pk sk bd : Int} (h : qSt T r z) (hf : qSc m z rs vs pk sk bd) : qP m_State_recordsLeft [qK z, none, none] (T, m, r) (qI (qNe rs)) := by
  refine qr_const rfl (w := ?_)
  refine qr_is1 rfl (w := ?_)
  refine qr_const rfl (w := ?_)
  refine qr_is2 rfl (w := ?_)
  have h1 := sState_recordsLeft_loop h hf rs.length 0 0 (by omega) (by omega) (by omega)
  rw [Int.zero_add] at h1
  exact h1
theorem sState_recordsWith_loop {z : Nat} {rs vs : List Int} {pk sk bd : Int} (h : qSt T r z) (hf : qSc m z rs vs pk sk bd) {x : Int} : ∀ (k i : Nat) (a : Int), i + k = rs.length → 0 ≤ a → a ≤ i → qP2 m_State_recordsWith 4 [qK z, qI x, qI a, qI i] (T, m, r) (qI (a + qCt (rs.drop i) x)) := by
  have h30 := hf.2.2.2.2.2.1
  intro k
  induction k with
  | zero =>
    intro i a hik ha hb
    rw [qdrop_nil (by omega)]
    unfold qP2
    refine qr_il rfl rfl (w := ?_)
    refine qr_al rfl rfl (w := ?_)
    refine qr_gr rfl h.1 (hr := h.2.1) (w := ?_)
    refine qr_callP rfl (sRow_len h.2.2.2.1 hf.1) (qrcv1 h.2.2.2.1.1) (w := ?_)
    refine qr_icge rfl (fun hc => ?_) (fun hc => ?_)
    · refine qr_il rfl rfl (w := ?_)
      refine qW_ireturn rfl ?_
      exact ⟨by simp [qCt], rfl⟩
    · exact absurd hc (by omega)
  | succ k ih =>
    intro i a hik ha hb
    rw [qdrop (by omega)]
    unfold qP2
    refine qr_il rfl rfl (w := ?_)
    refine qr_al rfl rfl (w := ?_)
    refine qr_gr rfl h.1 (hr := h.2.1) (w := ?_)
    refine qr_callP rfl (sRow_len h.2.2.2.1 hf.1) (qrcv1 h.2.2.2.1.1) (w := ?_)
    refine qr_icge rfl (fun hc => ?_) (fun hc => ?_)
    · exact absurd hc (by omega)
    · refine qr_al rfl rfl (w := ?_)
      refine qr_gr rfl h.1 (hr := h.2.1) (w := ?_)
      refine qr_il rfl rfl (w := ?_)
      refine qr_callP rfl (sRow_at h.2.2.2.1 hf.1 hf.2.2.2.2.2.1) (qrcv1 h.2.2.2.1.1) (w := ?_)
      refine qr_il rfl rfl (w := ?_)
      refine qr_icne rfl (fun hcf => ?_) (fun hcf => ?_)
      · refine qr_inc3 rfl (by omega) (w := ?_)
        refine qr_goto rfl (w := ?_)
        rw [qAt_lt (by omega)] at *
        have h1 := ih (i + 1) (a) (by omega) (by omega) (by omega)
        have h2 : a + qCt (rs[i] :: rs.drop (i + 1)) x = (a) + qCt (rs.drop (i + 1)) x := by
          simp only [qCt]
          split <;> (try omega)
          all_goals contradiction
        rw [h2]
        exact h1
      · refine qr_inc2 rfl (by omega) (w := ?_)
        refine qr_inc3 rfl (by omega) (w := ?_)
        refine qr_goto rfl (w := ?_)
        rw [qAt_lt (by omega)] at *
        have h1 := ih (i + 1) (a + 1) (by omega) (by omega) (by omega)
        have h2 : a + qCt (rs[i] :: rs.drop (i + 1)) x = (a + 1) + qCt (rs.drop (i + 1)) x := by
          simp only [qCt]
          split <;> (try omega)
          all_goals contradiction
        rw [h2]
        exact h1
theorem sState_recordsWith {z : Nat} {rs vs : List Int} {pk sk bd : Int} (h : qSt T r z) (hf : qSc m z rs vs pk sk bd) {x : Int} : qP m_State_recordsWith [qK z, qI x, none, none] (T, m, r) (qI (qCt rs x)) := by
  refine qr_const rfl (w := ?_)
  refine qr_is2 rfl (w := ?_)
  refine qr_const rfl (w := ?_)
  refine qr_is3 rfl (w := ?_)
  have h1 := sState_recordsWith_loop h hf (x := x) rs.length 0 0 (by omega) (by omega) (by omega)
  rw [Int.zero_add] at h1
  exact h1
theorem sState_recordWith_loop {z : Nat} {rs vs : List Int} {pk sk bd : Int} (h : qSt T r z) (hf : qSc m z rs vs pk sk bd) {x n : Int} : ∀ (k i : Nat) (a : Int), i + k = rs.length → 0 ≤ a → a ≤ i → qP2 m_State_recordWith 5 [qK z, qI x, qI n, qI a, qI i] (T, m, r) (qI (qNt (rs.drop i) x (n - a) i)) := by
  have h30 := hf.2.2.2.2.2.1
  intro k
  induction k with
  | zero =>
    intro i a hik ha hb
    rw [qdrop_nil (by omega)]
    unfold qP2
    refine qr_il rfl rfl (w := ?_)
    refine qr_al rfl rfl (w := ?_)
    refine qr_gr rfl h.1 (hr := h.2.1) (w := ?_)
    refine qr_callP rfl (sRow_len h.2.2.2.1 hf.1) (qrcv1 h.2.2.2.1.1) (w := ?_)
    refine qr_icge rfl (fun hc => ?_) (fun hc => ?_)
    · refine qr_const rfl (w := ?_)
      refine qW_ireturn rfl ?_
      exact ⟨by simp [qNt], rfl⟩
    · exact absurd hc (by omega)
  | succ k ih =>
    intro i a hik ha hb
    rw [qdrop (by omega)]
    unfold qP2
    refine qr_il rfl rfl (w := ?_)
    refine qr_al rfl rfl (w := ?_)
    refine qr_gr rfl h.1 (hr := h.2.1) (w := ?_)
    refine qr_callP rfl (sRow_len h.2.2.2.1 hf.1) (qrcv1 h.2.2.2.1.1) (w := ?_)
    refine qr_icge rfl (fun hc => ?_) (fun hc => ?_)
    · exact absurd hc (by omega)
    · refine qr_al rfl rfl (w := ?_)
      refine qr_gr rfl h.1 (hr := h.2.1) (w := ?_)
      refine qr_il rfl rfl (w := ?_)
      refine qr_callP rfl (sRow_at h.2.2.2.1 hf.1 hf.2.2.2.2.2.1) (qrcv1 h.2.2.2.1.1) (w := ?_)
      refine qr_il rfl rfl (w := ?_)
      refine qr_icne rfl (fun hcf => ?_) (fun hcf => ?_)
      · refine qr_inc4 rfl (by omega) (w := ?_)
        refine qr_goto rfl (w := ?_)
        rw [qAt_lt (by omega)] at *
        have h1 := ih (i + 1) (a) (by omega) (by omega) (by omega)
        have h2 : qNt (rs[i] :: rs.drop (i + 1)) x (n - a) i = qNt (rs.drop (i + 1)) x (n - (a)) ((i + 1 : Nat) : Int) := by
          first
            | (simp only [qNt, if_neg hcf]; congr 1; done)
            | (simp only [qNt, if_pos hcf]
               rw [if_neg (by omega), show n - a - 1 = n - (a + 1) by omega]
               congr 1)
        rw [h2]
        exact h1
      · refine qr_il rfl rfl (w := ?_)
        refine qr_il rfl rfl (w := ?_)
        refine qr_icne rfl (fun hcff => ?_) (fun hcff => ?_)
        · refine qr_inc3 rfl (by omega) (w := ?_)
          refine qr_inc4 rfl (by omega) (w := ?_)
          refine qr_goto rfl (w := ?_)
          rw [qAt_lt (by omega)] at *
          have h1 := ih (i + 1) (a + 1) (by omega) (by omega) (by omega)
          have h2 : qNt (rs[i] :: rs.drop (i + 1)) x (n - a) i = qNt (rs.drop (i + 1)) x (n - (a + 1)) ((i + 1 : Nat) : Int) := by
            first
              | (simp only [qNt, if_neg hcf]; congr 1; done)
              | (simp only [qNt, if_pos hcf]
                 rw [if_neg (by omega), show n - a - 1 = n - (a + 1) by omega]
                 congr 1)
          rw [h2]
          exact h1
        · rw [qAt_lt (by omega)] at *
          refine qr_il rfl rfl (w := ?_)
          refine qW_ireturn rfl ⟨?_, rfl⟩
          simp only [qNt, if_pos hcf]
          rw [if_pos (by omega)]
theorem sState_recordWith {z : Nat} {rs vs : List Int} {pk sk bd : Int} (h : qSt T r z) (hf : qSc m z rs vs pk sk bd) {x n : Int} : qP m_State_recordWith [qK z, qI x, qI n, none, none] (T, m, r) (qI (qNt rs x n 0)) := by
  refine qr_const rfl (w := ?_)
  refine qr_is3 rfl (w := ?_)
  refine qr_const rfl (w := ?_)
  refine qr_is4 rfl (w := ?_)
  have h1 := sState_recordWith_loop h hf (x := x) (n := n) rs.length 0 0 (by omega) (by omega) (by omega)
  rw [Int.sub_zero] at h1
  exact h1
theorem sState_valueAt {z : Nat} {rs vs : List Int} {pk sk bd : Int} (h : qSt T r z) (hf : qSc m z rs vs pk sk bd) {i j : Int} (hi : -1000 ≤ i ∧ i ≤ 1000) (hj : -1000 ≤ j ∧ j ≤ 1000) : qP m_State_valueAt [qK z, qI i, qI j] (T, m, r) (qI (qAt vs (i * 10 + j))) := by
  refine qr_al rfl rfl (w := ?_)
  refine qr_gr rfl h.1 (hr := h.2.2.1) (w := ?_)
  refine qr_il rfl rfl (w := ?_)
  refine qr_const rfl (w := ?_)
  refine qr_mul rfl (by omega) (w := ?_)
  refine qr_il rfl rfl (w := ?_)
  refine qr_add rfl (by omega) (w := ?_)
  refine qr_callP rfl (sRow_at h.2.2.2.2 hf.2.1 (by have h1 := hf.2.2.2.2.2.1; have h2 := hf.2.2.2.2.2.2; omega)) (qrcv1 h.2.2.2.2.1) (w := ?_)
  refine qW_ireturn rfl ?_
  exact ⟨rfl, rfl⟩
theorem sState_setValue {z : Nat} {rs vs : List Int} {pk sk bd : Int} (h : qSt T r z) (hf : qSc m z rs vs pk sk bd) {i : Nat} {j x : Int} (hi : i < rs.length) (hj : 0 ≤ j ∧ j < 10) : qW m_State_setValue 0 [qK z, qI i, qI j, qI x] [] (T, m, r) (fun _ σ => ∃ m', σ = (T, m', r) ∧ qSc m' z rs (vs.set (i * 10 + j.toNat) x) pk sk bd ∧ qFr (qIv (z + 3) (z + 5)) m m') := by
  have h1 := hf.2.2.2.2.2.1
  have h2 := hf.2.2.2.2.2.2
  refine qr_al rfl rfl (w := ?_)
  refine qr_gr rfl h.1 (hr := h.2.2.1) (w := ?_)
  refine qr_il rfl rfl (w := ?_)
  refine qr_const rfl (w := ?_)
  refine qr_mul rfl (by omega) (w := ?_)
  refine qr_il rfl rfl (w := ?_)
  refine qr_add rfl (by omega) (w := ?_)
  refine qr_il rfl rfl (w := ?_)
  refine qr_callV rfl (sRow_put (i := (i : Int) * 10 + j) h.2.2.2.2 hf.2.1 (by omega) ⟨by omega, by omega⟩) (qrcv1 h.2.2.2.2.1) (w := fun _ σ hσ => ?_)
  obtain ⟨m1, rfl, hz1, hf1⟩ := hσ
  refine qW_return rfl ?_
  have e : ((i : Int) * 10 + j).toNat = i * 10 + j.toNat := by omega
  rw [e] at hz1
  have hk : m1 z = m z := hf1 z (by show ¬ (z = z + 3 ∨ z = z + 3 + 1); omega)
  refine ⟨_, rfl, ⟨qRw_fr hf.1 hf1 (by show ¬ (z + 1 = z + 3 ∨ z + 1 = z + 3 + 1); omega) (by show ¬ (z + 1 + 1 = z + 3 ∨ z + 1 + 1 = z + 3 + 1); omega), hz1, by rw [hk]; exact hf.2.2.1, by rw [hk]; exact hf.2.2.2.1, by rw [hk]; exact hf.2.2.2.2.1, h1, by rw [List.length_set]; exact h2⟩, qFr_Pz hf1 (by omega) (by omega)⟩
theorem sState_setShapeOf {z : Nat} {rs vs : List Int} {pk sk bd : Int} (h : qSt T r z) (hf : qSc m z rs vs pk sk bd) {i : Nat} {x : Int} (hi : i < rs.length) : qW m_State_setShapeOf 0 [qK z, qI i, qI x] [] (T, m, r) (fun _ σ => ∃ m', σ = (T, m', r) ∧ qSc m' z (rs.set i x) vs pk sk bd ∧ qFr (qIv (z + 1) (z + 3)) m m') := by
  have h1 := hf.2.2.2.2.2.1
  have h2 := hf.2.2.2.2.2.2
  refine qr_al rfl rfl (w := ?_)
  refine qr_gr rfl h.1 (hr := h.2.1) (w := ?_)
  refine qr_il rfl rfl (w := ?_)
  refine qr_il rfl rfl (w := ?_)
  refine qr_callV rfl (sRow_put (i := (i : Int)) h.2.2.2.1 hf.1 (by omega) ⟨by omega, by omega⟩) (qrcv1 h.2.2.2.1.1) (w := fun _ σ hσ => ?_)
  obtain ⟨m1, rfl, hz1, hf1⟩ := hσ
  refine qW_return rfl ?_
  rw [Int.toNat_natCast] at hz1
  have hk : m1 z = m z := hf1 z (by show ¬ (z = z + 1 ∨ z = z + 1 + 1); omega)
  refine ⟨_, rfl, ⟨hz1, qRw_fr hf.2.1 hf1 (by show ¬ (z + 3 = z + 1 ∨ z + 3 = z + 1 + 1); omega) (by show ¬ (z + 3 + 1 = z + 1 ∨ z + 3 + 1 = z + 1 + 1); omega), by rw [hk]; exact hf.2.2.1, by rw [hk]; exact hf.2.2.2.1, by rw [hk]; exact hf.2.2.2.2.1, by rw [List.length_set]; exact h1, by rw [List.length_set]; exact h2⟩, qFr_Pz hf1 (by omega) (by omega)⟩
theorem sState_copyFrom {z y : Nat} {rs vs : List Int} {pk sk bd : Int} (h : qSt T r z) (h' : qSt T r y) (hg : qSc m y rs vs pk sk bd) (hd : z + 5 ≤ y ∨ y + 5 ≤ z) : qW m_State_copyFrom 0 [qK z, qK y] [] (T, m, r) (fun _ σ => ∃ m', σ = (T, m', r) ∧ qSc m' z rs vs pk sk bd ∧ qFr (qIv z (z + 5)) m m') := by
  have h1 := hg.2.2.2.2.2.1
  have h2 := hg.2.2.2.2.2.2
  refine qr_al rfl rfl (w := ?_)
  refine qr_gr rfl h.1 (hr := (by first | exact h.2.1 | exact h'.2.1)) (w := ?_)
  refine qr_al rfl rfl (w := ?_)
  refine qr_gr rfl h'.1 (hr := (by first | exact h.2.1 | exact h'.2.1)) (w := ?_)
  refine qr_callV rfl (sRow_copy h.2.2.2.1 h'.2.2.2.1 hg.1 h1 h1 (by omega)) (qrcv1 h.2.2.2.1.1) (w := fun _ σ hσ => ?_)
  obtain ⟨m1, rfl, hz1, hf1⟩ := hσ
  have ng : ∀ a, y ≤ a → a < y + 5 → ¬ qPz (z + 1) a := by intro a ha hb; show ¬ (a = z + 1 ∨ a = z + 1 + 1); omega
  have hg1 := qSc_fr hg hf1 ng
  refine qr_al rfl rfl (w := ?_)
  refine qr_gr rfl h.1 (hr := (by first | exact h.2.2.1 | exact h'.2.2.1)) (w := ?_)
  refine qr_al rfl rfl (w := ?_)
  refine qr_gr rfl h'.1 (hr := (by first | exact h.2.2.1 | exact h'.2.2.1)) (w := ?_)
  refine qr_callV rfl (sRow_copy h.2.2.2.2 h'.2.2.2.2 hg1.2.1 (by omega) (by omega) (by omega)) (qrcv1 h.2.2.2.2.1) (w := fun _ σ hσ => ?_)
  obtain ⟨m2, rfl, hz2, hf2⟩ := hσ
  have ng2 : ∀ a, y ≤ a → a < y + 5 → ¬ qPz (z + 3) a := by intro a ha hb; show ¬ (a = z + 3 ∨ a = z + 3 + 1); omega
  have hg2 := qSc_fr hg1 hf2 ng2
  have hz3 : qRw m2 (z + 1) rs := qRw_fr hz1 hf2 (by show ¬ (z + 1 = z + 3 ∨ z + 1 = z + 3 + 1); omega) (by show ¬ (z + 1 + 1 = z + 3 ∨ z + 1 + 1 = z + 3 + 1); omega)
  refine qr_al rfl rfl (w := ?_)
  refine qr_al rfl rfl (w := ?_)
  refine qr_gi rfl h'.1 (w := ?_)
  refine qr_pi rfl h.1 (w := ?_)
  refine qr_al rfl rfl (w := ?_)
  refine qr_al rfl rfl (w := ?_)
  refine qr_gi rfl h'.1 (w := ?_)
  refine qr_pi rfl h.1 (w := ?_)
  refine qr_al rfl rfl (w := ?_)
  refine qr_al rfl rfl (w := ?_)
  refine qr_gi rfl h'.1 (w := ?_)
  refine qr_pi rfl h.1 (w := ?_)
  refine qW_return rfl ?_
  have hzy : y ≠ z := by omega
  refine ⟨_, rfl, ⟨⟨by rw [qup_z (by omega), qup_z (by omega), qup_z (by omega)]; exact hz3.1, fun i hi => by rw [qup_z (by omega), qup_z (by omega), qup_z (by omega)]; exact hz3.2 i hi⟩, ⟨by rw [qup_z (by omega), qup_z (by omega), qup_z (by omega)]; exact hz2.1, fun i hi => by rw [qup_z (by omega), qup_z (by omega), qup_z (by omega)]; exact hz2.2 i hi⟩, ?_, ?_, ?_, h1, h2⟩, ?_⟩
  · rw [qup_i (by decide), qup_i (by decide), qup_s]; exact hg2.2.2.1
  · rw [qup_i (by decide), qup_s, qup_z hzy]; exact hg2.2.2.2.1
  · rw [qup_s, qup_z hzy, qup_z hzy]; exact hg2.2.2.2.2.1
  · exact qFr_tr (qFr_Pz hf1 (by omega) (by omega)) (qFr_tr (qFr_Pz hf2 (by omega) (by omega)) (qFr_tr (qFr_up ⟨by omega, by omega⟩) (qFr_tr (qFr_up ⟨by omega, by omega⟩) (qFr_up ⟨by omega, by omega⟩))))
/-- a record's values, filled up to ten -/
def qPad (ns : List Int) (n : Nat) : List Int := (List.range n).map (fun (i : Nat) => qAt ns i)
theorem qPad_succ (ns : List Int) (n : Nat) : qPad ns (n + 1) = qPad ns n ++ [qAt ns n] := by simp [qPad, List.range_succ]
theorem qPad_len (ns : List Int) (n : Nat) : (qPad ns n).length = n := by simp [qPad]
theorem sState_addRecord_loop {z y : Nat} {sh : Int} {rs ns vs : List Int} {n' : Nat} (h : qSt T r z) (h' : qRow T r y n') (hn' : ns.length ≤ n') (hd : y + 2 ≤ z ∨ z + 5 ≤ y) (hr30 : rs.length < 30) (hv : vs.length = 10 * rs.length) (P : Int → (Nat → Int → Int) → Prop) :
    ∀ (k i : Nat) (m : Nat → Int → Int), i + k = 10 → qRw m y ns → qRw m (z + 1) (rs ++ [sh]) → qRw m (z + 3) (vs ++ qPad ns i) → (∀ m', qRw m' (z + 1) (rs ++ [sh]) → qRw m' (z + 3) (vs ++ qPad ns 10) → qFr (qIv (z + 3) (z + 5)) m m' → P rs.length m') → qW m_State_addRecord 10 [qK z, qI sh, qK y, qI i] [] (T, m, r) (fun x σ => ∃ m', σ = (T, m', r) ∧ ∃ a, x = qI a ∧ P a m') := by
  intro k
  induction k with
  | zero =>
    intro i m hik hy hz hw hP
    have hi : i = 10 := by omega
    subst hi
    refine qr_il rfl rfl (w := ?_)
    refine qr_const rfl (w := ?_)
    refine qr_icge rfl (fun hc => ?_) (fun hc => ?_)
    · refine qr_al rfl rfl (w := ?_)
      refine qr_gr rfl h.1 (hr := h.2.1) (w := ?_)
      refine qr_callP rfl (sRow_len h.2.2.2.1 hz) (qrcv1 h.2.2.2.1.1) (w := ?_)
      rw [List.length_append]
      refine qr_const rfl (w := ?_)
      refine qr_sub rfl (by simp only [List.length_cons, List.length_nil]; omega) (w := ?_)
      refine qW_ireturn rfl ?_
      refine ⟨m, rfl, _, rfl, ?_⟩
      simp only [List.length_cons, List.length_nil]
      rw [show ((rs.length + (0 + 1) : Nat) : Int) - 1 = (rs.length : Int) by omega]
      exact hP m hz hw qFr_rf
    · exact absurd hc (by omega)
  | succ k ih =>
    intro i m hik hy hz hw hP
    refine qr_il rfl rfl (w := ?_)
    refine qr_const rfl (w := ?_)
    refine qr_icge rfl (fun hc => ?_) (fun hc => ?_)
    · exact absurd hc (by omega)
    · refine qr_al rfl rfl (w := ?_)
      refine qr_gr rfl h.1 (hr := h.2.2.1) (w := ?_)
      refine qr_al rfl rfl (w := ?_)
      refine qr_il rfl rfl (w := ?_)
      refine qr_callP rfl (sRow_at h' hy hn') (qrcv1 h'.1) (w := ?_)
      refine qr_callV rfl (sRow_add h.2.2.2.2 hw (by rw [List.length_append, qPad_len]; omega)) (qrcv1 h.2.2.2.2.1) (w := fun _ σ hσ => ?_)
      obtain ⟨m1, rfl, hz1, hf1⟩ := hσ
      refine qr_inc3 rfl (by omega) (w := ?_)
      refine qr_goto rfl (w := ?_)
      rw [List.append_assoc, ← qPad_succ] at hz1
      refine ih (i + 1) m1 (by omega) (qRw_fr hy hf1 (by show ¬ (y = z + 3 ∨ y = z + 3 + 1); omega) (by show ¬ (y + 1 = z + 3 ∨ y + 1 = z + 3 + 1); omega)) (qRw_fr hz hf1 (by show ¬ (z + 1 = z + 3 ∨ z + 1 = z + 3 + 1); omega) (by show ¬ (z + 1 + 1 = z + 3 ∨ z + 1 + 1 = z + 3 + 1); omega)) hz1 (fun m2 g1 g2 g3 => hP m2 g1 g2 (qFr_tr (qFr_Pz hf1 (by omega) (by omega)) g3))
theorem sState_addRecord {z : Nat} {rs vs : List Int} {pk sk bd : Int} (h : qSt T r z) (hf : qSc m z rs vs pk sk bd) {y n' : Nat} {sh : Int} {ns : List Int} (h' : qRow T r y n') (hn' : ns.length ≤ n') (hy : qRw m y ns) (hd : y + 2 ≤ z ∨ z + 5 ≤ y) (hr30 : rs.length < 30) : qW m_State_addRecord 0 [qK z, qI sh, qK y, none] [] (T, m, r) (fun x σ => ∃ m', σ = (T, m', r) ∧ x = qI rs.length ∧ qSc m' z (rs ++ [sh]) (vs ++ qPad ns 10) pk sk bd ∧ qFr (qIv (z + 1) (z + 5)) m m') := by
  have hv := hf.2.2.2.2.2.2
  refine qr_al rfl rfl (w := ?_)
  refine qr_gr rfl h.1 (hr := h.2.1) (w := ?_)
  refine qr_il rfl rfl (w := ?_)
  refine qr_callV rfl (sRow_add h.2.2.2.1 hf.1 hr30) (qrcv1 h.2.2.2.1.1) (w := fun _ σ hσ => ?_)
  obtain ⟨m1, rfl, hz1, hf1⟩ := hσ
  refine qr_const rfl (w := ?_)
  refine qr_is3 rfl (w := ?_)
  have hk : m1 z = m z := hf1 z (by show ¬ (z = z + 1 ∨ z = z + 1 + 1); omega)
  have L1 := sState_addRecord_loop (sh := sh) h h' hn' hd hr30 hv (fun a m' => a = rs.length ∧ qSc m' z (rs ++ [sh]) (vs ++ qPad ns 10) pk sk bd ∧ qFr (qIv (z + 1) (z + 5)) m m') 10 0 m1 (by omega) (qRw_fr hy hf1 (by show ¬ (y = z + 1 ∨ y = z + 1 + 1); omega) (by show ¬ (y + 1 = z + 1 ∨ y + 1 = z + 1 + 1); omega)) hz1 (by simp only [qPad, List.range_zero, List.map_nil, List.append_nil]; exact qRw_fr hf.2.1 hf1 (by show ¬ (z + 3 = z + 1 ∨ z + 3 = z + 1 + 1); omega) (by show ¬ (z + 3 + 1 = z + 1 ∨ z + 3 + 1 = z + 1 + 1); omega)) (fun m2 g1 g2 g3 => by
      have hk2 : m2 z = m z := (g3 z (by show ¬ (z + 3 ≤ z ∧ z < z + 5); omega)).trans hk
      exact ⟨rfl, ⟨g1, g2, by rw [hk2]; exact hf.2.2.1, by rw [hk2]; exact hf.2.2.2.1, by rw [hk2]; exact hf.2.2.2.2.1, by simp; omega, by simp only [List.length_append, qPad_len, List.length_cons, List.length_nil]; omega⟩, qFr_tr (qFr_Pz hf1 (by omega) (by omega)) (qFr_mo g3 (fun a ha => ⟨by have := ha.1; omega, ha.2⟩))⟩)
  refine qW_mono L1 (fun x σ hx => ?_)
  obtain ⟨m2, rfl, a, rfl, rfl, g1, g2⟩ := hx
  exact ⟨m2, rfl, rfl, g1, g2⟩
end
section
/-! Where the class's cells are; Shapes and History -/
variable {m : Nat → Int → Int} {r : Nat → Int → Option Nat}
/-- the references: all but the array of the history's states stay as they were made -/
def qE (r : Nat → Int → Option Nat) : Prop := ∀ (k : Nat) (j : Int), k ≠ 150 → r k j = qr0 k j
theorem qE_row {z n : Nat} (h : qE r) (hz : z ≠ 150) (h1 : qT0[z]? = some (0, 4) ∧ qT0[z + 1]? = some (1, n) ∧ qr0 z 0 = some (z + 1) ∧ n ≤ 1000) : qRow qT0 r z n := ⟨h1.1, h1.2.1, (h z 0 hz).trans h1.2.2.1, h1.2.2.2⟩
theorem qE_ref {z y : Nat} {j : Int} (h : qE r) (h1 : qr0 z j = some y) (hz : z ≠ 150 := by decide) : r z j = some y := (h z j hz).trans h1
theorem qE_form {z : Nat} (h : qE r) (hz : z + 1 < 150 ∨ 150 < z) (h1 : qT0[z]? = some (0, 0) ∧ qr0 z 0 = some (z + 1) ∧ qT0[z + 1]? = some (0, 4) ∧ qT0[z + 2]? = some (1, 26) ∧ qr0 (z + 1) 0 = some (z + 2)) : qForm qT0 r z :=
  ⟨h1.1, (h z 0 (by omega)).trans h1.2.1, h1.2.2.1, h1.2.2.2.1, (h (z + 1) 0 (by omega)).trans h1.2.2.2.2, by decide⟩
theorem qE_state {z : Nat} (h : qE r) (hz : z + 4 < 150 ∨ 150 < z) (h1 : qT0[z]? = some (0, 6) ∧ qr0 z 0 = some (z + 1) ∧ qr0 z 1 = some (z + 3) ∧ (qT0[z + 1]? = some (0, 4) ∧ qT0[z + 2]? = some (1, 30) ∧ qr0 (z + 1) 0 = some (z + 2)) ∧ qT0[z + 3]? = some (0, 4) ∧ qT0[z + 4]? = some (1, 300) ∧ qr0 (z + 3) 0 = some (z + 4)) : qSt qT0 r z :=
  ⟨h1.1, (h z 0 (by omega)).trans h1.2.1, (h z 1 (by omega)).trans h1.2.2.1, ⟨h1.2.2.2.1.1, h1.2.2.2.1.2.1, (h (z + 1) 0 (by omega)).trans h1.2.2.2.1.2.2, by decide⟩, ⟨h1.2.2.2.2.1, h1.2.2.2.2.2.1, (h (z + 3) 0 (by omega)).trans h1.2.2.2.2.2.2, by decide⟩⟩
theorem kText (h : qE r) : qRow qT0 r 1 80 := qE_row h (by decide) (by decide +kernel)
theorem kLine (h : qE r) : qRow qT0 r 3 100 := qE_row h (by decide) (by decide +kernel)
theorem kNums (h : qE r) : qRow qT0 r 14 10 := qE_row h (by decide) (by decide +kernel)
theorem kPaths (h : qE r) : qPths qT0 r 6 := ⟨by decide +kernel, qE_ref h (by decide +kernel), qE_ref h (by decide +kernel), qE_row h (by decide) (by decide +kernel), qE_row h (by decide) (by decide +kernel)⟩
theorem kForm (h : qE r) : qForm qT0 r 11 := qE_form h (by decide) (by decide +kernel)
theorem kRem (h : qE r) : qForm qT0 r 141 := qE_form h (by decide) (by decide +kernel)
theorem kEmpty (h : qE r) : qForm qT0 r 138 := qE_form h (by decide) (by decide +kernel)
theorem kState (h : qE r) : qSt qT0 r 144 := qE_state h (by decide) (by decide +kernel)
abbrev qfa (s : Nat) : Nat := 18 + 3 * s
theorem qfa_ok : ∀ s, s < 40 → (qT0[qfa s]? = some (0, 0) ∧ qr0 (qfa s) 0 = some (qfa s + 1) ∧ qT0[qfa s + 1]? = some (0, 4) ∧ qT0[qfa s + 2]? = some (1, 26) ∧ qr0 (qfa s + 1) 0 = some (qfa s + 2)) ∧ qr0 17 s = some (qfa s) := by decide +kernel
theorem kShape (h : qE r) {s : Nat} (hs : s < 40) : qForm qT0 r (qfa s) := qE_form h (by left; show 18 + 3 * s + 1 < 150; omega) (qfa_ok s hs).1
theorem qha_ok : ∀ i, i < 5 → (qT0[151 + 5 * i]? = some (0, 6) ∧ qr0 (151 + 5 * i) 0 = some (151 + 5 * i + 1) ∧ qr0 (151 + 5 * i) 1 = some (151 + 5 * i + 3) ∧ (qT0[151 + 5 * i + 1]? = some (0, 4) ∧ qT0[151 + 5 * i + 2]? = some (1, 30) ∧ qr0 (151 + 5 * i + 1) 0 = some (151 + 5 * i + 2)) ∧ qT0[151 + 5 * i + 3]? = some (0, 4) ∧ qT0[151 + 5 * i + 4]? = some (1, 300) ∧ qr0 (151 + 5 * i + 3) 0 = some (151 + 5 * i + 4)) := by decide +kernel
theorem kHist (h : qE r) {i : Nat} (hi : i < 5) : qSt qT0 r (151 + 5 * i) := qE_state h (by right; omega) (qha_ok i hi)
theorem kd_0 : qT0[0]? = some (0, 7) := by decide +kernel
theorem kd_5 : qT0[5]? = some (0, 3) := by decide +kernel
theorem kd_6 : qT0[6]? = some (0, 2) := by decide +kernel
theorem kd_11 : qT0[11]? = some (0, 0) := by decide +kernel
theorem kd_16 : qT0[16]? = some (0, 5) := by decide +kernel
theorem kd_138 : qT0[138]? = some (0, 0) := by decide +kernel
theorem kd_141 : qT0[141]? = some (0, 0) := by decide +kernel
theorem kd_144 : qT0[144]? = some (0, 6) := by decide +kernel
theorem kd_149 : qT0[149]? = some (0, 1) := by decide +kernel
theorem kd_176 : qT0[176]? = some (0, 8) := by decide +kernel
theorem kd_17 : qT0[17]? = some (0 + 2, 40) := by decide +kernel
theorem kd_150 : qT0[150]? = some (6 + 2, 5) := by decide +kernel
theorem rf_7_0 (h : qE r) : r 0 0 = some 1 := qE_ref h (by decide +kernel)
theorem rf_7_1 (h : qE r) : r 0 1 = some 3 := qE_ref h (by decide +kernel)
theorem rf_7_2 (h : qE r) : r 0 2 = some 5 := qE_ref h (by decide +kernel)
theorem rf_7_3 (h : qE r) : r 0 3 = some 6 := qE_ref h (by decide +kernel)
theorem rf_7_4 (h : qE r) : r 0 4 = some 16 := qE_ref h (by decide +kernel)
theorem rf_7_5 (h : qE r) : r 0 5 = some 141 := qE_ref h (by decide +kernel)
theorem rf_7_6 (h : qE r) : r 0 6 = some 144 := qE_ref h (by decide +kernel)
theorem rf_7_7 (h : qE r) : r 0 7 = some 149 := qE_ref h (by decide +kernel)
theorem rf_3_0 (h : qE r) : r 5 0 = some 6 := qE_ref h (by decide +kernel)
theorem rf_3_1 (h : qE r) : r 5 1 = some 11 := qE_ref h (by decide +kernel)
theorem rf_3_2 (h : qE r) : r 5 2 = some 14 := qE_ref h (by decide +kernel)
theorem rf_5_0 (h : qE r) : r 16 0 = some 17 := qE_ref h (by decide +kernel)
theorem rf_5_1 (h : qE r) : r 16 1 = some 138 := qE_ref h (by decide +kernel)
theorem rf_1_0 (h : qE r) : r 149 0 = some 150 := qE_ref h (by decide +kernel)
/-- the shapes' forms -/
def qSh (m : Nat → Int → Int) (ss : List (List Int)) : Prop := ss.length ≤ 40 ∧ (∀ (s : Nat) (h : s < ss.length), qFm m (qfa s) ss[s]) ∧ qFm m 138 []
theorem qSh_fr {P : Nat → Prop} {m m' : Nat → Int → Int} {ss : List (List Int)} (h : qSh m ss) (f : qFr P m m') (h0 : ∀ a, 18 ≤ a → a < 141 → ¬ P a) : qSh m' ss :=
  ⟨h.1, fun s hs => by
    have h40 := h.1
    exact qFm_fr (h.2.1 s hs) f (h0 _ (by show 18 ≤ 18 + 3 * s; omega) (by show 18 + 3 * s < 141; omega)) (h0 _ (by show 18 ≤ 18 + 3 * s + 1; omega) (by show 18 + 3 * s + 1 < 141; omega)) (h0 _ (by show 18 ≤ 18 + 3 * s + 2; omega) (by show 18 + 3 * s + 2 < 141; omega)), qFm_fr h.2.2 f (h0 _ (by omega) (by omega)) (h0 _ (by omega) (by omega)) (h0 _ (by omega) (by omega))⟩
/-- the form of a shape, empty outside -/
def qGf (ss : List (List Int)) (s : Int) : List Int := if 0 ≤ s ∧ s < ss.length then ss.getD s.toNat [] else []
/-- the cell of a shape's form -/
def qFa (s : Int) : Nat := if 0 ≤ s ∧ s < 40 then qfa s.toNat else 138
theorem qFa_k (h : qE r) (s : Int) : qForm qT0 r (qFa s) := by
  unfold qFa
  split
  · exact kShape h (by omega)
  · exact kEmpty h
theorem qFa_c {ss : List (List Int)} (h : qSh m ss) {s : Int} (hs : s < ss.length ∨ 40 ≤ s) : qFm m (qFa s) (qGf ss s) := by
  unfold qFa qGf
  have h40 := h.1
  by_cases h1 : 0 ≤ s ∧ s < ss.length
  · rw [if_pos h1, if_pos ⟨h1.1, by omega⟩]
    have h2 := h.2.1 s.toNat (by omega)
    rw [List.getD_eq_getElem?_getD, List.getElem?_eq_getElem (by omega)]
    exact h2
  · rw [if_neg h1, if_neg (by omega)]
    exact h.2.2
theorem sShapes_formAt (h : qE r) (s : Int) : qP m_Shs_formAt [qK 16, qI s, none] (qT0, m, r) (qK (qFa s)) := by
  unfold qFa
  refine qr_il rfl rfl (w := ?_)
  refine qr_iflt rfl (fun hc => ?_) (fun hc => ?_)
  · refine qr_al rfl rfl (w := ?_)
    refine qr_gr rfl kd_16 (hr := (rf_5_1 h)) (w := ?_)
    refine qW_areturn rfl ?_
    refine ⟨congrArg qK ?_, rfl⟩
    split
    · first | rfl | (exfalso; omega)
    · first | rfl | (exfalso; omega)
  · refine qr_il rfl rfl (w := ?_)
    refine qr_al rfl rfl (w := ?_)
    refine qr_gr rfl kd_16 (hr := (rf_5_0 h)) (w := ?_)
    refine qr_len rfl kd_17 (w := ?_)
    refine qr_iclt rfl (fun hcf => ?_) (fun hcf => ?_)
    · refine qr_al rfl rfl (w := ?_)
      refine qr_gr rfl kd_16 (hr := (rf_5_0 h)) (w := ?_)
      refine qr_il rfl rfl (w := ?_)
      have e17 : r 17 s = some (qfa s.toNat) := by
        have h9 := (h 17 s (by decide)).trans ((by rw [show s = ((s.toNat : Nat) : Int) by omega]; exact (qfa_ok s.toNat (by omega)).2) : qr0 17 s = some (qfa s.toNat))
        exact h9
      refine qr_aa rfl kd_17 (by omega) e17 (w := ?_)
      refine qr_as2 rfl (w := ?_)
      refine qr_al rfl rfl (w := ?_)
      refine qr_nnul rfl (w := ?_)
      refine qr_al rfl rfl (w := ?_)
      refine qW_areturn rfl ?_
      refine ⟨congrArg qK ?_, rfl⟩
      split
      · first | rfl | (exfalso; omega)
      · first | rfl | (exfalso; omega)
    · refine qr_al rfl rfl (w := ?_)
      refine qr_gr rfl kd_16 (hr := (rf_5_1 h)) (w := ?_)
      refine qW_areturn rfl ?_
      refine ⟨congrArg qK ?_, rfl⟩
      split
      · first | rfl | (exfalso; omega)
      · first | rfl | (exfalso; omega)
/-- the number of a form among some, from a on -/
def qFs : List (List Int) → List Int → Nat → Nat
  | [], _, a => a
  | g :: t, fs, a => if g = fs then a else qFs t fs (a + 1)
theorem qFs_le (ss : List (List Int)) (fs : List Int) : ∀ a, a ≤ qFs ss fs a ∧ qFs ss fs a ≤ a + ss.length := by
  induction ss with
  | nil => intro a; simp [qFs]
  | cons p t ih =>
    intro a
    simp only [qFs, List.length_cons]
    have := ih (a + 1)
    split <;> omega
theorem sShapes_numberFor_loop (h : qE r) {ss : List (List Int)} (hS : qSh m ss) {z : Nat} {fs : List Int} (hz : qForm qT0 r z) (hf : qFm m z fs) : ∀ (k i : Nat), i + k = ss.length → qP2 m_Shs_numberFor 2 [qK 16, qK z, qI ss.length, qI i] (qT0, m, r) (qI (qFs (ss.drop i) fs i)) := by
  have h40 := hS.1
  intro k
  induction k with
  | zero =>
    intro i hik
    rw [show ss.drop i = [] by rw [List.drop_eq_nil_iff]; omega]
    have hie : (i : Int) = ss.length := by omega
    unfold qP2
    refine qr_il rfl rfl (w := ?_)
    refine qr_il rfl rfl (w := ?_)
    refine qr_icge rfl (fun hc => ?_) (fun hc => ?_)
    · refine qr_il rfl rfl (w := ?_)
      refine qW_ireturn rfl ?_
      exact ⟨by rw [← hie]; rfl, rfl⟩
    · exact absurd hc (by omega)
  | succ k ih =>
    intro i hik
    rw [qdrop2 (by omega)]
    have hg : qGf ss i = ss[i] := by
      unfold qGf
      rw [if_pos ⟨by omega, by omega⟩, Int.toNat_natCast, List.getD_eq_getElem?_getD, List.getElem?_eq_getElem (by omega)]
      rfl
    unfold qP2
    refine qr_il rfl rfl (w := ?_)
    refine qr_il rfl rfl (w := ?_)
    refine qr_icge rfl (fun hc => ?_) (fun hc => ?_)
    · refine qr_il rfl rfl (w := ?_)
      refine qW_ireturn rfl ?_
      first
        | exact absurd hc (by omega)
        | (rw [hg] at hcf
           exact ⟨by simp only [qFs, if_pos (of_decide_eq_true hcf)], rfl⟩)
    · refine qr_al rfl rfl (w := ?_)
      refine qr_il rfl rfl (w := ?_)
      refine qr_callP rfl (sShapes_formAt h i) (qrcv1 kd_16) (w := ?_)
      refine qr_al rfl rfl (w := ?_)
      refine qr_callP rfl (sForm_isSameAs (qFa_k h i) (qFa_c hS (by omega)) hz hf) (qrcv1 (qFa_k h i).1) (w := ?_)
      refine qr_ifeqB rfl (fun hcf => ?_) (fun hcf => ?_)
      · refine qr_inc3 rfl (by omega) (w := ?_)
        refine qr_goto rfl (w := ?_)
        rw [hg] at hcf
        have h1 := ih (i + 1) (by omega)
        simp only [qFs, if_neg (of_decide_eq_false hcf)]
        exact h1
      · refine qr_il rfl rfl (w := ?_)
        refine qW_ireturn rfl ?_
        first
          | exact absurd hc (by omega)
          | (rw [hg] at hcf
             exact ⟨by simp only [qFs, if_pos (of_decide_eq_true hcf)], rfl⟩)
theorem sShapes_numberFor (h : qE r) {ss : List (List Int)} (hS : qSh m ss) {z : Nat} {fs : List Int} (hz : qForm qT0 r z) (hf : qFm m z fs) : qP m_Shs_numberFor [qK 16, qK z, qI ss.length, none] (qT0, m, r) (qI (qFs ss fs 0)) := by
  refine qr_const rfl (w := ?_)
  refine qr_is3 rfl (w := ?_)
  exact sShapes_numberFor_loop h hS hz hf ss.length 0 (by omega)
theorem qSh_add {m1 : Nat → Int → Int} {ss : List (List Int)} {fs : List Int} (hS : qSh m ss) (hn : ss.length < 40) (hz1 : qFm m1 (qfa ss.length) fs) (hf1 : qFr (qIv (qfa ss.length) (qfa ss.length + 3)) m m1) : qSh m1 (ss ++ [fs]) ∧ qFr (qIv 18 138) m m1 := by
  refine ⟨⟨by rw [List.length_append]; simp only [List.length_cons, List.length_nil]; omega, fun s hs => ?_, ?_⟩, qFr_mo hf1 (fun a ha => ?_)⟩
  · rw [List.length_append] at hs
    simp only [List.length_cons, List.length_nil] at hs
    by_cases hse : s = ss.length
    · subst hse
      rw [List.getElem_append_right (by omega)]
      simpa using hz1
    · rw [List.getElem_append_left (by omega)]
      exact qFm_fr (hS.2.1 s (by omega)) hf1 (by show ¬ (18 + 3 * ss.length ≤ 18 + 3 * s ∧ 18 + 3 * s < 18 + 3 * ss.length + 3); omega) (by show ¬ (18 + 3 * ss.length ≤ 18 + 3 * s + 1 ∧ 18 + 3 * s + 1 < 18 + 3 * ss.length + 3); omega) (by show ¬ (18 + 3 * ss.length ≤ 18 + 3 * s + 2 ∧ 18 + 3 * s + 2 < 18 + 3 * ss.length + 3); omega)
  · exact qFm_fr hS.2.2 hf1 (by show ¬ (18 + 3 * ss.length ≤ 138 ∧ 138 < 18 + 3 * ss.length + 3); omega) (by show ¬ (18 + 3 * ss.length ≤ 139 ∧ 139 < 18 + 3 * ss.length + 3); omega) (by show ¬ (18 + 3 * ss.length ≤ 140 ∧ 140 < 18 + 3 * ss.length + 3); omega)
  · have h1 : 18 + 3 * ss.length ≤ a := ha.1
    have h2 : a < 18 + 3 * ss.length + 3 := ha.2
    constructor <;> omega
theorem sShapes_keep (h : qE r) {ss : List (List Int)} (hS : qSh m ss) {z : Nat} {fs : List Int} (hz : qForm qT0 r z) (hf : qFm m z fs) (hd : z + 3 ≤ 18 ∨ 141 ≤ z) (hn : ss.length < 40) : qW m_Shs_keep 0 [qK 16, qI ss.length, qK z] [] (qT0, m, r) (fun _ σ => ∃ m', σ = (qT0, m', r) ∧ qSh m' (ss ++ [fs]) ∧ qFr (qIv 18 138) m m') := by
  have e : qFa (ss.length : Int) = qfa ss.length := by
    unfold qFa
    rw [if_pos ⟨by omega, by omega⟩, Int.toNat_natCast]
  refine qr_il rfl rfl (w := ?_)
  refine qr_iflt rfl (fun hc => ?_) (fun hc => ?_)
  · refine qW_return rfl ?_
    first
      | exact absurd hc (by omega)
      | exact absurd hcf (by omega)
      | exact ⟨_, rfl, qSh_add hS hn hz1 hf1⟩
  · refine qr_il rfl rfl (w := ?_)
    refine qr_al rfl rfl (w := ?_)
    refine qr_gr rfl kd_16 (hr := (rf_5_0 h)) (w := ?_)
    refine qr_len rfl kd_17 (w := ?_)
    refine qr_icge rfl (fun hcf => ?_) (fun hcf => ?_)
    · refine qW_return rfl ?_
      first
        | exact absurd hc (by omega)
        | exact absurd hcf (by omega)
        | exact ⟨_, rfl, qSh_add hS hn hz1 hf1⟩
    · refine qr_al rfl rfl (w := ?_)
      refine qr_il rfl rfl (w := ?_)
      refine qr_callP rfl (sShapes_formAt h ss.length) (qrcv1 kd_16) (w := ?_)
      rw [e]
      refine qr_al rfl rfl (w := ?_)
      refine qr_callV rfl (sForm_copyFrom (kShape h hn) hz hf (by show 18 + 3 * ss.length + 3 ≤ z ∨ z + 3 ≤ 18 + 3 * ss.length; omega)) (qrcv1 (kShape h hn).1) (w := fun _ σ hσ => ?_)
      obtain ⟨m1, rfl, hz1, hf1⟩ := hσ
      refine qW_return rfl ?_
      first
        | exact absurd hc (by omega)
        | exact absurd hcf (by omega)
        | exact ⟨_, rfl, qSh_add hS hn hz1 hf1⟩
end
section
/-! History -/
variable {m : Nat → Int → Int} {r : Nat → Int → Option Nat}
/-- where the history's states are, the oldest first -/
def qHr (r : Nat → Int → Option Nat) (f : Nat → Nat) : Prop := ∀ i : Nat, i < 5 → r 150 i = some (f i) ∧ (∃ a, a < 5 ∧ f i = 151 + 5 * a) ∧ ∀ j : Nat, j < 5 → f i = f j → i = j
abbrev qSC : Type := List Int × List Int × Int × Int × Int
def qSct (m : Nat → Int → Int) (z : Nat) (c : qSC) : Prop := qSc m z c.1 c.2.1 c.2.2.1 c.2.2.2.1 c.2.2.2.2
def qHc (m : Nat → Int → Int) (f : Nat → Nat) (hs : List qSC) : Prop := m 149 1 = hs.length ∧ hs.length ≤ 5 ∧ ∀ (i : Nat) (h : i < hs.length), qSct m (f i) hs[i]
theorem qSct_fr {P : Nat → Prop} {m m' : Nat → Int → Int} {z : Nat} {c : qSC} (h : qSct m z c) (f : qFr P m m') (h0 : ∀ a, z ≤ a → a < z + 5 → ¬ P a) : qSct m' z c := qSc_fr h f h0
theorem kHistF (h : qE r) {f : Nat → Nat} (hr : qHr r f) {i : Nat} (hi : i < 5) : qSt qT0 r (f i) := by
  obtain ⟨a, ha, e⟩ := (hr i hi).2.1
  rw [e]
  exact kHist h ha
theorem qHr_rng {f : Nat → Nat} (hr : qHr r f) {i : Nat} (hi : i < 5) : 151 ≤ f i ∧ f i + 5 ≤ 176 := by
  obtain ⟨a, ha, e⟩ := (hr i hi).2.1
  omega
theorem qHr_dis {f : Nat → Nat} (hr : qHr r f) {i j : Nat} (hi : i < 5) (hj : j < 5) (hij : i ≠ j) : f i + 5 ≤ f j ∨ f j + 5 ≤ f i := by
  obtain ⟨a, ha, e⟩ := (hr i hi).2.1
  obtain ⟨b, hb, e'⟩ := (hr j hj).2.1
  have h1 : a ≠ b := fun h => hij ((hr i hi).2.2 j hj (by rw [e, e', h]))
  omega
theorem qHc_fr {P : Nat → Prop} {m m' : Nat → Int → Int} {f : Nat → Nat} {hs : List qSC} (hr : qHr r f) (h : qHc m f hs) (g : qFr P m m') (h0 : ∀ a, 149 ≤ a → a < 176 → ¬ P a) : qHc m' f hs :=
  ⟨by rw [g 149 (h0 _ (by omega) (by omega))]; exact h.1, h.2.1, fun i hi => by
    have h5 := h.2.1
    have hg := qHr_rng hr (i := i) (by omega)
    exact qSct_fr (h.2.2 i hi) g (fun a h1 h2 => h0 a (by omega) (by omega))⟩
theorem sHist_size {f : Nat → Nat} {hs : List qSC} (hc : qHc m f hs) : qP m_Hist_size [qK 149] (qT0, m, r) (qI hs.length) := by
  refine qr_al rfl rfl (w := ?_)
  refine qr_gi rfl kd_149 (w := ?_)
  refine qW_ireturn rfl ?_
  exact ⟨congrArg qI hc.1, rfl⟩
theorem qupr_s {r : Nat → Int → Option Nat} {z : Nat} {i : Int} {x : Option Nat} : qup r z i x z i = x := by simp [qup]
theorem qupr_i {r : Nat → Int → Option Nat} {z : Nat} {i j : Int} {x : Option Nat} (h : j ≠ i) : qup r z i x z j = r z j := by simp [qup, h]
theorem qupr_z {r : Nat → Int → Option Nat} {z y : Nat} {i j : Int} {x : Option Nat} (h : y ≠ z) : qup r z i x y j = r y j := by simp [qup, h]
def qGi (f : Nat → Nat) (i j : Nat) : Nat := if j + 1 < i then f (j + 1) else if j + 1 = i then f 0 else f j
theorem sHist_forget_loop {f : Nat → Nat} (hf : ∀ i, i < 5 → ∃ a, a < 5 ∧ f i = 151 + 5 * a) {Q : qA → qM → Prop} (K : ∀ (y : qA) (r' : Nat → Int → Option Nat), qE r' → (∀ j : Nat, j < 5 → r' 150 j = some (qGi f 5 j)) → qW m_Hist_forgetOldest 47 [qK 149, qI 5, y] [] (qT0, m, r') Q) :
    ∀ (k i : Nat) (y : qA) (r : Nat → Int → Option Nat), i + k = 5 → 1 ≤ i → qE r → (∀ j : Nat, j < 5 → r 150 j = some (qGi f i j)) → qW m_Hist_forgetOldest 2 [qK 149, qI i, y] [] (qT0, m, r) Q := by
  have hk : ∀ i, i < 5 → qT0[f i]? = some (0, 6) := fun i hi => by
    obtain ⟨a, ha, e⟩ := hf i hi
    rw [e]
    exact (qha_ok a ha).1
  intro k
  induction k with
  | zero =>
    intro i y r hik hi h hr
    have hie : i = 5 := by omega
    subst hie
    refine qr_il rfl rfl (w := ?_)
    refine qr_al rfl rfl (w := ?_)
    refine qr_gr rfl kd_149 (hr := (rf_1_0 h)) (w := ?_)
    refine qr_len rfl kd_150 (w := ?_)
    refine qr_icge rfl (fun hc => ?_) (fun hc => ?_)
    · exact K y r h hr
    · exact absurd hc (by omega)
  | succ k ih =>
    intro i y r hik hi h hr
    have e1 : r 150 ((i : Int) - 1) = some (f 0) := by
      have h1 := hr (i - 1) (by omega)
      rw [show ((i - 1 : Nat) : Int) = (i : Int) - 1 by omega] at h1
      rw [h1]
      unfold qGi
      rw [if_neg (by omega), if_pos (by omega)]
    have e2 : r 150 (i : Int) = some (f i) := by
      rw [hr i (by omega)]
      unfold qGi
      rw [if_neg (by omega), if_neg (by omega)]
    have h' : qE (qup r 150 ((i : Int) - 1) (some (f i))) := fun k j hk => by rw [qupr_z hk]; exact h k j hk
    have h2 : qE (qup (qup r 150 ((i : Int) - 1) (some (f i))) 150 (i : Int) (some (f 0))) := fun k j hk => by rw [qupr_z hk]; exact h' k j hk
    refine qr_il rfl rfl (w := ?_)
    refine qr_al rfl rfl (w := ?_)
    refine qr_gr rfl kd_149 (hr := (by first | exact rf_1_0 h | exact rf_1_0 h' | exact rf_1_0 h2)) (w := ?_)
    refine qr_len rfl kd_150 (w := ?_)
    refine qr_icge rfl (fun hc => ?_) (fun hc => ?_)
    · exact absurd hc (by omega)
    · refine qr_al rfl rfl (w := ?_)
      refine qr_gr rfl kd_149 (hr := (by first | exact rf_1_0 h | exact rf_1_0 h' | exact rf_1_0 h2)) (w := ?_)
      refine qr_il rfl rfl (w := ?_)
      refine qr_const rfl (w := ?_)
      refine qr_sub rfl (by omega) (w := ?_)
      refine qr_aa rfl kd_150 (by omega) e1 (w := ?_)
      refine qr_as2 rfl (w := ?_)
      refine qr_al rfl rfl (w := ?_)
      refine qr_gr rfl kd_149 (hr := (by first | exact rf_1_0 h | exact rf_1_0 h' | exact rf_1_0 h2)) (w := ?_)
      refine qr_il rfl rfl (w := ?_)
      refine qr_const rfl (w := ?_)
      refine qr_sub rfl (by omega) (w := ?_)
      refine qr_al rfl rfl (w := ?_)
      refine qr_gr rfl kd_149 (hr := (by first | exact rf_1_0 h | exact rf_1_0 h' | exact rf_1_0 h2)) (w := ?_)
      refine qr_il rfl rfl (w := ?_)
      refine qr_aa rfl kd_150 (by omega) e2 (w := ?_)
      refine qr_aas rfl kd_150 ⟨by omega, by omega, hk i (by omega)⟩ (w := ?_)
      refine qr_al rfl rfl (w := ?_)
      refine qr_gr rfl kd_149 (hr := (by first | exact rf_1_0 h | exact rf_1_0 h' | exact rf_1_0 h2)) (w := ?_)
      refine qr_il rfl rfl (w := ?_)
      refine qr_al rfl rfl (w := ?_)
      refine qr_aas rfl kd_150 ⟨by omega, by omega, hk 0 (by omega)⟩ (w := ?_)
      refine qr_inc1 rfl (by omega) (w := ?_)
      refine qr_goto rfl (w := ?_)
      refine ih (i + 1) _ _ (by omega) (by omega) h2 (fun j hj => ?_)
      unfold qGi
      by_cases hji : j = i
      · subst hji
        rw [qupr_s, if_neg (by omega), if_pos (by omega)]
      · rw [qupr_i (by omega)]
        by_cases hj1 : j + 1 = i
        · rw [show (j : Int) = (i : Int) - 1 by omega, qupr_s, if_pos (by omega), hj1]
        · rw [qupr_i (by omega), hr j hj]
          unfold qGi
          congr 1
          by_cases h3 : j + 1 < i
          · rw [if_pos h3, if_pos (by omega)]
          · rw [if_neg h3, if_neg (by omega), if_neg (by omega), if_neg (by omega)]
/-- the oldest state's cells go to the end -/
def qRot (f : Nat → Nat) : Nat → Nat := fun j => if j < 4 then f (j + 1) else f 0
theorem sHist_forget {f : Nat → Nat} {hs : List qSC} (h : qE r) (hr : qHr r f) (hc0 : qHc m f hs) (hl : hs.length = 5) : qW m_Hist_forgetOldest 0 [qK 149, none, none] [] (qT0, m, r) (fun _ σ => ∃ r', σ = (qT0, qup m 149 1 4, r') ∧ qE r' ∧ qHr r' (qRot f) ∧ qHc (qup m 149 1 4) (qRot f) hs.tail) := by
  have hm : m 149 1 = 5 := by rw [hc0.1, hl]; rfl
  have K : ∀ (y : qA) (r' : Nat → Int → Option Nat), qE r' → (∀ j : Nat, j < 5 → r' 150 j = some (qGi f 5 j)) → qW m_Hist_forgetOldest 47 [qK 149, qI 5, y] [] (qT0, m, r') (fun _ σ => ∃ r', σ = (qT0, qup m 149 1 4, r') ∧ qE r' ∧ qHr r' (qRot f) ∧ qHc (qup m 149 1 4) (qRot f) hs.tail) := by
    intro y r' h' hr'
    refine qr_al rfl rfl (w := ?_)
    refine qr_gi rfl kd_149 (w := ?_)
    refine qr_ifle rfl (fun hc => ?_) (fun hc => ?_)
    · first
        | exact absurd hc (by omega)
        | (refine qW_return rfl ?_
           rw [hm]
           have hq : ∀ j, j < 5 → qGi f 5 j = qRot f j := fun j hj => by
             unfold qGi qRot
             by_cases h4 : j < 4
             · rw [if_pos h4, if_pos (by omega)]
             · rw [if_neg h4, if_neg (by omega), if_pos (by omega)]
           have hR : qHr r' (qRot f) := by
             intro j hj
             refine ⟨by rw [hr' j hj, hq j hj], ?_, fun i hi e => ?_⟩
             · unfold qRot
               split
               · exact (hr _ (by omega)).2.1
               · exact (hr _ (by omega)).2.1
             · unfold qRot at e
               by_cases h4 : j < 4
               · by_cases h5 : i < 4
                 · rw [if_pos h4, if_pos h5] at e
                   have := (hr (j + 1) (by omega)).2.2 (i + 1) (by omega) e
                   omega
                 · rw [if_pos h4, if_neg h5] at e
                   have := (hr (j + 1) (by omega)).2.2 0 (by omega) e
                   omega
               · by_cases h5 : i < 4
                 · rw [if_neg h4, if_pos h5] at e
                   have := (hr 0 (by omega)).2.2 (i + 1) (by omega) e
                   omega
                 · omega
           refine ⟨r', rfl, h', hR, ?_, by rw [List.length_tail]; omega, fun i hi => ?_⟩
           · show qup m 149 1 4 149 1 = _
             rw [qup_s, List.length_tail]
             omega
           · rw [List.length_tail] at hi
             rw [List.getElem_tail]
             have e : qRot f i = f (i + 1) := by
               unfold qRot
               rw [if_pos (by omega)]
             rw [e]
             have hg := qHr_rng hr (i := i + 1) (by omega)
             exact qSct_fr (hc0.2.2 (i + 1) (by omega)) (qFr_up (P := fun a => a = 149) rfl) (fun a h1 h2 => by show ¬ a = 149; omega))
    · refine qr_al rfl rfl (w := ?_)
      refine qr_dup rfl (w := ?_)
      refine qr_gi rfl kd_149 (w := ?_)
      refine qr_const rfl (w := ?_)
      refine qr_sub rfl (by omega) (w := ?_)
      refine qr_pi rfl kd_149 (w := ?_)
      first
        | exact absurd hc (by omega)
        | (refine qW_return rfl ?_
           rw [hm]
           have hq : ∀ j, j < 5 → qGi f 5 j = qRot f j := fun j hj => by
             unfold qGi qRot
             by_cases h4 : j < 4
             · rw [if_pos h4, if_pos (by omega)]
             · rw [if_neg h4, if_neg (by omega), if_pos (by omega)]
           have hR : qHr r' (qRot f) := by
             intro j hj
             refine ⟨by rw [hr' j hj, hq j hj], ?_, fun i hi e => ?_⟩
             · unfold qRot
               split
               · exact (hr _ (by omega)).2.1
               · exact (hr _ (by omega)).2.1
             · unfold qRot at e
               by_cases h4 : j < 4
               · by_cases h5 : i < 4
                 · rw [if_pos h4, if_pos h5] at e
                   have := (hr (j + 1) (by omega)).2.2 (i + 1) (by omega) e
                   omega
                 · rw [if_pos h4, if_neg h5] at e
                   have := (hr (j + 1) (by omega)).2.2 0 (by omega) e
                   omega
               · by_cases h5 : i < 4
                 · rw [if_neg h4, if_pos h5] at e
                   have := (hr 0 (by omega)).2.2 (i + 1) (by omega) e
                   omega
                 · omega
           refine ⟨r', rfl, h', hR, ?_, by rw [List.length_tail]; omega, fun i hi => ?_⟩
           · show qup m 149 1 4 149 1 = _
             rw [qup_s, List.length_tail]
             omega
           · rw [List.length_tail] at hi
             rw [List.getElem_tail]
             have e : qRot f i = f (i + 1) := by
               unfold qRot
               rw [if_pos (by omega)]
             rw [e]
             have hg := qHr_rng hr (i := i + 1) (by omega)
             exact qSct_fr (hc0.2.2 (i + 1) (by omega)) (qFr_up (P := fun a => a = 149) rfl) (fun a h1 h2 => by show ¬ a = 149; omega))
  refine qr_const rfl (w := ?_)
  refine qr_is1 rfl (w := ?_)
  exact sHist_forget_loop (fun i hi => (hr i hi).2.1) K 4 1 none r (by omega) (by omega) h (fun j hj => by
    rw [(hr j hj).1]
    unfold qGi
    by_cases h0 : j = 0
    · subst h0
      rw [if_neg (by omega), if_pos (by omega)]
    · rw [if_neg (by omega), if_neg (by omega)])
theorem sHist_keepA {f : Nat → Nat} {hs : List qSC} {c : qSC} (h : qE r) (hr : qHr r f) (hc0 : qHc m f hs) (hl : hs.length < 5) (hs0 : qSct m 144 c) : qW m_Hist_keep 16 [qK 149, qK 144, none] [] (qT0, m, r) (fun _ σ => ∃ m', σ = (qT0, m', r) ∧ qHc m' f (hs ++ [c]) ∧ qFr (qIv 149 176) m m') := by
  have hm := hc0.1
  have h5 : (5 : Nat) = 5 := rfl
  have e1 : r 150 (m 149 1) = some (f hs.length) := by
    rw [hm]
    exact (hr _ hl).1
  have hg := qHr_rng hr hl
  refine qr_al rfl rfl (w := ?_)
  refine qr_gi rfl kd_149 (w := ?_)
  refine qr_iflt rfl (fun hc => ?_) (fun hc => ?_)
  · first
      | exact absurd hc (by omega)
      | exact absurd hcf (by omega)
      | (refine qW_return rfl ⟨_, rfl, ⟨?_, by rw [List.length_append]; simp only [List.length_cons, List.length_nil]; omega, fun i hi => ?_⟩, qFr_tr (qFr_mo hf1 (fun a ha => ⟨by have := ha.1; omega, by have := ha.2; omega⟩)) (qFr_up ⟨by omega, by omega⟩)⟩
         · rw [qup_s, hm1, hm, List.length_append]
           simp only [List.length_cons, List.length_nil]
           omega
         · rw [List.length_append] at hi
           simp only [List.length_cons, List.length_nil] at hi
           have hgi := qHr_rng hr (i := i) (by omega)
           have up : qFr (fun a => a = 149) m1 (qup m1 149 1 (m1 149 1 + 1)) := qFr_up rfl
           refine qSct_fr ?_ up (fun a h1 h2 => by show ¬ a = 149; omega)
           by_cases hie : i = hs.length
           · subst hie
             rw [List.getElem_append_right (by omega)]
             simp only [Nat.sub_self, List.getElem_cons_zero]
             exact hz1
           · rw [List.getElem_append_left (by omega)]
             have hd := qHr_dis hr (i := i) (j := hs.length) (by omega) (by omega) hie
             exact qSct_fr (hc0.2.2 i (by omega)) hf1 (fun a h1 h2 => by show ¬ (f hs.length ≤ a ∧ a < f hs.length + 5); omega))
  · refine qr_al rfl rfl (w := ?_)
    refine qr_gi rfl kd_149 (w := ?_)
    refine qr_al rfl rfl (w := ?_)
    refine qr_gr rfl kd_149 (hr := (rf_1_0 h)) (w := ?_)
    refine qr_len rfl kd_150 (w := ?_)
    refine qr_icge rfl (fun hcf => ?_) (fun hcf => ?_)
    · first
        | exact absurd hc (by omega)
        | exact absurd hcf (by omega)
        | (refine qW_return rfl ⟨_, rfl, ⟨?_, by rw [List.length_append]; simp only [List.length_cons, List.length_nil]; omega, fun i hi => ?_⟩, qFr_tr (qFr_mo hf1 (fun a ha => ⟨by have := ha.1; omega, by have := ha.2; omega⟩)) (qFr_up ⟨by omega, by omega⟩)⟩
           · rw [qup_s, hm1, hm, List.length_append]
             simp only [List.length_cons, List.length_nil]
             omega
           · rw [List.length_append] at hi
             simp only [List.length_cons, List.length_nil] at hi
             have hgi := qHr_rng hr (i := i) (by omega)
             have up : qFr (fun a => a = 149) m1 (qup m1 149 1 (m1 149 1 + 1)) := qFr_up rfl
             refine qSct_fr ?_ up (fun a h1 h2 => by show ¬ a = 149; omega)
             by_cases hie : i = hs.length
             · subst hie
               rw [List.getElem_append_right (by omega)]
               simp only [Nat.sub_self, List.getElem_cons_zero]
               exact hz1
             · rw [List.getElem_append_left (by omega)]
               have hd := qHr_dis hr (i := i) (j := hs.length) (by omega) (by omega) hie
               exact qSct_fr (hc0.2.2 i (by omega)) hf1 (fun a h1 h2 => by show ¬ (f hs.length ≤ a ∧ a < f hs.length + 5); omega))
    · refine qr_al rfl rfl (w := ?_)
      refine qr_gr rfl kd_149 (hr := (rf_1_0 h)) (w := ?_)
      refine qr_al rfl rfl (w := ?_)
      refine qr_gi rfl kd_149 (w := ?_)
      refine qr_aa rfl kd_150 (by omega) e1 (w := ?_)
      refine qr_as2 rfl (w := ?_)
      refine qr_al rfl rfl (w := ?_)
      refine qr_nul rfl (w := ?_)
      refine qr_al rfl rfl (w := ?_)
      refine qr_al rfl rfl (w := ?_)
      refine qr_callV rfl (sState_copyFrom (kHistF h hr hl) (kState h) hs0 (by omega)) (qrcv1 (kHistF h hr hl).1) (w := fun _ σ hσ => ?_)
      obtain ⟨m1, rfl, hz1, hf1⟩ := hσ
      have hm1 : m1 149 = m 149 := hf1 149 (by show ¬ (f hs.length ≤ 149 ∧ 149 < f hs.length + 5); omega)
      refine qr_al rfl rfl (w := ?_)
      refine qr_dup rfl (w := ?_)
      refine qr_gi rfl kd_149 (w := ?_)
      refine qr_const rfl (w := ?_)
      refine qr_add rfl (by first | omega | (rw [hm1]; omega)) (w := ?_)
      refine qr_pi rfl kd_149 (w := ?_)
      first
        | exact absurd hc (by omega)
        | exact absurd hcf (by omega)
        | (refine qW_return rfl ⟨_, rfl, ⟨?_, by rw [List.length_append]; simp only [List.length_cons, List.length_nil]; omega, fun i hi => ?_⟩, qFr_tr (qFr_mo hf1 (fun a ha => ⟨by have := ha.1; omega, by have := ha.2; omega⟩)) (qFr_up ⟨by omega, by omega⟩)⟩
           · rw [qup_s, hm1, hm, List.length_append]
             simp only [List.length_cons, List.length_nil]
             omega
           · rw [List.length_append] at hi
             simp only [List.length_cons, List.length_nil] at hi
             have hgi := qHr_rng hr (i := i) (by omega)
             have up : qFr (fun a => a = 149) m1 (qup m1 149 1 (m1 149 1 + 1)) := qFr_up rfl
             refine qSct_fr ?_ up (fun a h1 h2 => by show ¬ a = 149; omega)
             by_cases hie : i = hs.length
             · subst hie
               rw [List.getElem_append_right (by omega)]
               simp only [Nat.sub_self, List.getElem_cons_zero]
               exact hz1
             · rw [List.getElem_append_left (by omega)]
               have hd := qHr_dis hr (i := i) (j := hs.length) (by omega) (by omega) hie
               exact qSct_fr (hc0.2.2 i (by omega)) hf1 (fun a h1 h2 => by show ¬ (f hs.length ≤ a ∧ a < f hs.length + 5); omega))
/-- the history with one state more, five at most -/
def qPush {α : Type} (hs : List α) (c : α) : List α := if hs.length < 5 then hs ++ [c] else hs.tail ++ [c]
theorem sHist_keep {f : Nat → Nat} {hs : List qSC} {c : qSC} (h : qE r) (hr : qHr r f) (hc0 : qHc m f hs) (hs0 : qSct m 144 c) : qW m_Hist_keep 0 [qK 149, qK 144, none] [] (qT0, m, r) (fun _ σ => ∃ m' r' f', σ = (qT0, m', r') ∧ qE r' ∧ qHr r' f' ∧ qHc m' f' (qPush hs c) ∧ qFr (qIv 149 176) m m') := by
  have hm := hc0.1
  have hl5 := hc0.2.1
  refine qr_al rfl rfl (w := ?_)
  refine qr_gi rfl kd_149 (w := ?_)
  refine qr_al rfl rfl (w := ?_)
  refine qr_gr rfl kd_149 (hr := (rf_1_0 h)) (w := ?_)
  refine qr_len rfl kd_150 (w := ?_)
  refine qr_iclt rfl (fun hc => ?_) (fun hc => ?_)
  · first
      | (have hl : hs.length < 5 := by omega
         refine qW_mono (sHist_keepA h hr hc0 hl hs0) (fun x σ hσ => ?_)
         obtain ⟨m1, rfl, g1, g2⟩ := hσ
         refine ⟨m1, r, f, rfl, h, hr, ?_, g2⟩
         unfold qPush
         rw [if_pos hl]
         exact g1)
      | (have hl : ¬ hs.length < 5 := by omega
         refine qW_mono (sHist_keepA h1 hr1 hc1 (by rw [List.length_tail]; omega) (qSct_fr hs0 (qFr_up (P := fun a => a = 149) rfl) (fun a g1 g2 => by show ¬ a = 149; omega))) (fun x σ hσ => ?_)
         obtain ⟨m1, rfl, g1, g2⟩ := hσ
         refine ⟨m1, r1, qRot f, rfl, h1, hr1, ?_, qFr_tr (qFr_up ⟨by omega, by omega⟩) g2⟩
         unfold qPush
         rw [if_neg hl]
         exact g1)
  · refine qr_al rfl rfl (w := ?_)
    refine qr_callV rfl (sHist_forget h hr hc0 (by omega)) (qrcv1 kd_149) (w := fun _ σ hσ => ?_)
    obtain ⟨r1, rfl, h1, hr1, hc1⟩ := hσ
    first
      | (have hl : hs.length < 5 := by omega
         refine qW_mono (sHist_keepA h hr hc0 hl hs0) (fun x σ hσ => ?_)
         obtain ⟨m1, rfl, g1, g2⟩ := hσ
         refine ⟨m1, r, f, rfl, h, hr, ?_, g2⟩
         unfold qPush
         rw [if_pos hl]
         exact g1)
      | (have hl : ¬ hs.length < 5 := by omega
         refine qW_mono (sHist_keepA h1 hr1 hc1 (by rw [List.length_tail]; omega) (qSct_fr hs0 (qFr_up (P := fun a => a = 149) rfl) (fun a g1 g2 => by show ¬ a = 149; omega))) (fun x σ hσ => ?_)
         obtain ⟨m1, rfl, g1, g2⟩ := hσ
         refine ⟨m1, r1, qRot f, rfl, h1, hr1, ?_, qFr_tr (qFr_up ⟨by omega, by omega⟩) g2⟩
         unfold qPush
         rw [if_neg hl]
         exact g1)
theorem sHist_restore {f : Nat → Nat} {hs : List qSC} (h : qE r) (hr : qHr r f) (hc0 : qHc m f hs) (hl : 0 < hs.length) : qW m_Hist_restore 0 [qK 149, qK 144, none] [] (qT0, m, r) (fun _ σ => ∃ m', σ = (qT0, m', r) ∧ qSct m' 144 (hs[hs.length - 1]) ∧ qHc m' f (hs.take (hs.length - 1)) ∧ qFr (qIv 144 150) m m') := by
  have hm := hc0.1
  have hl5 := hc0.2.1
  have e1 : r 150 (m 149 1 - 1) = some (f (hs.length - 1)) := by
    rw [hm, show (hs.length : Int) - 1 = ((hs.length - 1 : Nat) : Int) by omega]
    exact (hr _ (by omega)).1
  have hk := kHistF h hr (i := hs.length - 1) (by omega)
  have hg := qHr_rng hr (i := hs.length - 1) (by omega)
  refine qr_al rfl rfl (w := ?_)
  refine qr_gi rfl kd_149 (w := ?_)
  refine qr_ifle rfl (fun hc => ?_) (fun hc => ?_)
  · first
      | exact absurd hc (by omega)
      | exact absurd hcf (by omega)
      | (have up : qFr (fun a => a = 149) m1 (qup m1 149 1 (m1 149 1 - 1)) := qFr_up rfl
         refine qW_return rfl ⟨_, rfl, qSct_fr hz1 up (fun a h1 h2 => by show ¬ a = 149; omega), ⟨?_, by rw [List.length_take]; omega, fun i hi => ?_⟩, qFr_tr (qFr_mo hf1 (fun a ha => ⟨ha.1, by have := ha.2; omega⟩)) (qFr_up ⟨by omega, by omega⟩)⟩
         · rw [qup_s, hm1, hm, List.length_take]
           omega
         · rw [List.length_take] at hi
           have hgi := qHr_rng hr (i := i) (by omega)
           refine qSct_fr ?_ up (fun a h1 h2 => by show ¬ a = 149; omega)
           rw [List.getElem_take]
           exact qSct_fr (hc0.2.2 i (by omega)) hf1 (fun a h1 h2 => by show ¬ (144 ≤ a ∧ a < 149); omega))
  · refine qr_al rfl rfl (w := ?_)
    refine qr_gi rfl kd_149 (w := ?_)
    refine qr_al rfl rfl (w := ?_)
    refine qr_gr rfl kd_149 (hr := (rf_1_0 h)) (w := ?_)
    refine qr_len rfl kd_150 (w := ?_)
    refine qr_icgt rfl (fun hcf => ?_) (fun hcf => ?_)
    · first
        | exact absurd hc (by omega)
        | exact absurd hcf (by omega)
        | (have up : qFr (fun a => a = 149) m1 (qup m1 149 1 (m1 149 1 - 1)) := qFr_up rfl
           refine qW_return rfl ⟨_, rfl, qSct_fr hz1 up (fun a h1 h2 => by show ¬ a = 149; omega), ⟨?_, by rw [List.length_take]; omega, fun i hi => ?_⟩, qFr_tr (qFr_mo hf1 (fun a ha => ⟨ha.1, by have := ha.2; omega⟩)) (qFr_up ⟨by omega, by omega⟩)⟩
           · rw [qup_s, hm1, hm, List.length_take]
             omega
           · rw [List.length_take] at hi
             have hgi := qHr_rng hr (i := i) (by omega)
             refine qSct_fr ?_ up (fun a h1 h2 => by show ¬ a = 149; omega)
             rw [List.getElem_take]
             exact qSct_fr (hc0.2.2 i (by omega)) hf1 (fun a h1 h2 => by show ¬ (144 ≤ a ∧ a < 149); omega))
    · refine qr_al rfl rfl (w := ?_)
      refine qr_gr rfl kd_149 (hr := (rf_1_0 h)) (w := ?_)
      refine qr_al rfl rfl (w := ?_)
      refine qr_gi rfl kd_149 (w := ?_)
      refine qr_const rfl (w := ?_)
      refine qr_sub rfl (by first | omega | (rw [hm1]; omega)) (w := ?_)
      refine qr_aa rfl kd_150 (by omega) e1 (w := ?_)
      refine qr_as2 rfl (w := ?_)
      refine qr_al rfl rfl (w := ?_)
      refine qr_nul rfl (w := ?_)
      refine qr_al rfl rfl (w := ?_)
      refine qr_al rfl rfl (w := ?_)
      refine qr_callV rfl (sState_copyFrom (kState h) hk (hc0.2.2 (hs.length - 1) (by omega)) (by omega)) (qrcv1 kd_144) (w := fun _ σ hσ => ?_)
      obtain ⟨m1, rfl, hz1, hf1⟩ := hσ
      have hm1 : m1 149 = m 149 := hf1 149 (by show ¬ (144 ≤ 149 ∧ 149 < 149); omega)
      refine qr_al rfl rfl (w := ?_)
      refine qr_dup rfl (w := ?_)
      refine qr_gi rfl kd_149 (w := ?_)
      refine qr_const rfl (w := ?_)
      refine qr_sub rfl (by first | omega | (rw [hm1]; omega)) (w := ?_)
      refine qr_pi rfl kd_149 (w := ?_)
      first
        | exact absurd hc (by omega)
        | exact absurd hcf (by omega)
        | (have up : qFr (fun a => a = 149) m1 (qup m1 149 1 (m1 149 1 - 1)) := qFr_up rfl
           refine qW_return rfl ⟨_, rfl, qSct_fr hz1 up (fun a h1 h2 => by show ¬ a = 149; omega), ⟨?_, by rw [List.length_take]; omega, fun i hi => ?_⟩, qFr_tr (qFr_mo hf1 (fun a ha => ⟨ha.1, by have := ha.2; omega⟩)) (qFr_up ⟨by omega, by omega⟩)⟩
           · rw [qup_s, hm1, hm, List.length_take]
             omega
           · rw [List.length_take] at hi
             have hgi := qHr_rng hr (i := i) (by omega)
             refine qSct_fr ?_ up (fun a h1 h2 => by show ¬ a = 149; omega)
             rw [List.getElem_take]
             exact qSct_fr (hc0.2.2 i (by omega)) hf1 (fun a h1 h2 => by show ¬ (144 ≤ a ∧ a < 149); omega))
end
section
/-! Reading: the class's automaton, as a function; its state: paths, fields, numbers, step, level, open, named -/
variable {m : Nat → Int → Int} {r : Nat → Int → Option Nat}
abbrev qRd : Type := List (Int × Int) × List Int × List Int × Int × Int × Int × Int
def qDig (c : Int) : Bool := decide (48 ≤ c ∧ c ≤ 57)
def qOpn : qRd → Int → Int → Bool × qRd
  | (ps, fs, ns, st, lv, op, nm), c, br => if c ≠ 123 ∨ 4 ≤ lv then (false, (ps, fs, ns, st, lv, op, nm)) else (true, (ps, (if br = -9 then fs else fs ++ [100 + br]), ns, 1, lv + 1, br, nm))
def qCls : qRd → Bool × qRd
  | (ps, fs, ns, _, lv, op, nm) => (true, (ps, fs, ns, (if lv - 1 = 0 then 7 else 6), lv - 1, qOu ps op, nm))
def qLet : qRd → Int → Bool × qRd
  | (ps, fs, ns, st, lv, op, nm), c => if c < 97 ∨ 122 < c then (false, (ps, fs, ns, st, lv, op, nm)) else (!(fs.contains (qFi ps c op 0 : Nat)) && !(fs.contains (100 + (qFi ps c op 0 : Nat))), (qAd ps c op, fs, ns, 3, lv, op, (qFi ps c op 0 : Nat)))
def qCol : qRd → Int → Bool × qRd
  | (ps, fs, ns, _, lv, op, nm), c => (decide (c = 58), (ps, fs, ns, 4, lv, op, nm))
def qDg1 : qRd → Int → Bool × qRd
  | (ps, fs, ns, st, lv, op, nm), c => if 10 ≤ ns.length then (false, (ps, fs, ns, st, lv, op, nm)) else (true, (ps, fs ++ [nm], ns ++ [c - 48], 5, lv, op, nm))
def qDg2 : qRd → Int → Bool × qRd
  | (ps, fs, ns, st, lv, op, nm), c => if qAt ns (ns.length - 1) ≤ 0 ∨ 99 < qAt ns (ns.length - 1) then (false, (ps, fs, ns, st, lv, op, nm)) else (true, (ps, fs, ns.set (ns.length - 1) (qAt ns (ns.length - 1) * 10 + c - 48), st, lv, op, nm))
def qEnd : qRd → Int → Bool × qRd
  | s, c => if c = 125 then qCls s else (decide (c = 44), (s.1, s.2.1, s.2.2.1, 2, s.2.2.2.2.1, s.2.2.2.2.2.1, s.2.2.2.2.2.2))
def qSpc : qRd → qRd
  | (ps, fs, ns, st, lv, op, nm) => (ps, fs, ns, (if st = 5 then 6 else st), lv, op, nm)
def qTk (s : qRd) (c : Int) : Bool × qRd :=
  if c = 32 then (true, qSpc s)
  else if s.2.2.2.1 = 0 then qOpn s c (-9)
  else if s.2.2.2.1 = 1 then (if c = 125 then qCls s else qLet s c)
  else if s.2.2.2.1 = 2 then qLet s c
  else if s.2.2.2.1 = 3 then qCol s c
  else if s.2.2.2.1 = 4 then (if qDig c = true then qDg1 s c else qOpn s c s.2.2.2.2.2.2)
  else if s.2.2.2.1 = 5 then (if qDig c = true then qDg2 s c else qEnd s c)
  else if s.2.2.2.1 = 6 then qEnd s c
  else (false, s)
def qRg (m : Nat → Int → Int) (s : qRd) : Prop := qPh m 6 s.1 ∧ qFm m 11 s.2.1 ∧ qRw m 14 s.2.2.1 ∧ s.2.2.1.length ≤ 10 ∧ m 5 3 = s.2.2.2.1 ∧ m 5 4 = s.2.2.2.2.1 ∧ m 5 5 = s.2.2.2.2.2.1 ∧ m 5 6 = s.2.2.2.2.2.2
/-- what keeps the reading's steps within their rows -/
def qRp (s : qRd) : Prop := s.1.length < 86 ∧ s.2.1.length < 26 ∧ 0 ≤ s.2.2.2.2.1 ∧ s.2.2.2.2.1 ≤ 4 ∧ -9 ≤ s.2.2.2.2.2.2 ∧ s.2.2.2.2.2.2 ≤ 1000
theorem qRg_fr {P : Nat → Prop} {m m' : Nat → Int → Int} {s : qRd} (h : qRg m s) (f : qFr P m m') (h0 : ∀ a, 5 ≤ a → a < 16 → ¬ P a) : qRg m' s :=
  have e : m' 5 = m 5 := f 5 (h0 5 (by omega) (by omega))
  ⟨qPh_fr h.1 f (fun a h1 h2 => h0 a (by omega) (by omega)), qFm_fr h.2.1 f (h0 _ (by omega) (by omega)) (h0 _ (by omega) (by omega)) (h0 _ (by omega) (by omega)), qRw_fr h.2.2.1 f (h0 _ (by omega) (by omega)) (h0 _ (by omega) (by omega)), h.2.2.2.1, by rw [e]; exact h.2.2.2.2.1, by rw [e]; exact h.2.2.2.2.2.1, by rw [e]; exact h.2.2.2.2.2.2.1, by rw [e]; exact h.2.2.2.2.2.2.2⟩
/-- the reading's own numbers are written -/
theorem qRg_5 {m m' : Nat → Int → Int} {ps : List (Int × Int)} {fs ns : List Int} (h1 : qPh m 6 ps) (h2 : qFm m 11 fs) (h3 : qRw m 14 ns) (h4 : ns.length ≤ 10) (f : qFr (fun a => a = 5) m m') : qRg m' (ps, fs, ns, m' 5 3, m' 5 4, m' 5 5, m' 5 6) :=
  ⟨qPh_fr h1 f (fun a g1 g2 => by show ¬ a = 5; omega), qFm_fr h2 f (by decide) (by decide) (by decide), qRw_fr h3 f (by decide) (by decide), h4, rfl, rfl, rfl, rfl⟩
theorem qRg_5x {m m' : Nat → Int → Int} {ps : List (Int × Int)} {fs ns : List Int} {a b c d : Int} (h1 : qPh m 6 ps) (h2 : qFm m 11 fs) (h3 : qRw m 14 ns) (h4 : ns.length ≤ 10) (f : qFr (fun a => a = 5) m m') (g3 : m' 5 3 = a) (g4 : m' 5 4 = b) (g5 : m' 5 5 = c) (g6 : m' 5 6 = d) : qRg m' (ps, fs, ns, a, b, c, d) := by
  subst g3 g4 g5 g6
  exact qRg_5 h1 h2 h3 h4 f
theorem qFr_5 {m : Nat → Int → Int} {i x : Int} : qFr (fun a => a = 5) m (qup m 5 i x) := qFr_up rfl
theorem qFr_5I {m m' : Nat → Int → Int} (h : qFr (fun a => a = 5) m m') : qFr (qIv 5 16) m m' := qFr_mo h (fun a ha => by subst ha; constructor <;> decide)
theorem sRdg_isDigit {c : Int} : qP m_Rdg_isDigit [qI c] (qT0, m, r) (qI (qbi (qDig c))) := by
  unfold qDig
  refine qr_il rfl rfl (w := ?_)
  refine qr_const rfl (w := ?_)
  refine qr_iclt rfl (fun hc => ?_) (fun hc => ?_)
  · refine qr_const rfl (w := ?_)
    refine qW_zreturn rfl (by first | exact Or.inl rfl | exact Or.inr rfl | (simp only [qbi]; split <;> simp)) ?_
    refine ⟨congrArg qI ?_, rfl⟩
    simp only [qbi]
    first | (rw [if_pos (decide_eq_true (by omega))]; done) | (rw [if_neg (fun h9 => by have := of_decide_eq_true h9; omega)]; done)
  · refine qr_il rfl rfl (w := ?_)
    refine qr_const rfl (w := ?_)
    refine qr_icgt rfl (fun hcf => ?_) (fun hcf => ?_)
    · refine qr_const rfl (w := ?_)
      refine qW_zreturn rfl (by first | exact Or.inl rfl | exact Or.inr rfl | (simp only [qbi]; split <;> simp)) ?_
      refine ⟨congrArg qI ?_, rfl⟩
      simp only [qbi]
      first | (rw [if_pos (decide_eq_true (by omega))]; done) | (rw [if_neg (fun h9 => by have := of_decide_eq_true h9; omega)]; done)
    · refine qr_const rfl (w := ?_)
      refine qr_goto rfl (w := ?_)
      refine qW_zreturn rfl (by first | exact Or.inl rfl | exact Or.inr rfl | (simp only [qbi]; split <;> simp)) ?_
      refine ⟨congrArg qI ?_, rfl⟩
      simp only [qbi]
      first | (rw [if_pos (decide_eq_true (by omega))]; done) | (rw [if_neg (fun h9 => by have := of_decide_eq_true h9; omega)]; done)
theorem sRdg_isComplete (h : qE r) {ps : List (Int × Int)} {fs ns : List Int} {st lv op nm : Int} (hs : qRg m (ps, fs, ns, st, lv, op, nm)) (hp : qRp (ps, fs, ns, st, lv, op, nm)) : qP m_Rdg_isComplete [qK 5] (qT0, m, r) (qI (qbi (decide (st = 7)))) := by
  obtain ⟨h1, h2, h3, h4, e3, e4, e5, e6⟩ := hs
  obtain ⟨p1, p2, p3, p4, p5, p6⟩ := hp
  dsimp only at h1 h2 h3 h4 e3 e4 e5 e6 p1 p2 p3 p4 p5 p6
  refine qr_al rfl rfl (w := ?_)
  refine qr_gi rfl kd_5 (w := ?_)
  refine qr_const rfl (w := ?_)
  refine qr_icne rfl (fun hc => ?_) (fun hc => ?_)
  · refine qr_const rfl (w := ?_)
    refine qW_zreturn rfl (by first | exact Or.inl rfl | exact Or.inr rfl | (simp only [qbi]; split <;> simp)) ?_
    refine ⟨congrArg qI ?_, rfl⟩
    rw [e3] at hc
    simp [qbi, hc]
  · refine qr_const rfl (w := ?_)
    refine qr_goto rfl (w := ?_)
    refine qW_zreturn rfl (by first | exact Or.inl rfl | exact Or.inr rfl | (simp only [qbi]; split <;> simp)) ?_
    refine ⟨congrArg qI ?_, rfl⟩
    rw [e3] at hc
    simp [qbi, hc]
theorem sRdg_takeSpace (h : qE r) {ps : List (Int × Int)} {fs ns : List Int} {st lv op nm : Int} (hs : qRg m (ps, fs, ns, st, lv, op, nm)) (hp : qRp (ps, fs, ns, st, lv, op, nm)) : qW m_Rdg_takeSpace 0 [qK 5] [] (qT0, m, r) (fun _ σ => ∃ m', σ = (qT0, m', r) ∧ qRg m' (qSpc (ps, fs, ns, st, lv, op, nm)) ∧ qFr (qIv 5 16) m m') := by
  obtain ⟨h1, h2, h3, h4, e3, e4, e5, e6⟩ := hs
  obtain ⟨p1, p2, p3, p4, p5, p6⟩ := hp
  dsimp only at h1 h2 h3 h4 e3 e4 e5 e6 p1 p2 p3 p4 p5 p6
  refine qr_al rfl rfl (w := ?_)
  refine qr_gi rfl kd_5 (w := ?_)
  refine qr_const rfl (w := ?_)
  refine qr_icne rfl (fun hc => ?_) (fun hc => ?_)
  · rw [e3] at hc
    first
      | (refine qW_return rfl ⟨_, rfl, ?_, qFr_5I qFr_5⟩
         simp only [qSpc, if_pos hc]
         exact qRg_5x h1 h2 h3 h4 qFr_5 (by simp [qup, e3, e4, e5, e6]) (by simp [qup, e3, e4, e5, e6]) (by simp [qup, e3, e4, e5, e6]) (by simp [qup, e3, e4, e5, e6]))
      | (refine qW_return rfl ⟨_, rfl, ?_, qFr_rf⟩
         simp only [qSpc, if_neg hc]
         exact ⟨h1, h2, h3, h4, e3, e4, e5, e6⟩)
  · refine qr_al rfl rfl (w := ?_)
    refine qr_const rfl (w := ?_)
    refine qr_pi rfl kd_5 (w := ?_)
    rw [e3] at hc
    first
      | (refine qW_return rfl ⟨_, rfl, ?_, qFr_5I qFr_5⟩
         simp only [qSpc, if_pos hc]
         exact qRg_5x h1 h2 h3 h4 qFr_5 (by simp [qup, e3, e4, e5, e6]) (by simp [qup, e3, e4, e5, e6]) (by simp [qup, e3, e4, e5, e6]) (by simp [qup, e3, e4, e5, e6]))
      | (refine qW_return rfl ⟨_, rfl, ?_, qFr_rf⟩
         simp only [qSpc, if_neg hc]
         exact ⟨h1, h2, h3, h4, e3, e4, e5, e6⟩)
theorem sRdg_takeOpening (h : qE r) {ps : List (Int × Int)} {fs ns : List Int} {st lv op nm : Int} (hs : qRg m (ps, fs, ns, st, lv, op, nm)) (hp : qRp (ps, fs, ns, st, lv, op, nm)) {c br : Int} (hb : -9 ≤ br ∧ br ≤ 1000) : qW m_Rdg_takeOpening 0 [qK 5, qI c, qI br] [] (qT0, m, r) (fun x σ => ∃ m', σ = (qT0, m', r) ∧ x = qI (qbi (qOpn (ps, fs, ns, st, lv, op, nm) c br).1) ∧ qRg m' (qOpn (ps, fs, ns, st, lv, op, nm) c br).2 ∧ qFr (qIv 5 16) m m') := by
  obtain ⟨h1, h2, h3, h4, e3, e4, e5, e6⟩ := hs
  obtain ⟨p1, p2, p3, p4, p5, p6⟩ := hp
  dsimp only at h1 h2 h3 h4 e3 e4 e5 e6 p1 p2 p3 p4 p5 p6
  refine qr_il rfl rfl (w := ?_)
  refine qr_const rfl (w := ?_)
  refine qr_icne rfl (fun hc => ?_) (fun hc => ?_)
  · refine qr_const rfl (w := ?_)
    refine qW_zreturn rfl (by first | exact Or.inl rfl | exact Or.inr rfl | (simp only [qbi]; split <;> simp)) ?_
    first
      | (rw [e4] at hcf
         refine ⟨_, rfl, ?_, ?_, qFr_rf⟩
         · simp only [qOpn]
           rw [if_pos (by omega)]
           rfl
         · simp only [qOpn]
           rw [if_pos (by omega)]
           exact ⟨h1, h2, h3, h4, e3, e4, e5, e6⟩)
      | (refine ⟨_, rfl, ?_, ?_, qFr_rf⟩
         · simp only [qOpn]
           rw [if_pos (by omega)]
           rfl
         · simp only [qOpn]
           rw [if_pos (by omega)]
           exact ⟨h1, h2, h3, h4, e3, e4, e5, e6⟩)
      | (rw [e4] at hcf
         refine ⟨_, rfl, ?_, ?_, qFr_tr (qFr_mo hf1 (fun a ha => ⟨by have := ha.1; omega, by have := ha.2; omega⟩)) (qFr_5I (qFr_tr qFr_5 (qFr_tr qFr_5 qFr_5)))⟩
         · simp only [qOpn]
           rw [if_neg (by omega)]
           rfl
         · simp only [qOpn]
           rw [if_neg (by omega), if_neg (by omega)]
           exact qRg_5x h1 h2 h3 h4 (qFr_tr qFr_5 (qFr_tr qFr_5 qFr_5)) (by simp [qup, hm5, e3, e4, e5, e6]) (by simp [qup, hm5, e3, e4, e5, e6]) (by simp [qup, hm5, e3, e4, e5, e6]) (by simp [qup, hm5, e3, e4, e5, e6]))
      | (rw [e4] at hcf
         refine ⟨_, rfl, ?_, ?_, qFr_5I (qFr_tr qFr_5 (qFr_tr qFr_5 qFr_5))⟩
         · simp only [qOpn]
           rw [if_neg (by omega)]
           rfl
         · simp only [qOpn]
           rw [if_neg (by omega), if_pos (by omega)]
           exact qRg_5x h1 h2 h3 h4 (qFr_tr qFr_5 (qFr_tr qFr_5 qFr_5)) (by simp [qup, e3, e4, e5, e6]) (by simp [qup, e3, e4, e5, e6]) (by simp [qup, e3, e4, e5, e6]) (by simp [qup, e3, e4, e5, e6]))
  · refine qr_al rfl rfl (w := ?_)
    refine qr_gi rfl kd_5 (w := ?_)
    refine qr_const rfl (w := ?_)
    refine qr_iclt rfl (fun hcf => ?_) (fun hcf => ?_)
    · refine qr_il rfl rfl (w := ?_)
      refine qr_const rfl (w := ?_)
      refine qr_iceq rfl (fun hcft => ?_) (fun hcft => ?_)
      · refine qr_al rfl rfl (w := ?_)
        refine qr_il rfl rfl (w := ?_)
        refine qr_pi rfl kd_5 (w := ?_)
        refine qr_al rfl rfl (w := ?_)
        refine qr_dup rfl (w := ?_)
        refine qr_gi rfl kd_5 (w := ?_)
        refine qr_const rfl (w := ?_)
        refine qr_add rfl (by first | omega | (rw [qup_i (by decide), e4]; omega) | (rw [qup_i (by decide), hm5, e4]; omega)) (w := ?_)
        refine qr_pi rfl kd_5 (w := ?_)
        refine qr_al rfl rfl (w := ?_)
        refine qr_const rfl (w := ?_)
        refine qr_pi rfl kd_5 (w := ?_)
        refine qr_const rfl (w := ?_)
        refine qW_zreturn rfl (by first | exact Or.inl rfl | exact Or.inr rfl | (simp only [qbi]; split <;> simp)) ?_
        first
          | (rw [e4] at hcf
             refine ⟨_, rfl, ?_, ?_, qFr_rf⟩
             · simp only [qOpn]
               rw [if_pos (by omega)]
               rfl
             · simp only [qOpn]
               rw [if_pos (by omega)]
               exact ⟨h1, h2, h3, h4, e3, e4, e5, e6⟩)
          | (refine ⟨_, rfl, ?_, ?_, qFr_rf⟩
             · simp only [qOpn]
               rw [if_pos (by omega)]
               rfl
             · simp only [qOpn]
               rw [if_pos (by omega)]
               exact ⟨h1, h2, h3, h4, e3, e4, e5, e6⟩)
          | (rw [e4] at hcf
             refine ⟨_, rfl, ?_, ?_, qFr_tr (qFr_mo hf1 (fun a ha => ⟨by have := ha.1; omega, by have := ha.2; omega⟩)) (qFr_5I (qFr_tr qFr_5 (qFr_tr qFr_5 qFr_5)))⟩
             · simp only [qOpn]
               rw [if_neg (by omega)]
               rfl
             · simp only [qOpn]
               rw [if_neg (by omega), if_neg (by omega)]
               exact qRg_5x h1 h2 h3 h4 (qFr_tr qFr_5 (qFr_tr qFr_5 qFr_5)) (by simp [qup, hm5, e3, e4, e5, e6]) (by simp [qup, hm5, e3, e4, e5, e6]) (by simp [qup, hm5, e3, e4, e5, e6]) (by simp [qup, hm5, e3, e4, e5, e6]))
          | (rw [e4] at hcf
             refine ⟨_, rfl, ?_, ?_, qFr_5I (qFr_tr qFr_5 (qFr_tr qFr_5 qFr_5))⟩
             · simp only [qOpn]
               rw [if_neg (by omega)]
               rfl
             · simp only [qOpn]
               rw [if_neg (by omega), if_pos (by omega)]
               exact qRg_5x h1 h2 h3 h4 (qFr_tr qFr_5 (qFr_tr qFr_5 qFr_5)) (by simp [qup, e3, e4, e5, e6]) (by simp [qup, e3, e4, e5, e6]) (by simp [qup, e3, e4, e5, e6]) (by simp [qup, e3, e4, e5, e6]))
      · refine qr_al rfl rfl (w := ?_)
        refine qr_gr rfl kd_5 (hr := (rf_3_1 h)) (w := ?_)
        refine qr_const rfl (w := ?_)
        refine qr_il rfl rfl (w := ?_)
        refine qr_add rfl (by first | omega | (rw [qup_i (by decide), e4]; omega) | (rw [qup_i (by decide), hm5, e4]; omega)) (w := ?_)
        refine qr_callV rfl (sForm_add (kForm h) h2 p2) (qrcv1 kd_11) (w := fun _ σ hσ => ?_)
        obtain ⟨m1, rfl, h2, hf1⟩ := hσ
        have hm5 : m1 5 = m 5 := hf1 5 (by decide)
        have h1 : qPh m1 6 ps := qPh_fr h1 hf1 (fun a g1 g2 => by show ¬ (11 ≤ a ∧ a < 14); omega)
        have h3 : qRw m1 14 ns := qRw_fr h3 hf1 (by decide) (by decide)
        refine qr_al rfl rfl (w := ?_)
        refine qr_il rfl rfl (w := ?_)
        refine qr_pi rfl kd_5 (w := ?_)
        refine qr_al rfl rfl (w := ?_)
        refine qr_dup rfl (w := ?_)
        refine qr_gi rfl kd_5 (w := ?_)
        refine qr_const rfl (w := ?_)
        refine qr_add rfl (by first | omega | (rw [qup_i (by decide), e4]; omega) | (rw [qup_i (by decide), hm5, e4]; omega)) (w := ?_)
        refine qr_pi rfl kd_5 (w := ?_)
        refine qr_al rfl rfl (w := ?_)
        refine qr_const rfl (w := ?_)
        refine qr_pi rfl kd_5 (w := ?_)
        refine qr_const rfl (w := ?_)
        refine qW_zreturn rfl (by first | exact Or.inl rfl | exact Or.inr rfl | (simp only [qbi]; split <;> simp)) ?_
        first
          | (rw [e4] at hcf
             refine ⟨_, rfl, ?_, ?_, qFr_rf⟩
             · simp only [qOpn]
               rw [if_pos (by omega)]
               rfl
             · simp only [qOpn]
               rw [if_pos (by omega)]
               exact ⟨h1, h2, h3, h4, e3, e4, e5, e6⟩)
          | (refine ⟨_, rfl, ?_, ?_, qFr_rf⟩
             · simp only [qOpn]
               rw [if_pos (by omega)]
               rfl
             · simp only [qOpn]
               rw [if_pos (by omega)]
               exact ⟨h1, h2, h3, h4, e3, e4, e5, e6⟩)
          | (rw [e4] at hcf
             refine ⟨_, rfl, ?_, ?_, qFr_tr (qFr_mo hf1 (fun a ha => ⟨by have := ha.1; omega, by have := ha.2; omega⟩)) (qFr_5I (qFr_tr qFr_5 (qFr_tr qFr_5 qFr_5)))⟩
             · simp only [qOpn]
               rw [if_neg (by omega)]
               rfl
             · simp only [qOpn]
               rw [if_neg (by omega), if_neg (by omega)]
               exact qRg_5x h1 h2 h3 h4 (qFr_tr qFr_5 (qFr_tr qFr_5 qFr_5)) (by simp [qup, hm5, e3, e4, e5, e6]) (by simp [qup, hm5, e3, e4, e5, e6]) (by simp [qup, hm5, e3, e4, e5, e6]) (by simp [qup, hm5, e3, e4, e5, e6]))
          | (rw [e4] at hcf
             refine ⟨_, rfl, ?_, ?_, qFr_5I (qFr_tr qFr_5 (qFr_tr qFr_5 qFr_5))⟩
             · simp only [qOpn]
               rw [if_neg (by omega)]
               rfl
             · simp only [qOpn]
               rw [if_neg (by omega), if_pos (by omega)]
               exact qRg_5x h1 h2 h3 h4 (qFr_tr qFr_5 (qFr_tr qFr_5 qFr_5)) (by simp [qup, e3, e4, e5, e6]) (by simp [qup, e3, e4, e5, e6]) (by simp [qup, e3, e4, e5, e6]) (by simp [qup, e3, e4, e5, e6]))
    · refine qr_const rfl (w := ?_)
      refine qW_zreturn rfl (by first | exact Or.inl rfl | exact Or.inr rfl | (simp only [qbi]; split <;> simp)) ?_
      first
        | (rw [e4] at hcf
           refine ⟨_, rfl, ?_, ?_, qFr_rf⟩
           · simp only [qOpn]
             rw [if_pos (by omega)]
             rfl
           · simp only [qOpn]
             rw [if_pos (by omega)]
             exact ⟨h1, h2, h3, h4, e3, e4, e5, e6⟩)
        | (refine ⟨_, rfl, ?_, ?_, qFr_rf⟩
           · simp only [qOpn]
             rw [if_pos (by omega)]
             rfl
           · simp only [qOpn]
             rw [if_pos (by omega)]
             exact ⟨h1, h2, h3, h4, e3, e4, e5, e6⟩)
        | (rw [e4] at hcf
           refine ⟨_, rfl, ?_, ?_, qFr_tr (qFr_mo hf1 (fun a ha => ⟨by have := ha.1; omega, by have := ha.2; omega⟩)) (qFr_5I (qFr_tr qFr_5 (qFr_tr qFr_5 qFr_5)))⟩
           · simp only [qOpn]
             rw [if_neg (by omega)]
             rfl
           · simp only [qOpn]
             rw [if_neg (by omega), if_neg (by omega)]
             exact qRg_5x h1 h2 h3 h4 (qFr_tr qFr_5 (qFr_tr qFr_5 qFr_5)) (by simp [qup, hm5, e3, e4, e5, e6]) (by simp [qup, hm5, e3, e4, e5, e6]) (by simp [qup, hm5, e3, e4, e5, e6]) (by simp [qup, hm5, e3, e4, e5, e6]))
        | (rw [e4] at hcf
           refine ⟨_, rfl, ?_, ?_, qFr_5I (qFr_tr qFr_5 (qFr_tr qFr_5 qFr_5))⟩
           · simp only [qOpn]
             rw [if_neg (by omega)]
             rfl
           · simp only [qOpn]
             rw [if_neg (by omega), if_pos (by omega)]
             exact qRg_5x h1 h2 h3 h4 (qFr_tr qFr_5 (qFr_tr qFr_5 qFr_5)) (by simp [qup, e3, e4, e5, e6]) (by simp [qup, e3, e4, e5, e6]) (by simp [qup, e3, e4, e5, e6]) (by simp [qup, e3, e4, e5, e6]))
theorem sRdg_takeClosing (h : qE r) {ps : List (Int × Int)} {fs ns : List Int} {st lv op nm : Int} (hs : qRg m (ps, fs, ns, st, lv, op, nm)) (hp : qRp (ps, fs, ns, st, lv, op, nm)) : qW m_Rdg_takeClosing 0 [qK 5] [] (qT0, m, r) (fun x σ => ∃ m', σ = (qT0, m', r) ∧ x = qI (qbi (qCls (ps, fs, ns, st, lv, op, nm)).1) ∧ qRg m' (qCls (ps, fs, ns, st, lv, op, nm)).2 ∧ qFr (qIv 5 16) m m') := by
  obtain ⟨h1, h2, h3, h4, e3, e4, e5, e6⟩ := hs
  obtain ⟨p1, p2, p3, p4, p5, p6⟩ := hp
  dsimp only at h1 h2 h3 h4 e3 e4 e5 e6 p1 p2 p3 p4 p5 p6
  refine qr_al rfl rfl (w := ?_)
  refine qr_al rfl rfl (w := ?_)
  refine qr_gr rfl kd_5 (hr := (rf_3_0 h)) (w := ?_)
  refine qr_al rfl rfl (w := ?_)
  refine qr_gi rfl kd_5 (w := ?_)
  refine qr_callP rfl (sPaths_outerOf (kPaths h) h1) (qrcv1 kd_6) (w := ?_)
  refine qr_pi rfl kd_5 (w := ?_)
  refine qr_al rfl rfl (w := ?_)
  refine qr_dup rfl (w := ?_)
  refine qr_gi rfl kd_5 (w := ?_)
  refine qr_const rfl (w := ?_)
  refine qr_sub rfl (by first | omega | (rw [qup_i (by decide), e4]; omega)) (w := ?_)
  refine qr_pi rfl kd_5 (w := ?_)
  refine qr_al rfl rfl (w := ?_)
  refine qr_al rfl rfl (w := ?_)
  refine qr_gi rfl kd_5 (w := ?_)
  refine qr_ifne rfl (fun hc => ?_) (fun hc => ?_)
  · refine qr_const rfl (w := ?_)
    refine qr_pi rfl kd_5 (w := ?_)
    refine qr_const rfl (w := ?_)
    refine qW_zreturn rfl (by first | exact Or.inl rfl | exact Or.inr rfl | (simp only [qbi]; split <;> simp)) ?_
    rw [qup_s, qup_i (by decide), e4] at hc
    refine ⟨_, rfl, rfl, ?_, qFr_5I (qFr_tr qFr_5 (qFr_tr qFr_5 qFr_5))⟩
    simp only [qCls]
    first | rw [if_pos (by omega)] | rw [if_neg (by omega)]
    exact qRg_5x h1 h2 h3 h4 (qFr_tr qFr_5 (qFr_tr qFr_5 qFr_5)) (by simp [qup, e3, e4, e5, e6]) (by simp [qup, e3, e4, e5, e6]) (by simp [qup, e3, e4, e5, e6]) (by simp [qup, e3, e4, e5, e6])
  · refine qr_const rfl (w := ?_)
    refine qr_goto rfl (w := ?_)
    refine qr_pi rfl kd_5 (w := ?_)
    refine qr_const rfl (w := ?_)
    refine qW_zreturn rfl (by first | exact Or.inl rfl | exact Or.inr rfl | (simp only [qbi]; split <;> simp)) ?_
    rw [qup_s, qup_i (by decide), e4] at hc
    refine ⟨_, rfl, rfl, ?_, qFr_5I (qFr_tr qFr_5 (qFr_tr qFr_5 qFr_5))⟩
    simp only [qCls]
    first | rw [if_pos (by omega)] | rw [if_neg (by omega)]
    exact qRg_5x h1 h2 h3 h4 (qFr_tr qFr_5 (qFr_tr qFr_5 qFr_5)) (by simp [qup, e3, e4, e5, e6]) (by simp [qup, e3, e4, e5, e6]) (by simp [qup, e3, e4, e5, e6]) (by simp [qup, e3, e4, e5, e6])
theorem sRdg_takeLetter (h : qE r) {ps : List (Int × Int)} {fs ns : List Int} {st lv op nm : Int} (hs : qRg m (ps, fs, ns, st, lv, op, nm)) (hp : qRp (ps, fs, ns, st, lv, op, nm)) {c : Int} : qW m_Rdg_takeLetter 0 [qK 5, qI c] [] (qT0, m, r) (fun x σ => ∃ m', σ = (qT0, m', r) ∧ x = qI (qbi (qLet (ps, fs, ns, st, lv, op, nm) c).1) ∧ qRg m' (qLet (ps, fs, ns, st, lv, op, nm) c).2 ∧ qFr (qIv 5 16) m m') := by
  obtain ⟨h1, h2, h3, h4, e3, e4, e5, e6⟩ := hs
  obtain ⟨p1, p2, p3, p4, p5, p6⟩ := hp
  dsimp only at h1 h2 h3 h4 e3 e4 e5 e6 p1 p2 p3 p4 p5 p6
  have hle := qFi_le ps c op 0
  refine qr_il rfl rfl (w := ?_)
  refine qr_const rfl (w := ?_)
  refine qr_iclt rfl (fun hc => ?_) (fun hc => ?_)
  · refine qr_const rfl (w := ?_)
    refine qW_zreturn rfl (by first | exact Or.inl rfl | exact Or.inr rfl | (simp only [qbi]; split <;> simp)) ?_
    first
      | (refine ⟨_, rfl, ?_, ?_, qFr_rf⟩
         · simp only [qLet]
           rw [if_pos (by omega)]
           rfl
         · simp only [qLet]
           rw [if_pos (by omega)]
           exact ⟨h1, h2, h3, h4, e3, e4, e5, e6⟩)
      | (refine ⟨_, rfl, ?_, ?_, qFr_tr (qFr_mo hf1 (fun a ha => ⟨by have := ha.1; omega, by have := ha.2; omega⟩)) (qFr_5I F)⟩
         · simp only [qLet]
           rw [if_neg (by omega)]
           first
             | (simp only [hcft, hcftf, Bool.not_true, Bool.not_false, Bool.and_true, Bool.and_false, Bool.true_and, Bool.false_and]; rfl)
             | (simp only [hcft, Bool.not_true, Bool.not_false, Bool.and_true, Bool.and_false, Bool.true_and, Bool.false_and]; rfl)
         · simp only [qLet]
           rw [if_neg (by omega)]
           exact qRg_5x h1 h2 h3 h4 F (by simp [qup, hm5, e3, e4, e5, e6]) (by simp [qup, hm5, e3, e4, e5, e6]) (by simp [qup, hm5, e3, e4, e5, e6]) (by simp [qup]))
  · refine qr_il rfl rfl (w := ?_)
    refine qr_const rfl (w := ?_)
    refine qr_icle rfl (fun hcf => ?_) (fun hcf => ?_)
    · refine qr_al rfl rfl (w := ?_)
      refine qr_al rfl rfl (w := ?_)
      refine qr_gr rfl kd_5 (hr := (rf_3_0 h)) (w := ?_)
      refine qr_il rfl rfl (w := ?_)
      refine qr_al rfl rfl (w := ?_)
      refine qr_gi rfl kd_5 (w := ?_)
      rw [e5]
      refine qr_callA rfl (sPaths_findOrAdd (l := c) (u := op) (kPaths h) h1 p1) (qrcv1 kd_6) (w := fun _ σ hσ => ?_)
      obtain ⟨m1, rfl, rfl, h1, hf1⟩ := hσ
      have hm5 : m1 5 = m 5 := hf1 5 (by decide)
      have h2 : qFm m1 11 fs := qFm_fr h2 hf1 (by decide) (by decide) (by decide)
      have h3 : qRw m1 14 ns := qRw_fr h3 hf1 (by decide) (by decide)
      have F := qFr_tr (qFr_5 (m := m1) (i := 6) (x := (qFi ps c op 0 : Nat))) (qFr_5 (i := 3) (x := 3))
      have h2b := qFm_fr h2 F (by decide) (by decide) (by decide)
      refine qr_pi rfl kd_5 (w := ?_)
      refine qr_al rfl rfl (w := ?_)
      refine qr_const rfl (w := ?_)
      refine qr_pi rfl kd_5 (w := ?_)
      refine qr_al rfl rfl (w := ?_)
      refine qr_gr rfl kd_5 (hr := (rf_3_1 h)) (w := ?_)
      refine qr_al rfl rfl (w := ?_)
      refine qr_gi rfl kd_5 (w := ?_)
      rw [qup_i (by decide), qup_s]
      refine qr_callP rfl (sForm_holds (kForm h) h2b) (qrcv1 kd_11) (w := ?_)
      refine qr_ifneB rfl (fun hcft => ?_) (fun hcft => ?_)
      · refine qr_const rfl (w := ?_)
        refine qW_zreturn rfl (by first | exact Or.inl rfl | exact Or.inr rfl | (simp only [qbi]; split <;> simp)) ?_
        first
          | (refine ⟨_, rfl, ?_, ?_, qFr_rf⟩
             · simp only [qLet]
               rw [if_pos (by omega)]
               rfl
             · simp only [qLet]
               rw [if_pos (by omega)]
               exact ⟨h1, h2, h3, h4, e3, e4, e5, e6⟩)
          | (refine ⟨_, rfl, ?_, ?_, qFr_tr (qFr_mo hf1 (fun a ha => ⟨by have := ha.1; omega, by have := ha.2; omega⟩)) (qFr_5I F)⟩
             · simp only [qLet]
               rw [if_neg (by omega)]
               first
                 | (simp only [hcft, hcftf, Bool.not_true, Bool.not_false, Bool.and_true, Bool.and_false, Bool.true_and, Bool.false_and]; rfl)
                 | (simp only [hcft, Bool.not_true, Bool.not_false, Bool.and_true, Bool.and_false, Bool.true_and, Bool.false_and]; rfl)
             · simp only [qLet]
               rw [if_neg (by omega)]
               exact qRg_5x h1 h2 h3 h4 F (by simp [qup, hm5, e3, e4, e5, e6]) (by simp [qup, hm5, e3, e4, e5, e6]) (by simp [qup, hm5, e3, e4, e5, e6]) (by simp [qup]))
      · refine qr_al rfl rfl (w := ?_)
        refine qr_gr rfl kd_5 (hr := (rf_3_1 h)) (w := ?_)
        refine qr_const rfl (w := ?_)
        refine qr_al rfl rfl (w := ?_)
        refine qr_gi rfl kd_5 (w := ?_)
        refine qr_add rfl (by first | omega | (rw [qup_i (by decide), qup_s]; omega)) (w := ?_)
        rw [qup_i (by decide), qup_s]
        refine qr_callP rfl (sForm_holds (kForm h) h2b) (qrcv1 kd_11) (w := ?_)
        refine qr_ifneB rfl (fun hcftf => ?_) (fun hcftf => ?_)
        · refine qr_const rfl (w := ?_)
          refine qW_zreturn rfl (by first | exact Or.inl rfl | exact Or.inr rfl | (simp only [qbi]; split <;> simp)) ?_
          first
            | (refine ⟨_, rfl, ?_, ?_, qFr_rf⟩
               · simp only [qLet]
                 rw [if_pos (by omega)]
                 rfl
               · simp only [qLet]
                 rw [if_pos (by omega)]
                 exact ⟨h1, h2, h3, h4, e3, e4, e5, e6⟩)
            | (refine ⟨_, rfl, ?_, ?_, qFr_tr (qFr_mo hf1 (fun a ha => ⟨by have := ha.1; omega, by have := ha.2; omega⟩)) (qFr_5I F)⟩
               · simp only [qLet]
                 rw [if_neg (by omega)]
                 first
                   | (simp only [hcft, hcftf, Bool.not_true, Bool.not_false, Bool.and_true, Bool.and_false, Bool.true_and, Bool.false_and]; rfl)
                   | (simp only [hcft, Bool.not_true, Bool.not_false, Bool.and_true, Bool.and_false, Bool.true_and, Bool.false_and]; rfl)
               · simp only [qLet]
                 rw [if_neg (by omega)]
                 exact qRg_5x h1 h2 h3 h4 F (by simp [qup, hm5, e3, e4, e5, e6]) (by simp [qup, hm5, e3, e4, e5, e6]) (by simp [qup, hm5, e3, e4, e5, e6]) (by simp [qup]))
        · refine qr_const rfl (w := ?_)
          refine qr_goto rfl (w := ?_)
          refine qW_zreturn rfl (by first | exact Or.inl rfl | exact Or.inr rfl | (simp only [qbi]; split <;> simp)) ?_
          first
            | (refine ⟨_, rfl, ?_, ?_, qFr_rf⟩
               · simp only [qLet]
                 rw [if_pos (by omega)]
                 rfl
               · simp only [qLet]
                 rw [if_pos (by omega)]
                 exact ⟨h1, h2, h3, h4, e3, e4, e5, e6⟩)
            | (refine ⟨_, rfl, ?_, ?_, qFr_tr (qFr_mo hf1 (fun a ha => ⟨by have := ha.1; omega, by have := ha.2; omega⟩)) (qFr_5I F)⟩
               · simp only [qLet]
                 rw [if_neg (by omega)]
                 first
                   | (simp only [hcft, hcftf, Bool.not_true, Bool.not_false, Bool.and_true, Bool.and_false, Bool.true_and, Bool.false_and]; rfl)
                   | (simp only [hcft, Bool.not_true, Bool.not_false, Bool.and_true, Bool.and_false, Bool.true_and, Bool.false_and]; rfl)
               · simp only [qLet]
                 rw [if_neg (by omega)]
                 exact qRg_5x h1 h2 h3 h4 F (by simp [qup, hm5, e3, e4, e5, e6]) (by simp [qup, hm5, e3, e4, e5, e6]) (by simp [qup, hm5, e3, e4, e5, e6]) (by simp [qup]))
    · refine qr_const rfl (w := ?_)
      refine qW_zreturn rfl (by first | exact Or.inl rfl | exact Or.inr rfl | (simp only [qbi]; split <;> simp)) ?_
      first
        | (refine ⟨_, rfl, ?_, ?_, qFr_rf⟩
           · simp only [qLet]
             rw [if_pos (by omega)]
             rfl
           · simp only [qLet]
             rw [if_pos (by omega)]
             exact ⟨h1, h2, h3, h4, e3, e4, e5, e6⟩)
        | (refine ⟨_, rfl, ?_, ?_, qFr_tr (qFr_mo hf1 (fun a ha => ⟨by have := ha.1; omega, by have := ha.2; omega⟩)) (qFr_5I F)⟩
           · simp only [qLet]
             rw [if_neg (by omega)]
             first
               | (simp only [hcft, hcftf, Bool.not_true, Bool.not_false, Bool.and_true, Bool.and_false, Bool.true_and, Bool.false_and]; rfl)
               | (simp only [hcft, Bool.not_true, Bool.not_false, Bool.and_true, Bool.and_false, Bool.true_and, Bool.false_and]; rfl)
           · simp only [qLet]
             rw [if_neg (by omega)]
             exact qRg_5x h1 h2 h3 h4 F (by simp [qup, hm5, e3, e4, e5, e6]) (by simp [qup, hm5, e3, e4, e5, e6]) (by simp [qup, hm5, e3, e4, e5, e6]) (by simp [qup]))
theorem sRdg_takeColon (h : qE r) {ps : List (Int × Int)} {fs ns : List Int} {st lv op nm : Int} (hs : qRg m (ps, fs, ns, st, lv, op, nm)) (hp : qRp (ps, fs, ns, st, lv, op, nm)) {c : Int} : qW m_Rdg_takeColon 0 [qK 5, qI c] [] (qT0, m, r) (fun x σ => ∃ m', σ = (qT0, m', r) ∧ x = qI (qbi (qCol (ps, fs, ns, st, lv, op, nm) c).1) ∧ qRg m' (qCol (ps, fs, ns, st, lv, op, nm) c).2 ∧ qFr (qIv 5 16) m m') := by
  obtain ⟨h1, h2, h3, h4, e3, e4, e5, e6⟩ := hs
  obtain ⟨p1, p2, p3, p4, p5, p6⟩ := hp
  dsimp only at h1 h2 h3 h4 e3 e4 e5 e6 p1 p2 p3 p4 p5 p6
  refine qr_al rfl rfl (w := ?_)
  refine qr_const rfl (w := ?_)
  refine qr_pi rfl kd_5 (w := ?_)
  refine qr_il rfl rfl (w := ?_)
  refine qr_const rfl (w := ?_)
  refine qr_icne rfl (fun hc => ?_) (fun hc => ?_)
  · refine qr_const rfl (w := ?_)
    refine qW_zreturn rfl (by first | exact Or.inl rfl | exact Or.inr rfl | (simp only [qbi]; split <;> simp)) ?_
    refine ⟨_, rfl, ?_, ?_, qFr_5I qFr_5⟩
    · simp [qCol, qbi, hc]
    · exact qRg_5x h1 h2 h3 h4 qFr_5 (by simp [qup, e3, e4, e5, e6]) (by simp [qup, e3, e4, e5, e6]) (by simp [qup, e3, e4, e5, e6]) (by simp [qup, e3, e4, e5, e6])
  · refine qr_const rfl (w := ?_)
    refine qr_goto rfl (w := ?_)
    refine qW_zreturn rfl (by first | exact Or.inl rfl | exact Or.inr rfl | (simp only [qbi]; split <;> simp)) ?_
    refine ⟨_, rfl, ?_, ?_, qFr_5I qFr_5⟩
    · simp [qCol, qbi, hc]
    · exact qRg_5x h1 h2 h3 h4 qFr_5 (by simp [qup, e3, e4, e5, e6]) (by simp [qup, e3, e4, e5, e6]) (by simp [qup, e3, e4, e5, e6]) (by simp [qup, e3, e4, e5, e6])
theorem sRdg_takeFirstDigit (h : qE r) {ps : List (Int × Int)} {fs ns : List Int} {st lv op nm : Int} (hs : qRg m (ps, fs, ns, st, lv, op, nm)) (hp : qRp (ps, fs, ns, st, lv, op, nm)) {c : Int} (hc0 : 48 ≤ c ∧ c ≤ 57) : qW m_Rdg_takeFirstDigit 0 [qK 5, qI c] [] (qT0, m, r) (fun x σ => ∃ m', σ = (qT0, m', r) ∧ x = qI (qbi (qDg1 (ps, fs, ns, st, lv, op, nm) c).1) ∧ qRg m' (qDg1 (ps, fs, ns, st, lv, op, nm) c).2 ∧ qFr (qIv 5 16) m m') := by
  obtain ⟨h1, h2, h3, h4, e3, e4, e5, e6⟩ := hs
  obtain ⟨p1, p2, p3, p4, p5, p6⟩ := hp
  dsimp only at h1 h2 h3 h4 e3 e4 e5 e6 p1 p2 p3 p4 p5 p6
  refine qr_al rfl rfl (w := ?_)
  refine qr_gr rfl kd_5 (hr := (rf_3_2 h)) (w := ?_)
  refine qr_callP rfl (sRow_len (kNums h) h3) (qrcv1 (kNums h).1) (w := ?_)
  refine qr_const rfl (w := ?_)
  refine qr_iclt rfl (fun hc => ?_) (fun hc => ?_)
  · refine qr_al rfl rfl (w := ?_)
    refine qr_gr rfl kd_5 (hr := (rf_3_1 h)) (w := ?_)
    refine qr_al rfl rfl (w := ?_)
    refine qr_gi rfl kd_5 (w := ?_)
    rw [e6]
    refine qr_callV rfl (sForm_add (kForm h) h2 p2) (qrcv1 kd_11) (w := fun _ σ hσ => ?_)
    obtain ⟨m1, rfl, h2, hf1⟩ := hσ
    have hm5 : m1 5 = m 5 := hf1 5 (by decide)
    have h1 : qPh m1 6 ps := qPh_fr h1 hf1 (fun a g1 g2 => by show ¬ (11 ≤ a ∧ a < 14); omega)
    have h3 : qRw m1 14 ns := qRw_fr h3 hf1 (by decide) (by decide)
    refine qr_al rfl rfl (w := ?_)
    refine qr_gr rfl kd_5 (hr := (rf_3_2 h)) (w := ?_)
    refine qr_il rfl rfl (w := ?_)
    refine qr_const rfl (w := ?_)
    refine qr_sub rfl (by omega) (w := ?_)
    refine qr_callV rfl (sRow_add (kNums h) h3 (by omega)) (qrcv1 (kNums h).1) (w := fun _ σ hσ => ?_)
    obtain ⟨m2, rfl, h3, hf2⟩ := hσ
    have hm6 : m2 5 = m 5 := (hf2 5 (by decide)).trans hm5
    have h1 : qPh m2 6 ps := qPh_fr h1 hf2 (fun a g1 g2 => by show ¬ (a = 14 ∨ a = 15); omega)
    have h2 : qFm m2 11 (fs ++ [nm]) := qFm_fr h2 hf2 (by decide) (by decide) (by decide)
    refine qr_al rfl rfl (w := ?_)
    refine qr_const rfl (w := ?_)
    refine qr_pi rfl kd_5 (w := ?_)
    refine qr_const rfl (w := ?_)
    refine qW_zreturn rfl (by first | exact Or.inl rfl | exact Or.inr rfl | (simp only [qbi]; split <;> simp)) ?_
    first
      | (refine ⟨_, rfl, ?_, ?_, qFr_rf⟩
         · simp only [qDg1]
           rw [if_pos (by omega)]
           rfl
         · simp only [qDg1]
           rw [if_pos (by omega)]
           exact ⟨h1, h2, h3, h4, e3, e4, e5, e6⟩)
      | (refine ⟨_, rfl, ?_, ?_, qFr_tr (qFr_mo hf1 (fun a ha => ⟨by have := ha.1; omega, by have := ha.2; omega⟩)) (qFr_tr (qFr_Pz hf2 (by omega) (by omega)) (qFr_5I qFr_5))⟩
         · simp only [qDg1]
           rw [if_neg (by omega)]
           rfl
         · simp only [qDg1]
           rw [if_neg (by omega)]
           exact qRg_5x h1 h2 h3 (by rw [List.length_append]; simp only [List.length_cons, List.length_nil]; omega) qFr_5 (by simp [qup, hm6, e3, e4, e5, e6]) (by simp [qup, hm6, e3, e4, e5, e6]) (by simp [qup, hm6, e3, e4, e5, e6]) (by simp [qup, hm6, e3, e4, e5, e6]))
  · refine qr_const rfl (w := ?_)
    refine qW_zreturn rfl (by first | exact Or.inl rfl | exact Or.inr rfl | (simp only [qbi]; split <;> simp)) ?_
    first
      | (refine ⟨_, rfl, ?_, ?_, qFr_rf⟩
         · simp only [qDg1]
           rw [if_pos (by omega)]
           rfl
         · simp only [qDg1]
           rw [if_pos (by omega)]
           exact ⟨h1, h2, h3, h4, e3, e4, e5, e6⟩)
      | (refine ⟨_, rfl, ?_, ?_, qFr_tr (qFr_mo hf1 (fun a ha => ⟨by have := ha.1; omega, by have := ha.2; omega⟩)) (qFr_tr (qFr_Pz hf2 (by omega) (by omega)) (qFr_5I qFr_5))⟩
         · simp only [qDg1]
           rw [if_neg (by omega)]
           rfl
         · simp only [qDg1]
           rw [if_neg (by omega)]
           exact qRg_5x h1 h2 h3 (by rw [List.length_append]; simp only [List.length_cons, List.length_nil]; omega) qFr_5 (by simp [qup, hm6, e3, e4, e5, e6]) (by simp [qup, hm6, e3, e4, e5, e6]) (by simp [qup, hm6, e3, e4, e5, e6]) (by simp [qup, hm6, e3, e4, e5, e6]))
theorem sRdg_takeNextDigit (h : qE r) {ps : List (Int × Int)} {fs ns : List Int} {st lv op nm : Int} (hs : qRg m (ps, fs, ns, st, lv, op, nm)) (hp : qRp (ps, fs, ns, st, lv, op, nm)) {c : Int} (hc0 : 48 ≤ c ∧ c ≤ 57) : qW m_Rdg_takeNextDigit 0 [qK 5, qI c, none, none] [] (qT0, m, r) (fun x σ => ∃ m', σ = (qT0, m', r) ∧ x = qI (qbi (qDg2 (ps, fs, ns, st, lv, op, nm) c).1) ∧ qRg m' (qDg2 (ps, fs, ns, st, lv, op, nm) c).2 ∧ qFr (qIv 5 16) m m') := by
  obtain ⟨h1, h2, h3, h4, e3, e4, e5, e6⟩ := hs
  obtain ⟨p1, p2, p3, p4, p5, p6⟩ := hp
  dsimp only at h1 h2 h3 h4 e3 e4 e5 e6 p1 p2 p3 p4 p5 p6
  refine qr_al rfl rfl (w := ?_)
  refine qr_gr rfl kd_5 (hr := (rf_3_2 h)) (w := ?_)
  refine qr_callP rfl (sRow_len (kNums h) h3) (qrcv1 (kNums h).1) (w := ?_)
  refine qr_const rfl (w := ?_)
  refine qr_sub rfl (by omega) (w := ?_)
  refine qr_is2 rfl (w := ?_)
  refine qr_al rfl rfl (w := ?_)
  refine qr_gr rfl kd_5 (hr := (rf_3_2 h)) (w := ?_)
  refine qr_il rfl rfl (w := ?_)
  refine qr_callP rfl (sRow_at (kNums h) h3 h4) (qrcv1 (kNums h).1) (w := ?_)
  refine qr_is3 rfl (w := ?_)
  refine qr_il rfl rfl (w := ?_)
  refine qr_ifle rfl (fun hc => ?_) (fun hc => ?_)
  · refine qr_const rfl (w := ?_)
    refine qW_zreturn rfl (by first | exact Or.inl rfl | exact Or.inr rfl | (simp only [qbi]; split <;> simp)) ?_
    first
      | (refine ⟨_, rfl, ?_, ?_, qFr_rf⟩
         · simp only [qDg2]
           rw [if_pos (by omega)]
           rfl
         · simp only [qDg2]
           rw [if_pos (by omega)]
           exact ⟨h1, h2, h3, h4, e3, e4, e5, e6⟩)
      | (refine ⟨_, rfl, ?_, ?_, qFr_Pz hf1 (by omega) (by omega)⟩
         · simp only [qDg2]
           rw [if_neg (by omega)]
           rfl
         · simp only [qDg2]
           rw [if_neg (by omega)]
           exact ⟨h1, h2, h3, by rw [List.length_set]; exact h4, by rw [hm5]; exact e3, by rw [hm5]; exact e4, by rw [hm5]; exact e5, by rw [hm5]; exact e6⟩)
  · refine qr_il rfl rfl (w := ?_)
    refine qr_const rfl (w := ?_)
    refine qr_icle rfl (fun hcf => ?_) (fun hcf => ?_)
    · refine qr_al rfl rfl (w := ?_)
      refine qr_gr rfl kd_5 (hr := (rf_3_2 h)) (w := ?_)
      refine qr_il rfl rfl (w := ?_)
      refine qr_il rfl rfl (w := ?_)
      refine qr_const rfl (w := ?_)
      refine qr_mul rfl (by omega) (w := ?_)
      refine qr_il rfl rfl (w := ?_)
      refine qr_add rfl (by omega) (w := ?_)
      refine qr_const rfl (w := ?_)
      refine qr_sub rfl (by omega) (w := ?_)
      have hin : 0 ≤ (ns.length : Int) - 1 ∧ (ns.length : Int) - 1 < ns.length := by
        refine ⟨?_, by omega⟩
        rcases Int.lt_or_le ((ns.length : Int) - 1) 0 with g | g
        · rw [qAt_neg g] at hc; omega
        · exact g
      refine qr_callV rfl (sRow_put (i := (ns.length : Int) - 1) (kNums h) h3 h4 hin) (qrcv1 (kNums h).1) (w := fun _ σ hσ => ?_)
      obtain ⟨m1, rfl, h3, hf1⟩ := hσ
      have hm5 : m1 5 = m 5 := hf1 5 (by decide)
      have h1 : qPh m1 6 ps := qPh_fr h1 hf1 (fun a g1 g2 => by show ¬ (a = 14 ∨ a = 15); omega)
      have h2 : qFm m1 11 fs := qFm_fr h2 hf1 (by decide) (by decide) (by decide)
      rw [show ((ns.length : Int) - 1).toNat = ns.length - 1 by omega] at h3
      refine qr_const rfl (w := ?_)
      refine qW_zreturn rfl (by first | exact Or.inl rfl | exact Or.inr rfl | (simp only [qbi]; split <;> simp)) ?_
      first
        | (refine ⟨_, rfl, ?_, ?_, qFr_rf⟩
           · simp only [qDg2]
             rw [if_pos (by omega)]
             rfl
           · simp only [qDg2]
             rw [if_pos (by omega)]
             exact ⟨h1, h2, h3, h4, e3, e4, e5, e6⟩)
        | (refine ⟨_, rfl, ?_, ?_, qFr_Pz hf1 (by omega) (by omega)⟩
           · simp only [qDg2]
             rw [if_neg (by omega)]
             rfl
           · simp only [qDg2]
             rw [if_neg (by omega)]
             exact ⟨h1, h2, h3, by rw [List.length_set]; exact h4, by rw [hm5]; exact e3, by rw [hm5]; exact e4, by rw [hm5]; exact e5, by rw [hm5]; exact e6⟩)
    · refine qr_const rfl (w := ?_)
      refine qW_zreturn rfl (by first | exact Or.inl rfl | exact Or.inr rfl | (simp only [qbi]; split <;> simp)) ?_
      first
        | (refine ⟨_, rfl, ?_, ?_, qFr_rf⟩
           · simp only [qDg2]
             rw [if_pos (by omega)]
             rfl
           · simp only [qDg2]
             rw [if_pos (by omega)]
             exact ⟨h1, h2, h3, h4, e3, e4, e5, e6⟩)
        | (refine ⟨_, rfl, ?_, ?_, qFr_Pz hf1 (by omega) (by omega)⟩
           · simp only [qDg2]
             rw [if_neg (by omega)]
             rfl
           · simp only [qDg2]
             rw [if_neg (by omega)]
             exact ⟨h1, h2, h3, by rw [List.length_set]; exact h4, by rw [hm5]; exact e3, by rw [hm5]; exact e4, by rw [hm5]; exact e5, by rw [hm5]; exact e6⟩)
theorem sRdg_takeFieldEnd (h : qE r) {ps : List (Int × Int)} {fs ns : List Int} {st lv op nm : Int} (hs : qRg m (ps, fs, ns, st, lv, op, nm)) (hp : qRp (ps, fs, ns, st, lv, op, nm)) {c : Int} : qW m_Rdg_takeFieldEnd 0 [qK 5, qI c] [] (qT0, m, r) (fun x σ => ∃ m', σ = (qT0, m', r) ∧ x = qI (qbi (qEnd (ps, fs, ns, st, lv, op, nm) c).1) ∧ qRg m' (qEnd (ps, fs, ns, st, lv, op, nm) c).2 ∧ qFr (qIv 5 16) m m') := by
  have hs0 := hs
  have hp0 := hp
  obtain ⟨h1, h2, h3, h4, e3, e4, e5, e6⟩ := hs
  obtain ⟨p1, p2, p3, p4, p5, p6⟩ := hp
  dsimp only at h1 h2 h3 h4 e3 e4 e5 e6 p1 p2 p3 p4 p5 p6
  refine qr_il rfl rfl (w := ?_)
  refine qr_const rfl (w := ?_)
  refine qr_icne rfl (fun hc => ?_) (fun hc => ?_)
  · refine qr_al rfl rfl (w := ?_)
    refine qr_const rfl (w := ?_)
    refine qr_pi rfl kd_5 (w := ?_)
    refine qr_il rfl rfl (w := ?_)
    refine qr_const rfl (w := ?_)
    refine qr_icne rfl (fun hct => ?_) (fun hct => ?_)
    · refine qr_const rfl (w := ?_)
      refine qW_zreturn rfl (by first | exact Or.inl rfl | exact Or.inr rfl | (simp only [qbi]; split <;> simp)) ?_
      first
        | (refine ⟨_, rfl, ?_, ?_, hf1⟩
           · simp only [qEnd]
             rw [if_pos hc]
           · simp only [qEnd]
             rw [if_pos hc]
             exact h7)
        | (refine ⟨_, rfl, ?_, ?_, qFr_5I qFr_5⟩
           · simp only [qEnd]
             rw [if_neg hc]
             simp [qbi, hct]
           · simp only [qEnd]
             rw [if_neg hc]
             exact qRg_5x h1 h2 h3 h4 qFr_5 (by simp [qup, e3, e4, e5, e6]) (by simp [qup, e3, e4, e5, e6]) (by simp [qup, e3, e4, e5, e6]) (by simp [qup, e3, e4, e5, e6]))
    · refine qr_const rfl (w := ?_)
      refine qr_goto rfl (w := ?_)
      refine qW_zreturn rfl (by first | exact Or.inl rfl | exact Or.inr rfl | (simp only [qbi]; split <;> simp)) ?_
      first
        | (refine ⟨_, rfl, ?_, ?_, hf1⟩
           · simp only [qEnd]
             rw [if_pos hc]
           · simp only [qEnd]
             rw [if_pos hc]
             exact h7)
        | (refine ⟨_, rfl, ?_, ?_, qFr_5I qFr_5⟩
           · simp only [qEnd]
             rw [if_neg hc]
             simp [qbi, hct]
           · simp only [qEnd]
             rw [if_neg hc]
             exact qRg_5x h1 h2 h3 h4 qFr_5 (by simp [qup, e3, e4, e5, e6]) (by simp [qup, e3, e4, e5, e6]) (by simp [qup, e3, e4, e5, e6]) (by simp [qup, e3, e4, e5, e6]))
  · refine qr_al rfl rfl (w := ?_)
    refine qr_callA rfl (sRdg_takeClosing h hs0 hp0) (qrcv1 kd_5) (w := fun _ σ hσ => ?_)
    obtain ⟨m1, rfl, rfl, h7, hf1⟩ := hσ
    refine qW_zreturn rfl (by first | exact Or.inl rfl | exact Or.inr rfl | (simp only [qbi]; split <;> simp)) ?_
    first
      | (refine ⟨_, rfl, ?_, ?_, hf1⟩
         · simp only [qEnd]
           rw [if_pos hc]
         · simp only [qEnd]
           rw [if_pos hc]
           exact h7)
      | (refine ⟨_, rfl, ?_, ?_, qFr_5I qFr_5⟩
         · simp only [qEnd]
           rw [if_neg hc]
           simp [qbi, hct]
         · simp only [qEnd]
           rw [if_neg hc]
           exact qRg_5x h1 h2 h3 h4 qFr_5 (by simp [qup, e3, e4, e5, e6]) (by simp [qup, e3, e4, e5, e6]) (by simp [qup, e3, e4, e5, e6]) (by simp [qup, e3, e4, e5, e6]))
theorem sRdg_begin (h : qE r) {ps : List (Int × Int)} {fs ns : List Int} {st lv op nm : Int} (hs : qRg m (ps, fs, ns, st, lv, op, nm)) (hp : qRp (ps, fs, ns, st, lv, op, nm)) {k : Nat} : qW m_Rdg_begin 0 [qK 5, qI k] [] (qT0, m, r) (fun _ σ => ∃ m', σ = (qT0, m', r) ∧ qRg m' (ps.take k, [], [], 0, 0, -9, -9) ∧ qFr (qIv 5 16) m m') := by
  clear hp
  obtain ⟨h1, h2, h3, h4, e3, e4, e5, e6⟩ := hs
  dsimp only at h1 h2 h3 h4 e3 e4 e5 e6
  refine qr_al rfl rfl (w := ?_)
  refine qr_gr rfl kd_5 (hr := (rf_3_0 h)) (w := ?_)
  refine qr_il rfl rfl (w := ?_)
  refine qr_callV rfl (sPaths_cutTo (k := k) (kPaths h) h1) (qrcv1 kd_6) (w := fun _ σ hσ => ?_)
  obtain ⟨m1, rfl, h1, hf1⟩ := hσ
  have h2 := qFm_fr h2 hf1 (by decide) (by decide) (by decide)
  have h3 := qRw_fr h3 hf1 (by decide) (by decide)
  refine qr_al rfl rfl (w := ?_)
  refine qr_gr rfl kd_5 (hr := (rf_3_1 h)) (w := ?_)
  refine qr_callV rfl (sForm_clear (kForm h) h2) (qrcv1 kd_11) (w := fun _ σ hσ => ?_)
  obtain ⟨m2, rfl, h2, hf2⟩ := hσ
  have h1 := qPh_fr h1 hf2 (fun a g1 g2 => by show ¬ (11 ≤ a ∧ a < 14); omega)
  have h3 := qRw_fr h3 hf2 (by decide) (by decide)
  refine qr_al rfl rfl (w := ?_)
  refine qr_gr rfl kd_5 (hr := (rf_3_2 h)) (w := ?_)
  refine qr_const rfl (w := ?_)
  refine qr_callV rfl (sRow_cut (k := 0) (kNums h) h3) (qrcv1 (kNums h).1) (w := fun _ σ hσ => ?_)
  obtain ⟨m3, rfl, h3, hf3⟩ := hσ
  have h1 := qPh_fr h1 hf3 (fun a g1 g2 => by show ¬ a = 14; omega)
  have h2 := qFm_fr h2 hf3 (by decide) (by decide) (by decide)
  rw [List.take_zero] at h3
  refine qr_al rfl rfl (w := ?_)
  refine qr_const rfl (w := ?_)
  refine qr_pi rfl kd_5 (w := ?_)
  refine qr_al rfl rfl (w := ?_)
  refine qr_const rfl (w := ?_)
  refine qr_pi rfl kd_5 (w := ?_)
  refine qr_al rfl rfl (w := ?_)
  refine qr_const rfl (w := ?_)
  refine qr_pi rfl kd_5 (w := ?_)
  refine qr_al rfl rfl (w := ?_)
  refine qr_const rfl (w := ?_)
  refine qr_pi rfl kd_5 (w := ?_)
  refine qW_return rfl ?_
  have F4 : qFr (fun a => a = 5) m3 _ := qFr_tr (qFr_5 (i := 3) (x := 0)) (qFr_tr (qFr_5 (i := 4) (x := 0)) (qFr_tr (qFr_5 (i := 5) (x := -9)) (qFr_5 (i := 6) (x := -9))))
  refine ⟨_, rfl, qRg_5x h1 h2 h3 (by simp) F4 (by simp [qup]) (by simp [qup]) (by simp [qup]) (by simp [qup]), qFr_tr (qFr_mo hf1 (fun a ha => ⟨by have := ha.1; omega, by have := ha.2; omega⟩)) (qFr_tr (qFr_mo hf2 (fun a ha => ⟨by have := ha.1; omega, by have := ha.2; omega⟩)) (qFr_tr (qFr_mo hf3 (fun a ha => by subst ha; constructor <;> decide)) (qFr_5I F4)))⟩
theorem sRdg_take (h : qE r) {ps : List (Int × Int)} {fs ns : List Int} {st lv op nm : Int} (hs : qRg m (ps, fs, ns, st, lv, op, nm)) (hp : qRp (ps, fs, ns, st, lv, op, nm)) {c : Int} : qW m_Rdg_take 0 [qK 5, qI c] [] (qT0, m, r) (fun x σ => ∃ m', σ = (qT0, m', r) ∧ x = qI (qbi (qTk (ps, fs, ns, st, lv, op, nm) c).1) ∧ qRg m' (qTk (ps, fs, ns, st, lv, op, nm) c).2 ∧ qFr (qIv 5 16) m m') := by
  have e3 := hs.2.2.2.2.1
  have e6 := hs.2.2.2.2.2.2.2
  have p5 := hp.2.2.2.2.1
  have p6 := hp.2.2.2.2.2
  dsimp only at e3 e6 p5 p6
  by_cases hsp : c = 32
  · refine qr_il rfl rfl (w := ?_)
    refine qr_const rfl (w := ?_)
    refine qr_icne rfl (fun hc => ?_) (fun hc => ?_)
    · exact absurd hsp hc
    · refine qr_al rfl rfl (w := ?_)
      refine qr_callV rfl (sRdg_takeSpace h hs hp) (qrcv1 kd_5) (w := fun _ σ hσ => ?_)
      obtain ⟨m1, rfl, h7, hf1⟩ := hσ
      refine qr_const rfl (w := ?_)
      refine qW_zreturn rfl (Or.inr rfl) ?_
      exact ⟨m1, rfl, by simp [qTk, hsp, qbi], by simp only [qTk, if_pos hsp]; exact h7, hf1⟩
  · have K : qW m_Rdg_take 12 [qK 5, qI c] [] (qT0, m, r) (fun x σ => ∃ m', σ = (qT0, m', r) ∧ x = qI (qbi (qTk (ps, fs, ns, st, lv, op, nm) c).1) ∧ qRg m' (qTk (ps, fs, ns, st, lv, op, nm) c).2 ∧ qFr (qIv 5 16) m m') := by
      by_cases e0 : st = 0
      · have e0 := e0
        rw [e0] at e3
        refine qr_al rfl rfl (w := ?_)
        refine qr_gi rfl kd_5 (w := ?_)
        rw [e3]
        refine qr_swin rfl (by decide) (t := 60) rfl (w := ?_)
        refine qr_al rfl rfl (w := ?_)
        refine qr_il rfl rfl (w := ?_)
        refine qr_const rfl (w := ?_)
        refine qr_callA rfl (sRdg_takeOpening h hs hp (c := c) (br := -9) (by decide)) (qrcv1 kd_5) (w := fun _ σ hσ => ?_)
        obtain ⟨m1, rfl, rfl, h7, hf1⟩ := hσ
        refine qW_zreturn rfl (by simp only [qbi]; split <;> simp) ?_
        have hT : qTk (ps, fs, ns, st, lv, op, nm) c = qOpn (ps, fs, ns, st, lv, op, nm) c (-9) := by
          simp only [qTk, if_neg hsp, e0, if_pos rfl]
          rfl
        rw [hT]
        exact ⟨m1, rfl, rfl, h7, hf1⟩
      by_cases e1 : st = 1
      · have e0 := e1
        rw [e1] at e3
        refine qr_al rfl rfl (w := ?_)
        refine qr_gi rfl kd_5 (w := ?_)
        rw [e3]
        refine qr_swin rfl (by decide) (t := 68) rfl (w := ?_)
        refine qr_il rfl rfl (w := ?_)
        refine qr_const rfl (w := ?_)
        refine qr_icne rfl (fun hc => ?_) (fun hc => ?_)
        · refine qr_al rfl rfl (w := ?_)
          refine qr_il rfl rfl (w := ?_)
          refine qr_callA rfl (sRdg_takeLetter h hs hp) (qrcv1 kd_5) (w := fun _ σ hσ => ?_)
          obtain ⟨m1, rfl, rfl, h7, hf1⟩ := hσ
          refine qW_zreturn rfl (by simp only [qbi]; split <;> simp) ?_
          have hT : qTk (ps, fs, ns, st, lv, op, nm) c = qLet (ps, fs, ns, st, lv, op, nm) c := by
            simp only [qTk, if_neg hsp, e0, if_neg (show ¬ (1 : Int) = 0 by decide), if_pos rfl, if_neg hc]
            rfl
          rw [hT]
          exact ⟨m1, rfl, rfl, h7, hf1⟩
        · refine qr_al rfl rfl (w := ?_)
          refine qr_callA rfl (sRdg_takeClosing h hs hp) (qrcv1 kd_5) (w := fun _ σ hσ => ?_)
          obtain ⟨m1, rfl, rfl, h7, hf1⟩ := hσ
          refine qr_goto rfl (w := ?_)
          refine qW_zreturn rfl (by simp only [qbi]; split <;> simp) ?_
          have hT : qTk (ps, fs, ns, st, lv, op, nm) c = qCls (ps, fs, ns, st, lv, op, nm) := by
            simp only [qTk, if_neg hsp, e0, if_neg (show ¬ (1 : Int) = 0 by decide), if_pos rfl, if_pos hc]
            rfl
          rw [hT]
          exact ⟨m1, rfl, rfl, h7, hf1⟩
      by_cases e2 : st = 2
      · have e0 := e2
        rw [e2] at e3
        refine qr_al rfl rfl (w := ?_)
        refine qr_gi rfl kd_5 (w := ?_)
        rw [e3]
        refine qr_swin rfl (by decide) (t := 87) rfl (w := ?_)
        refine qr_al rfl rfl (w := ?_)
        refine qr_il rfl rfl (w := ?_)
        refine qr_callA rfl (sRdg_takeLetter h hs hp) (qrcv1 kd_5) (w := fun _ σ hσ => ?_)
        obtain ⟨m1, rfl, rfl, h7, hf1⟩ := hσ
        refine qW_zreturn rfl (by simp only [qbi]; split <;> simp) ?_
        have hT : qTk (ps, fs, ns, st, lv, op, nm) c = qLet (ps, fs, ns, st, lv, op, nm) c := by
          simp only [qTk, if_neg hsp, e0, if_neg (show ¬ (2 : Int) = 0 by decide), if_neg (show ¬ (2 : Int) = 1 by decide), if_pos rfl]
          rfl
        rw [hT]
        exact ⟨m1, rfl, rfl, h7, hf1⟩
      by_cases e3x : st = 3
      · have e0 := e3x
        rw [e3x] at e3
        refine qr_al rfl rfl (w := ?_)
        refine qr_gi rfl kd_5 (w := ?_)
        rw [e3]
        refine qr_swin rfl (by decide) (t := 93) rfl (w := ?_)
        refine qr_al rfl rfl (w := ?_)
        refine qr_il rfl rfl (w := ?_)
        refine qr_callA rfl (sRdg_takeColon h hs hp) (qrcv1 kd_5) (w := fun _ σ hσ => ?_)
        obtain ⟨m1, rfl, rfl, h7, hf1⟩ := hσ
        refine qW_zreturn rfl (by simp only [qbi]; split <;> simp) ?_
        have hT : qTk (ps, fs, ns, st, lv, op, nm) c = qCol (ps, fs, ns, st, lv, op, nm) c := by
          simp only [qTk, if_neg hsp, e0, if_neg (show ¬ (3 : Int) = 0 by decide), if_neg (show ¬ (3 : Int) = 1 by decide), if_neg (show ¬ (3 : Int) = 2 by decide), if_pos rfl]
          rfl
        rw [hT]
        exact ⟨m1, rfl, rfl, h7, hf1⟩
      by_cases e4 : st = 4
      · have e0 := e4
        rw [e4] at e3
        refine qr_al rfl rfl (w := ?_)
        refine qr_gi rfl kd_5 (w := ?_)
        rw [e3]
        refine qr_swin rfl (by decide) (t := 99) rfl (w := ?_)
        refine qr_il rfl rfl (w := ?_)
        refine qr_callP rfl (sRdg_isDigit) rfl (w := ?_)
        refine qr_ifeqB rfl (fun hc => ?_) (fun hc => ?_)
        · refine qr_al rfl rfl (w := ?_)
          refine qr_il rfl rfl (w := ?_)
          refine qr_al rfl rfl (w := ?_)
          refine qr_gi rfl kd_5 (w := ?_)
          rw [e6]
          refine qr_callA rfl (sRdg_takeOpening h hs hp (c := c) (br := nm) (by omega)) (qrcv1 kd_5) (w := fun _ σ hσ => ?_)
          obtain ⟨m1, rfl, rfl, h7, hf1⟩ := hσ
          refine qW_zreturn rfl (by simp only [qbi]; split <;> simp) ?_
          have hT : qTk (ps, fs, ns, st, lv, op, nm) c = qOpn (ps, fs, ns, st, lv, op, nm) c nm := by
            simp only [qTk, if_neg hsp, e0, if_neg (show ¬ (4 : Int) = 0 by decide), if_neg (show ¬ (4 : Int) = 1 by decide), if_neg (show ¬ (4 : Int) = 2 by decide), if_neg (show ¬ (4 : Int) = 3 by decide), if_pos rfl, hc, Bool.false_eq_true, if_false]
            rfl
          rw [hT]
          exact ⟨m1, rfl, rfl, h7, hf1⟩
        · refine qr_al rfl rfl (w := ?_)
          refine qr_il rfl rfl (w := ?_)
          refine qr_callA rfl (sRdg_takeFirstDigit h hs hp (of_decide_eq_true hc)) (qrcv1 kd_5) (w := fun _ σ hσ => ?_)
          obtain ⟨m1, rfl, rfl, h7, hf1⟩ := hσ
          refine qr_goto rfl (w := ?_)
          refine qW_zreturn rfl (by simp only [qbi]; split <;> simp) ?_
          have hT : qTk (ps, fs, ns, st, lv, op, nm) c = qDg1 (ps, fs, ns, st, lv, op, nm) c := by
            simp only [qTk, if_neg hsp, e0, if_neg (show ¬ (4 : Int) = 0 by decide), if_neg (show ¬ (4 : Int) = 1 by decide), if_neg (show ¬ (4 : Int) = 2 by decide), if_neg (show ¬ (4 : Int) = 3 by decide), if_pos rfl, if_pos hc]
            rfl
          rw [hT]
          exact ⟨m1, rfl, rfl, h7, hf1⟩
      by_cases e5 : st = 5
      · have e0 := e5
        rw [e5] at e3
        refine qr_al rfl rfl (w := ?_)
        refine qr_gi rfl kd_5 (w := ?_)
        rw [e3]
        refine qr_swin rfl (by decide) (t := 124) rfl (w := ?_)
        refine qr_il rfl rfl (w := ?_)
        refine qr_callP rfl (sRdg_isDigit) rfl (w := ?_)
        refine qr_ifeqB rfl (fun hc => ?_) (fun hc => ?_)
        · refine qr_al rfl rfl (w := ?_)
          refine qr_il rfl rfl (w := ?_)
          refine qr_callA rfl (sRdg_takeFieldEnd h hs hp) (qrcv1 kd_5) (w := fun _ σ hσ => ?_)
          obtain ⟨m1, rfl, rfl, h7, hf1⟩ := hσ
          refine qW_zreturn rfl (by simp only [qbi]; split <;> simp) ?_
          have hT : qTk (ps, fs, ns, st, lv, op, nm) c = qEnd (ps, fs, ns, st, lv, op, nm) c := by
            simp only [qTk, if_neg hsp, e0, if_neg (show ¬ (5 : Int) = 0 by decide), if_neg (show ¬ (5 : Int) = 1 by decide), if_neg (show ¬ (5 : Int) = 2 by decide), if_neg (show ¬ (5 : Int) = 3 by decide), if_neg (show ¬ (5 : Int) = 4 by decide), if_pos rfl, hc, Bool.false_eq_true, if_false]
            rfl
          rw [hT]
          exact ⟨m1, rfl, rfl, h7, hf1⟩
        · refine qr_al rfl rfl (w := ?_)
          refine qr_il rfl rfl (w := ?_)
          refine qr_callA rfl (sRdg_takeNextDigit h hs hp (of_decide_eq_true hc)) (qrcv1 kd_5) (w := fun _ σ hσ => ?_)
          obtain ⟨m1, rfl, rfl, h7, hf1⟩ := hσ
          refine qr_goto rfl (w := ?_)
          refine qW_zreturn rfl (by simp only [qbi]; split <;> simp) ?_
          have hT : qTk (ps, fs, ns, st, lv, op, nm) c = qDg2 (ps, fs, ns, st, lv, op, nm) c := by
            simp only [qTk, if_neg hsp, e0, if_neg (show ¬ (5 : Int) = 0 by decide), if_neg (show ¬ (5 : Int) = 1 by decide), if_neg (show ¬ (5 : Int) = 2 by decide), if_neg (show ¬ (5 : Int) = 3 by decide), if_neg (show ¬ (5 : Int) = 4 by decide), if_pos rfl, if_pos hc]
            rfl
          rw [hT]
          exact ⟨m1, rfl, rfl, h7, hf1⟩
      by_cases e6x : st = 6
      · have e0 := e6x
        rw [e6x] at e3
        refine qr_al rfl rfl (w := ?_)
        refine qr_gi rfl kd_5 (w := ?_)
        rw [e3]
        refine qr_swin rfl (by decide) (t := 145) rfl (w := ?_)
        refine qr_al rfl rfl (w := ?_)
        refine qr_il rfl rfl (w := ?_)
        refine qr_callA rfl (sRdg_takeFieldEnd h hs hp) (qrcv1 kd_5) (w := fun _ σ hσ => ?_)
        obtain ⟨m1, rfl, rfl, h7, hf1⟩ := hσ
        refine qW_zreturn rfl (by simp only [qbi]; split <;> simp) ?_
        have hT : qTk (ps, fs, ns, st, lv, op, nm) c = qEnd (ps, fs, ns, st, lv, op, nm) c := by
          simp only [qTk, if_neg hsp, e0, if_neg (show ¬ (6 : Int) = 0 by decide), if_neg (show ¬ (6 : Int) = 1 by decide), if_neg (show ¬ (6 : Int) = 2 by decide), if_neg (show ¬ (6 : Int) = 3 by decide), if_neg (show ¬ (6 : Int) = 4 by decide), if_neg (show ¬ (6 : Int) = 5 by decide), if_pos rfl]
          rfl
        rw [hT]
        exact ⟨m1, rfl, rfl, h7, hf1⟩
      refine qr_al rfl rfl (w := ?_)
      refine qr_gi rfl kd_5 (w := ?_)
      rw [e3]
      refine qr_swout rfl (by simp only [List.length_cons, List.length_nil]; omega) (w := ?_)
      refine qr_const rfl (w := ?_)
      refine qW_zreturn rfl (by first | exact Or.inl rfl | exact Or.inr rfl | (simp only [qbi]; split <;> simp)) ?_
      have hT : qTk (ps, fs, ns, st, lv, op, nm) c = (false, (ps, fs, ns, st, lv, op, nm)) := by
        simp only [qTk, if_neg hsp, if_neg e0, if_neg e1, if_neg e2, if_neg e3x, if_neg e4, if_neg e5, if_neg e6x]
      rw [hT]
      exact ⟨m, rfl, rfl, hs, qFr_rf⟩
    refine qr_il rfl rfl (w := ?_)
    refine qr_const rfl (w := ?_)
    refine qr_icne rfl (fun hc => ?_) (fun hc => ?_)
    · exact K
    · exact absurd hc hsp
end
section
/-! LikeRecords: what is there, sums over records and shapes -/
variable {m : Nat → Int → Int} {r : Nat → Int → Option Nat}
def qSm : Nat → Nat → (Nat → Int) → Int
  | 0, _, _ => 0
  | k + 1, i, g => g i + qSm k (i + 1) g
theorem qmulb {a b X Y : Int} (h1 : 0 ≤ a) (h2 : a ≤ X) (h3 : 0 ≤ b) (h4 : b ≤ Y) : 0 ≤ a * b ∧ a * b ≤ X * Y :=
  ⟨Int.mul_nonneg h1 h3, Int.mul_le_mul h2 h4 h3 (by omega)⟩
theorem qGf_len {ss : List (List Int)} (h : qSh m ss) (s : Int) : (qGf ss s).length ≤ 26 := by
  unfold qGf
  split
  · rename_i hs
    rw [List.getD_eq_getElem?_getD, List.getElem?_eq_getElem (by omega)]
    exact (h.2.1 _ (by omega)).2.2
  · simp
theorem sLR_isPath (h : qE r) {rs vs : List Int} {pk bd : Int} {ss : List (List Int)} (hn : qSc m 144 rs vs pk ss.length bd) (hS : qSh m ss) {p : Int} : qP m_LR_isPath [qK 0, qI p] (qT0, m, r) (qI (qbi (decide (0 ≤ p ∧ p < pk)))) := by
  have e2 := hn.2.2.1
  have e3 := hn.2.2.2.1
  have e4 := hn.2.2.2.2.1
  have h30 := hn.2.2.2.2.2.1
  have h40 := hS.1
  refine qr_il rfl rfl (w := ?_)
  refine qr_iflt rfl (fun hc => ?_) (fun hc => ?_)
  · refine qr_const rfl (w := ?_)
    refine qW_zreturn rfl (by first | exact Or.inl rfl | exact Or.inr rfl | (simp only [qbi]; split <;> simp)) ?_
    try rw [e2] at hcf
    refine ⟨congrArg qI ?_, rfl⟩
    simp only [qbi]
    first | (rw [if_pos (decide_eq_true (by omega))]; done) | (rw [if_neg (fun h9 => by have := of_decide_eq_true h9; omega)]; done)
  · refine qr_il rfl rfl (w := ?_)
    refine qr_al rfl rfl (w := ?_)
    refine qr_gr rfl kd_0 (hr := (rf_7_6 h)) (w := ?_)
    refine qr_gi rfl kd_144 (w := ?_)
    refine qr_icge rfl (fun hcf => ?_) (fun hcf => ?_)
    · refine qr_const rfl (w := ?_)
      refine qW_zreturn rfl (by first | exact Or.inl rfl | exact Or.inr rfl | (simp only [qbi]; split <;> simp)) ?_
      try rw [e2] at hcf
      refine ⟨congrArg qI ?_, rfl⟩
      simp only [qbi]
      first | (rw [if_pos (decide_eq_true (by omega))]; done) | (rw [if_neg (fun h9 => by have := of_decide_eq_true h9; omega)]; done)
    · refine qr_const rfl (w := ?_)
      refine qr_goto rfl (w := ?_)
      refine qW_zreturn rfl (by first | exact Or.inl rfl | exact Or.inr rfl | (simp only [qbi]; split <;> simp)) ?_
      try rw [e2] at hcf
      refine ⟨congrArg qI ?_, rfl⟩
      simp only [qbi]
      first | (rw [if_pos (decide_eq_true (by omega))]; done) | (rw [if_neg (fun h9 => by have := of_decide_eq_true h9; omega)]; done)
theorem sLR_isShape (h : qE r) {rs vs : List Int} {pk bd : Int} {ss : List (List Int)} (hn : qSc m 144 rs vs pk ss.length bd) (hS : qSh m ss) {p : Int} : qP m_LR_isShape [qK 0, qI p] (qT0, m, r) (qI (qbi (decide (0 ≤ p ∧ p < ss.length)))) := by
  have e2 := hn.2.2.1
  have e3 := hn.2.2.2.1
  have e4 := hn.2.2.2.2.1
  have h30 := hn.2.2.2.2.2.1
  have h40 := hS.1
  refine qr_il rfl rfl (w := ?_)
  refine qr_iflt rfl (fun hc => ?_) (fun hc => ?_)
  · refine qr_const rfl (w := ?_)
    refine qW_zreturn rfl (by first | exact Or.inl rfl | exact Or.inr rfl | (simp only [qbi]; split <;> simp)) ?_
    try rw [e3] at hcf
    refine ⟨congrArg qI ?_, rfl⟩
    simp only [qbi]
    first | (rw [if_pos (decide_eq_true (by omega))]; done) | (rw [if_neg (fun h9 => by have := of_decide_eq_true h9; omega)]; done)
  · refine qr_il rfl rfl (w := ?_)
    refine qr_al rfl rfl (w := ?_)
    refine qr_gr rfl kd_0 (hr := (rf_7_6 h)) (w := ?_)
    refine qr_gi rfl kd_144 (w := ?_)
    refine qr_icge rfl (fun hcf => ?_) (fun hcf => ?_)
    · refine qr_const rfl (w := ?_)
      refine qW_zreturn rfl (by first | exact Or.inl rfl | exact Or.inr rfl | (simp only [qbi]; split <;> simp)) ?_
      try rw [e3] at hcf
      refine ⟨congrArg qI ?_, rfl⟩
      simp only [qbi]
      first | (rw [if_pos (decide_eq_true (by omega))]; done) | (rw [if_neg (fun h9 => by have := of_decide_eq_true h9; omega)]; done)
    · refine qr_const rfl (w := ?_)
      refine qr_goto rfl (w := ?_)
      refine qW_zreturn rfl (by first | exact Or.inl rfl | exact Or.inr rfl | (simp only [qbi]; split <;> simp)) ?_
      try rw [e3] at hcf
      refine ⟨congrArg qI ?_, rfl⟩
      simp only [qbi]
      first | (rw [if_pos (decide_eq_true (by omega))]; done) | (rw [if_neg (fun h9 => by have := of_decide_eq_true h9; omega)]; done)
theorem sLR_isBound {p : Int} : qP m_LR_isBound [qK 0, qI p] (qT0, m, r) (qI (qbi (decide (1 ≤ p ∧ p ≤ 10)))) := by
  refine qr_il rfl rfl (w := ?_)
  refine qr_const rfl (w := ?_)
  refine qr_iclt rfl (fun hc => ?_) (fun hc => ?_)
  · refine qr_const rfl (w := ?_)
    refine qW_zreturn rfl (by first | exact Or.inl rfl | exact Or.inr rfl | (simp only [qbi]; split <;> simp)) ?_
    refine ⟨congrArg qI ?_, rfl⟩
    simp only [qbi]
    first | (rw [if_pos (decide_eq_true (by omega))]; done) | (rw [if_neg (fun h9 => by have := of_decide_eq_true h9; omega)]; done)
  · refine qr_il rfl rfl (w := ?_)
    refine qr_const rfl (w := ?_)
    refine qr_icgt rfl (fun hcf => ?_) (fun hcf => ?_)
    · refine qr_const rfl (w := ?_)
      refine qW_zreturn rfl (by first | exact Or.inl rfl | exact Or.inr rfl | (simp only [qbi]; split <;> simp)) ?_
      refine ⟨congrArg qI ?_, rfl⟩
      simp only [qbi]
      first | (rw [if_pos (decide_eq_true (by omega))]; done) | (rw [if_neg (fun h9 => by have := of_decide_eq_true h9; omega)]; done)
    · refine qr_const rfl (w := ?_)
      refine qr_goto rfl (w := ?_)
      refine qW_zreturn rfl (by first | exact Or.inl rfl | exact Or.inr rfl | (simp only [qbi]; split <;> simp)) ?_
      refine ⟨congrArg qI ?_, rfl⟩
      simp only [qbi]
      first | (rw [if_pos (decide_eq_true (by omega))]; done) | (rw [if_neg (fun h9 => by have := of_decide_eq_true h9; omega)]; done)
theorem sLR_isCommon (h : qE r) {rs vs : List Int} {pk bd : Int} {ss : List (List Int)} (hn : qSc m 144 rs vs pk ss.length bd) (hS : qSh m ss) {s : Int} : qP m_LR_isCommon [qK 0, qI s] (qT0, m, r) (qI (qbi (decide (bd ≤ qCt rs s)))) := by
  have e2 := hn.2.2.1
  have e3 := hn.2.2.2.1
  have e4 := hn.2.2.2.2.1
  have h30 := hn.2.2.2.2.2.1
  have h40 := hS.1
  refine qr_al rfl rfl (w := ?_)
  refine qr_gr rfl kd_0 (hr := (rf_7_6 h)) (w := ?_)
  refine qr_il rfl rfl (w := ?_)
  refine qr_callP rfl (sState_recordsWith (kState h) hn) (qrcv1 kd_144) (w := ?_)
  refine qr_al rfl rfl (w := ?_)
  refine qr_gr rfl kd_0 (hr := (rf_7_6 h)) (w := ?_)
  refine qr_gi rfl kd_144 (w := ?_)
  refine qr_iclt rfl (fun hc => ?_) (fun hc => ?_)
  · refine qr_const rfl (w := ?_)
    refine qW_zreturn rfl (by first | exact Or.inl rfl | exact Or.inr rfl | (simp only [qbi]; split <;> simp)) ?_
    rw [e4] at hc
    refine ⟨congrArg qI ?_, rfl⟩
    simp only [qbi]
    first | (rw [if_pos (decide_eq_true (by omega))]; done) | (rw [if_neg (fun h9 => by have := of_decide_eq_true h9; omega)]; done)
  · refine qr_const rfl (w := ?_)
    refine qr_goto rfl (w := ?_)
    refine qW_zreturn rfl (by first | exact Or.inl rfl | exact Or.inr rfl | (simp only [qbi]; split <;> simp)) ?_
    rw [e4] at hc
    refine ⟨congrArg qI ?_, rfl⟩
    simp only [qbi]
    first | (rw [if_pos (decide_eq_true (by omega))]; done) | (rw [if_neg (fun h9 => by have := of_decide_eq_true h9; omega)]; done)
theorem sLR_formOf (h : qE r) {rs vs : List Int} {pk bd : Int} {ss : List (List Int)} (hn : qSc m 144 rs vs pk ss.length bd) (hS : qSh m ss) {i : Int} : qP m_LR_formOf [qK 0, qI i] (qT0, m, r) (qK (qFa (qAt rs i))) := by
  have e2 := hn.2.2.1
  have e3 := hn.2.2.2.1
  have e4 := hn.2.2.2.2.1
  have h30 := hn.2.2.2.2.2.1
  have h40 := hS.1
  refine qr_al rfl rfl (w := ?_)
  refine qr_gr rfl kd_0 (hr := (rf_7_4 h)) (w := ?_)
  refine qr_al rfl rfl (w := ?_)
  refine qr_gr rfl kd_0 (hr := (rf_7_6 h)) (w := ?_)
  refine qr_il rfl rfl (w := ?_)
  refine qr_callP rfl (sState_shapeOf (kState h) hn) (qrcv1 kd_144) (w := ?_)
  refine qr_callP rfl (sShapes_formAt h _) (qrcv1 kd_16) (w := ?_)
  refine qW_areturn rfl ?_
  exact ⟨rfl, rfl⟩
theorem sLR_commonShapes_loop (h : qE r) {rs vs : List Int} {pk bd : Int} {ss : List (List Int)} (hn : qSc m 144 rs vs pk ss.length bd) (hS : qSh m ss) : ∀ (k i : Nat) (a : Int), i + k = ss.length → 0 ≤ a → a ≤ i → qP2 m_LR_commonShapes 4 [qK 0, qI a, qI i] (qT0, m, r) (qI (a + qSm k i (fun i => if bd ≤ qCt rs i then 1 else 0))) := by
  have e2 := hn.2.2.1
  have e3 := hn.2.2.2.1
  have e4 := hn.2.2.2.2.1
  have h30 := hn.2.2.2.2.2.1
  have h40 := hS.1
  intro k
  induction k with
  | zero =>
    intro i a hik ha hb
    unfold qP2
    refine qr_il rfl rfl (w := ?_)
    refine qr_al rfl rfl (w := ?_)
    refine qr_gr rfl kd_0 (hr := (rf_7_6 h)) (w := ?_)
    refine qr_gi rfl kd_144 (w := ?_)
    refine qr_icge rfl (fun hc => ?_) (fun hc => ?_)
    · refine qr_il rfl rfl (w := ?_)
      refine qW_ireturn rfl ?_
      exact ⟨by simp [qSm], rfl⟩
    · first | exact absurd hc (by omega) | (rw [e3] at hc; exact absurd hc (by omega))
  | succ k ih =>
    intro i a hik ha hb
    unfold qP2
    simp only [qSm]

    refine qr_il rfl rfl (w := ?_)
    refine qr_al rfl rfl (w := ?_)
    refine qr_gr rfl kd_0 (hr := (rf_7_6 h)) (w := ?_)
    refine qr_gi rfl kd_144 (w := ?_)
    refine qr_icge rfl (fun hc => ?_) (fun hc => ?_)
    · first | exact absurd hc (by omega) | (rw [e3] at hc; exact absurd hc (by omega))
    · refine qr_al rfl rfl (w := ?_)
      refine qr_il rfl rfl (w := ?_)
      refine qr_callP rfl (sLR_isCommon h hn hS) (qrcv1 kd_0) (w := ?_)
      refine qr_ifeqB rfl (fun hcf => ?_) (fun hcf => ?_)
      · refine qr_inc2 rfl (by omega) (w := ?_)
        refine qr_goto rfl (w := ?_)
        have h1 := ih (i + 1) (a) (by omega) (by omega) (by omega)
        have h2 : a + ((if bd ≤ qCt rs i then 1 else 0) + qSm k (i + 1) (fun i => if bd ≤ qCt rs i then 1 else 0)) = (a) + qSm k (i + 1) (fun i => if bd ≤ qCt rs i then 1 else 0) := by
          simp only [decide_eq_true_eq, decide_eq_false_iff_not] at *
          first | (rw [if_pos hcf]; omega) | (rw [if_neg hcf]; omega)
        rw [h2]
        exact h1
      · refine qr_inc1 rfl (by omega) (w := ?_)
        refine qr_inc2 rfl (by omega) (w := ?_)
        refine qr_goto rfl (w := ?_)
        have h1 := ih (i + 1) (a + 1) (by omega) (by omega) (by omega)
        have h2 : a + ((if bd ≤ qCt rs i then 1 else 0) + qSm k (i + 1) (fun i => if bd ≤ qCt rs i then 1 else 0)) = (a + 1) + qSm k (i + 1) (fun i => if bd ≤ qCt rs i then 1 else 0) := by
          simp only [decide_eq_true_eq, decide_eq_false_iff_not] at *
          first | (rw [if_pos hcf]; omega) | (rw [if_neg hcf]; omega)
        rw [h2]
        exact h1
def qCom (rs : List Int) (n : Nat) (bd : Int) : Int := qSm n 0 (fun i => if bd ≤ qCt rs i then 1 else 0)
theorem sLR_commonShapes (h : qE r) {rs vs : List Int} {pk bd : Int} {ss : List (List Int)} (hn : qSc m 144 rs vs pk ss.length bd) (hS : qSh m ss) : qP m_LR_commonShapes [qK 0, none, none] (qT0, m, r) (qI (qCom rs ss.length bd)) := by
  refine qr_const rfl (w := ?_)
  refine qr_is1 rfl (w := ?_)
  refine qr_const rfl (w := ?_)
  refine qr_is2 rfl (w := ?_)
  have h1 := sLR_commonShapes_loop h hn hS ss.length 0 0 (by omega) (by omega) (by omega)
  rw [Int.zero_add] at h1
  exact h1
theorem sLR_rareRecords_loop (h : qE r) {rs vs : List Int} {pk bd : Int} {ss : List (List Int)} (hn : qSc m 144 rs vs pk ss.length bd) (hS : qSh m ss) : ∀ (k i : Nat) (a : Int), i + k = ss.length → 0 ≤ a → a ≤ 100 * i → qP2 m_LR_rareRecords 4 [qK 0, qI a, qI i] (qT0, m, r) (qI (a + qSm k i (fun i => if bd ≤ qCt rs i then 0 else qCt rs i))) := by
  have e2 := hn.2.2.1
  have e3 := hn.2.2.2.1
  have e4 := hn.2.2.2.2.1
  have h30 := hn.2.2.2.2.2.1
  have h40 := hS.1
  intro k
  induction k with
  | zero =>
    intro i a hik ha hb
    unfold qP2
    refine qr_il rfl rfl (w := ?_)
    refine qr_al rfl rfl (w := ?_)
    refine qr_gr rfl kd_0 (hr := (rf_7_6 h)) (w := ?_)
    refine qr_gi rfl kd_144 (w := ?_)
    refine qr_icge rfl (fun hc => ?_) (fun hc => ?_)
    · refine qr_il rfl rfl (w := ?_)
      refine qW_ireturn rfl ?_
      exact ⟨by simp [qSm], rfl⟩
    · first | exact absurd hc (by omega) | (rw [e3] at hc; exact absurd hc (by omega))
  | succ k ih =>
    intro i a hik ha hb
    unfold qP2
    simp only [qSm]
    have hct := qCt_le rs i
    refine qr_il rfl rfl (w := ?_)
    refine qr_al rfl rfl (w := ?_)
    refine qr_gr rfl kd_0 (hr := (rf_7_6 h)) (w := ?_)
    refine qr_gi rfl kd_144 (w := ?_)
    refine qr_icge rfl (fun hc => ?_) (fun hc => ?_)
    · first | exact absurd hc (by omega) | (rw [e3] at hc; exact absurd hc (by omega))
    · refine qr_al rfl rfl (w := ?_)
      refine qr_il rfl rfl (w := ?_)
      refine qr_callP rfl (sLR_isCommon h hn hS) (qrcv1 kd_0) (w := ?_)
      refine qr_ifneB rfl (fun hcf => ?_) (fun hcf => ?_)
      · refine qr_inc2 rfl (by omega) (w := ?_)
        refine qr_goto rfl (w := ?_)
        have h1 := ih (i + 1) (a) (by omega) (by omega) (by omega)
        have h2 : a + ((if bd ≤ qCt rs i then 0 else qCt rs i) + qSm k (i + 1) (fun i => if bd ≤ qCt rs i then 0 else qCt rs i)) = (a) + qSm k (i + 1) (fun i => if bd ≤ qCt rs i then 0 else qCt rs i) := by
          simp only [decide_eq_true_eq, decide_eq_false_iff_not] at *
          first | (rw [if_pos hcf]; omega) | (rw [if_neg hcf]; omega)
        rw [h2]
        exact h1
      · refine qr_il rfl rfl (w := ?_)
        refine qr_al rfl rfl (w := ?_)
        refine qr_gr rfl kd_0 (hr := (rf_7_6 h)) (w := ?_)
        refine qr_il rfl rfl (w := ?_)
        refine qr_callP rfl (sState_recordsWith (kState h) hn) (qrcv1 kd_144) (w := ?_)
        refine qr_add rfl (by omega) (w := ?_)
        refine qr_is1 rfl (w := ?_)
        refine qr_inc2 rfl (by omega) (w := ?_)
        refine qr_goto rfl (w := ?_)
        have h1 := ih (i + 1) (a + qCt rs i) (by omega) (by omega) (by omega)
        have h2 : a + ((if bd ≤ qCt rs i then 0 else qCt rs i) + qSm k (i + 1) (fun i => if bd ≤ qCt rs i then 0 else qCt rs i)) = (a + qCt rs i) + qSm k (i + 1) (fun i => if bd ≤ qCt rs i then 0 else qCt rs i) := by
          simp only [decide_eq_true_eq, decide_eq_false_iff_not] at *
          first | (rw [if_pos hcf]; omega) | (rw [if_neg hcf]; omega)
        rw [h2]
        exact h1
def qRar (rs : List Int) (n : Nat) (bd : Int) : Int := qSm n 0 (fun i => if bd ≤ qCt rs i then 0 else qCt rs i)
theorem sLR_rareRecords (h : qE r) {rs vs : List Int} {pk bd : Int} {ss : List (List Int)} (hn : qSc m 144 rs vs pk ss.length bd) (hS : qSh m ss) : qP m_LR_rareRecords [qK 0, none, none] (qT0, m, r) (qI (qRar rs ss.length bd)) := by
  refine qr_const rfl (w := ?_)
  refine qr_is1 rfl (w := ?_)
  refine qr_const rfl (w := ?_)
  refine qr_is2 rfl (w := ?_)
  have h1 := sLR_rareRecords_loop h hn hS ss.length 0 0 (by omega) (by omega) (by omega)
  rw [Int.zero_add] at h1
  exact h1
theorem sLR_sizeFor_loop (h : qE r) {rs vs : List Int} {pk bd : Int} {ss : List (List Int)} (hn : qSc m 144 rs vs pk ss.length bd) (hS : qSh m ss) {b : Int} : ∀ (k i : Nat) (a : Int) (y : qA) (z : qA), i + k = ss.length → 0 ≤ a → a ≤ 30 + 5000 * i → qP2 m_LR_sizeFor 10 [qK 0, qI b, qI a, qI i, y, z] (qT0, m, r) (qI (a + qSm k i (fun i => if b ≤ qCt rs i then 1 + (qGf ss i).length + qCt rs i * qLv (qGf ss i) else qCt rs i * (2 * qLv (qGf ss i) + ((qGf ss i).length - qLv (qGf ss i)))))) := by
  have e2 := hn.2.2.1
  have e3 := hn.2.2.2.1
  have e4 := hn.2.2.2.2.1
  have h30 := hn.2.2.2.2.2.1
  have h40 := hS.1
  intro k
  induction k with
  | zero =>
    intro i a y z hik ha hb
    unfold qP2
    refine qr_il rfl rfl (w := ?_)
    refine qr_al rfl rfl (w := ?_)
    refine qr_gr rfl kd_0 (hr := (rf_7_6 h)) (w := ?_)
    refine qr_gi rfl kd_144 (w := ?_)
    refine qr_icge rfl (fun hc => ?_) (fun hc => ?_)
    · refine qr_il rfl rfl (w := ?_)
      refine qW_ireturn rfl ?_
      exact ⟨by simp [qSm], rfl⟩
    · first | exact absurd hc (by omega) | (rw [e3] at hc; exact absurd hc (by omega))
  | succ k ih =>
    intro i a y z hik ha hb
    unfold qP2
    simp only [qSm]
    have hct := qCt_le rs i
    have hlv := qLv_le (qGf ss i)
    have hln := qGf_len hS i
    have hm1 := qmulb (X := 30) (Y := 26) hct.1 (by omega) hlv.1 (by omega)
    have hm2 := qmulb (b := 2 * qLv (qGf ss i) + (((qGf ss i).length : Int) - qLv (qGf ss i))) (X := 30) (Y := 100) hct.1 (by omega) (by omega) (by omega)
    refine qr_il rfl rfl (w := ?_)
    refine qr_al rfl rfl (w := ?_)
    refine qr_gr rfl kd_0 (hr := (rf_7_6 h)) (w := ?_)
    refine qr_gi rfl kd_144 (w := ?_)
    refine qr_icge rfl (fun hc => ?_) (fun hc => ?_)
    · first | exact absurd hc (by omega) | (rw [e3] at hc; exact absurd hc (by omega))
    · refine qr_al rfl rfl (w := ?_)
      refine qr_gr rfl kd_0 (hr := (rf_7_4 h)) (w := ?_)
      refine qr_il rfl rfl (w := ?_)
      refine qr_callP rfl (sShapes_formAt h _) (qrcv1 kd_16) (w := ?_)
      refine qr_as4 rfl (w := ?_)
      refine qr_al rfl rfl (w := ?_)
      refine qr_gr rfl kd_0 (hr := (rf_7_6 h)) (w := ?_)
      refine qr_il rfl rfl (w := ?_)
      refine qr_callP rfl (sState_recordsWith (kState h) hn) (qrcv1 kd_144) (w := ?_)
      refine qr_is5 rfl (w := ?_)
      refine qr_il rfl rfl (w := ?_)
      refine qr_il rfl rfl (w := ?_)
      refine qr_iclt rfl (fun hcf => ?_) (fun hcf => ?_)
      · refine qr_il rfl rfl (w := ?_)
        refine qr_il rfl rfl (w := ?_)
        refine qr_const rfl (w := ?_)
        refine qr_al rfl rfl (w := ?_)
        refine qr_callP rfl (sForm_leaves (qFa_k h i) (qFa_c hS (by omega))) (qrcv1 (qFa_k h i).1) (w := ?_)
        refine qr_mul rfl (by omega) (w := ?_)
        refine qr_al rfl rfl (w := ?_)
        refine qr_callP rfl (sForm_branches (qFa_k h i) (qFa_c hS (by omega))) (qrcv1 (qFa_k h i).1) (w := ?_)
        refine qr_add rfl (by omega) (w := ?_)
        refine qr_mul rfl (by omega) (w := ?_)
        refine qr_add rfl (by omega) (w := ?_)
        refine qr_is2 rfl (w := ?_)
        refine qr_inc3 rfl (by omega) (w := ?_)
        refine qr_goto rfl (w := ?_)
        have h1 := fun (y z : qA) => ih (i + 1) (a + qCt rs i * (2 * qLv (qGf ss i) + ((qGf ss i).length - qLv (qGf ss i)))) y z (by omega) (by omega) (by omega)
        have h2 : a + ((if b ≤ qCt rs i then 1 + (qGf ss i).length + qCt rs i * qLv (qGf ss i) else qCt rs i * (2 * qLv (qGf ss i) + ((qGf ss i).length - qLv (qGf ss i)))) + qSm k (i + 1) (fun i => if b ≤ qCt rs i then 1 + (qGf ss i).length + qCt rs i * qLv (qGf ss i) else qCt rs i * (2 * qLv (qGf ss i) + ((qGf ss i).length - qLv (qGf ss i))))) = (a + qCt rs i * (2 * qLv (qGf ss i) + ((qGf ss i).length - qLv (qGf ss i)))) + qSm k (i + 1) (fun i => if b ≤ qCt rs i then 1 + (qGf ss i).length + qCt rs i * qLv (qGf ss i) else qCt rs i * (2 * qLv (qGf ss i) + ((qGf ss i).length - qLv (qGf ss i)))) := by
          first | (rw [if_pos hcf]; omega) | (rw [if_neg (by omega)]; omega)
        rw [h2]
        exact h1 _ _
      · refine qr_il rfl rfl (w := ?_)
        refine qr_const rfl (w := ?_)
        refine qr_al rfl rfl (w := ?_)
        refine qr_callP rfl (sForm_size (qFa_k h i) (qFa_c hS (by omega))) (qrcv1 (qFa_k h i).1) (w := ?_)
        refine qr_add rfl (by omega) (w := ?_)
        refine qr_il rfl rfl (w := ?_)
        refine qr_al rfl rfl (w := ?_)
        refine qr_callP rfl (sForm_leaves (qFa_k h i) (qFa_c hS (by omega))) (qrcv1 (qFa_k h i).1) (w := ?_)
        refine qr_mul rfl (by omega) (w := ?_)
        refine qr_add rfl (by omega) (w := ?_)
        refine qr_add rfl (by omega) (w := ?_)
        refine qr_is2 rfl (w := ?_)
        refine qr_goto rfl (w := ?_)
        refine qr_inc3 rfl (by omega) (w := ?_)
        refine qr_goto rfl (w := ?_)
        have h1 := fun (y z : qA) => ih (i + 1) (a + (1 + (qGf ss i).length + qCt rs i * qLv (qGf ss i))) y z (by omega) (by omega) (by omega)
        have h2 : a + ((if b ≤ qCt rs i then 1 + (qGf ss i).length + qCt rs i * qLv (qGf ss i) else qCt rs i * (2 * qLv (qGf ss i) + ((qGf ss i).length - qLv (qGf ss i)))) + qSm k (i + 1) (fun i => if b ≤ qCt rs i then 1 + (qGf ss i).length + qCt rs i * qLv (qGf ss i) else qCt rs i * (2 * qLv (qGf ss i) + ((qGf ss i).length - qLv (qGf ss i))))) = (a + (1 + (qGf ss i).length + qCt rs i * qLv (qGf ss i))) + qSm k (i + 1) (fun i => if b ≤ qCt rs i then 1 + (qGf ss i).length + qCt rs i * qLv (qGf ss i) else qCt rs i * (2 * qLv (qGf ss i) + ((qGf ss i).length - qLv (qGf ss i)))) := by
          first | (rw [if_pos hcf]; omega) | (rw [if_neg (by omega)]; omega)
        rw [h2]
        exact h1 _ _
def qSz (rs : List Int) (ss : List (List Int)) (b : Int) : Int := qNe rs + qSm ss.length 0 (fun i => if b ≤ qCt rs i then 1 + (qGf ss i).length + qCt rs i * qLv (qGf ss i) else qCt rs i * (2 * qLv (qGf ss i) + ((qGf ss i).length - qLv (qGf ss i))))
theorem sLR_sizeFor (h : qE r) {rs vs : List Int} {pk bd : Int} {ss : List (List Int)} (hn : qSc m 144 rs vs pk ss.length bd) (hS : qSh m ss) {b : Int} : qP m_LR_sizeFor [qK 0, qI b, none, none, none, none] (qT0, m, r) (qI (qSz rs ss b)) := by
  have e2 := hn.2.2.1
  have e3 := hn.2.2.2.1
  have e4 := hn.2.2.2.2.1
  have h30 := hn.2.2.2.2.2.1
  have h40 := hS.1
  have hne := qNe_le rs
  refine qr_al rfl rfl (w := ?_)
  refine qr_gr rfl kd_0 (hr := (rf_7_6 h)) (w := ?_)
  refine qr_callP rfl (sState_recordsLeft (kState h) hn) (qrcv1 kd_144) (w := ?_)
  refine qr_is2 rfl (w := ?_)
  refine qr_const rfl (w := ?_)
  refine qr_is3 rfl (w := ?_)
  exact sLR_sizeFor_loop h hn hS (b := b) ss.length 0 (qNe rs) none none (by omega) (by omega) (by omega)
theorem sLR_costOf_loop (h : qE r) {rs vs : List Int} {pk bd : Int} {ss : List (List Int)} (hn : qSc m 144 rs vs pk ss.length bd) (hS : qSh m ss) {p : Int} : ∀ (k i : Nat) (a : Int) (y : qA), i + k = ss.length → 0 ≤ a → a ≤ 5000 * i → qP2 m_LR_costOf 4 [qK 0, qI p, qI a, qI i, y] (qT0, m, r) (qI (a + qSm k i (fun i => if bd ≤ qCt rs i then (if (qGf ss i).contains p = true then qCt rs i else 0) else qCt rs i * (qGf ss i).length))) := by
  have e2 := hn.2.2.1
  have e3 := hn.2.2.2.1
  have e4 := hn.2.2.2.2.1
  have h30 := hn.2.2.2.2.2.1
  have h40 := hS.1
  intro k
  induction k with
  | zero =>
    intro i a y hik ha hb
    unfold qP2
    refine qr_il rfl rfl (w := ?_)
    refine qr_al rfl rfl (w := ?_)
    refine qr_gr rfl kd_0 (hr := (rf_7_6 h)) (w := ?_)
    refine qr_gi rfl kd_144 (w := ?_)
    refine qr_icge rfl (fun hc => ?_) (fun hc => ?_)
    · refine qr_il rfl rfl (w := ?_)
      refine qW_ireturn rfl ?_
      exact ⟨by simp [qSm], rfl⟩
    · first | exact absurd hc (by omega) | (rw [e3] at hc; exact absurd hc (by omega))
  | succ k ih =>
    intro i a y hik ha hb
    unfold qP2
    simp only [qSm]
    have hct := qCt_le rs i
    have hln := qGf_len hS i
    have hm1 := qmulb (b := ((qGf ss i).length : Int)) (X := 30) (Y := 26) hct.1 (by omega) (by omega) (by omega)
    refine qr_il rfl rfl (w := ?_)
    refine qr_al rfl rfl (w := ?_)
    refine qr_gr rfl kd_0 (hr := (rf_7_6 h)) (w := ?_)
    refine qr_gi rfl kd_144 (w := ?_)
    refine qr_icge rfl (fun hc => ?_) (fun hc => ?_)
    · first | exact absurd hc (by omega) | (rw [e3] at hc; exact absurd hc (by omega))
    · refine qr_al rfl rfl (w := ?_)
      refine qr_gr rfl kd_0 (hr := (rf_7_4 h)) (w := ?_)
      refine qr_il rfl rfl (w := ?_)
      refine qr_callP rfl (sShapes_formAt h _) (qrcv1 kd_16) (w := ?_)
      refine qr_as4 rfl (w := ?_)
      refine qr_al rfl rfl (w := ?_)
      refine qr_il rfl rfl (w := ?_)
      refine qr_callP rfl (sLR_isCommon h hn hS) (qrcv1 kd_0) (w := ?_)
      refine qr_ifneB rfl (fun hcf => ?_) (fun hcf => ?_)
      · refine qr_al rfl rfl (w := ?_)
        refine qr_il rfl rfl (w := ?_)
        refine qr_callP rfl (sForm_holds (qFa_k h i) (qFa_c hS (by omega))) (qrcv1 (qFa_k h i).1) (w := ?_)
        refine qr_ifeqB rfl (fun hcft => ?_) (fun hcft => ?_)
        · refine qr_inc3 rfl (by omega) (w := ?_)
          refine qr_goto rfl (w := ?_)
          have h1 := fun (y : qA) => ih (i + 1) (a) y (by omega) (by omega) (by omega)
          have h2 : a + ((if bd ≤ qCt rs i then (if (qGf ss i).contains p = true then qCt rs i else 0) else qCt rs i * (qGf ss i).length) + qSm k (i + 1) (fun i => if bd ≤ qCt rs i then (if (qGf ss i).contains p = true then qCt rs i else 0) else qCt rs i * (qGf ss i).length)) = (a) + qSm k (i + 1) (fun i => if bd ≤ qCt rs i then (if (qGf ss i).contains p = true then qCt rs i else 0) else qCt rs i * (qGf ss i).length) := by
            simp only [decide_eq_true_eq, decide_eq_false_iff_not, Bool.not_eq_true] at *
            first
              | (rw [if_pos hcf, if_pos hcft]; omega)
              | (rw [if_pos hcf, if_neg (by rw [hcft]; decide)]; omega)
              | (rw [if_neg hcf]; omega)
          rw [h2]
          exact h1 _
        · refine qr_il rfl rfl (w := ?_)
          refine qr_al rfl rfl (w := ?_)
          refine qr_gr rfl kd_0 (hr := (rf_7_6 h)) (w := ?_)
          refine qr_il rfl rfl (w := ?_)
          refine qr_callP rfl (sState_recordsWith (kState h) hn) (qrcv1 kd_144) (w := ?_)
          refine qr_add rfl (by omega) (w := ?_)
          refine qr_is2 rfl (w := ?_)
          refine qr_inc3 rfl (by omega) (w := ?_)
          refine qr_goto rfl (w := ?_)
          have h1 := fun (y : qA) => ih (i + 1) (a + qCt rs i) y (by omega) (by omega) (by omega)
          have h2 : a + ((if bd ≤ qCt rs i then (if (qGf ss i).contains p = true then qCt rs i else 0) else qCt rs i * (qGf ss i).length) + qSm k (i + 1) (fun i => if bd ≤ qCt rs i then (if (qGf ss i).contains p = true then qCt rs i else 0) else qCt rs i * (qGf ss i).length)) = (a + qCt rs i) + qSm k (i + 1) (fun i => if bd ≤ qCt rs i then (if (qGf ss i).contains p = true then qCt rs i else 0) else qCt rs i * (qGf ss i).length) := by
            simp only [decide_eq_true_eq, decide_eq_false_iff_not, Bool.not_eq_true] at *
            first
              | (rw [if_pos hcf, if_pos hcft]; omega)
              | (rw [if_pos hcf, if_neg (by rw [hcft]; decide)]; omega)
              | (rw [if_neg hcf]; omega)
          rw [h2]
          exact h1 _
      · refine qr_il rfl rfl (w := ?_)
        refine qr_al rfl rfl (w := ?_)
        refine qr_gr rfl kd_0 (hr := (rf_7_6 h)) (w := ?_)
        refine qr_il rfl rfl (w := ?_)
        refine qr_callP rfl (sState_recordsWith (kState h) hn) (qrcv1 kd_144) (w := ?_)
        refine qr_al rfl rfl (w := ?_)
        refine qr_callP rfl (sForm_size (qFa_k h i) (qFa_c hS (by omega))) (qrcv1 (qFa_k h i).1) (w := ?_)
        refine qr_mul rfl (by omega) (w := ?_)
        refine qr_add rfl (by omega) (w := ?_)
        refine qr_is2 rfl (w := ?_)
        refine qr_goto rfl (w := ?_)
        refine qr_inc3 rfl (by omega) (w := ?_)
        refine qr_goto rfl (w := ?_)
        have h1 := fun (y : qA) => ih (i + 1) (a + qCt rs i * (qGf ss i).length) y (by omega) (by omega) (by omega)
        have h2 : a + ((if bd ≤ qCt rs i then (if (qGf ss i).contains p = true then qCt rs i else 0) else qCt rs i * (qGf ss i).length) + qSm k (i + 1) (fun i => if bd ≤ qCt rs i then (if (qGf ss i).contains p = true then qCt rs i else 0) else qCt rs i * (qGf ss i).length)) = (a + qCt rs i * (qGf ss i).length) + qSm k (i + 1) (fun i => if bd ≤ qCt rs i then (if (qGf ss i).contains p = true then qCt rs i else 0) else qCt rs i * (qGf ss i).length) := by
          simp only [decide_eq_true_eq, decide_eq_false_iff_not, Bool.not_eq_true] at *
          first
            | (rw [if_pos hcf, if_pos hcft]; omega)
            | (rw [if_pos hcf, if_neg (by rw [hcft]; decide)]; omega)
            | (rw [if_neg hcf]; omega)
        rw [h2]
        exact h1 _
def qCst (rs : List Int) (ss : List (List Int)) (bd p : Int) : Int := qSm ss.length 0 (fun i => if bd ≤ qCt rs i then (if (qGf ss i).contains p = true then qCt rs i else 0) else qCt rs i * (qGf ss i).length)
theorem sLR_costOf (h : qE r) {rs vs : List Int} {pk bd : Int} {ss : List (List Int)} (hn : qSc m 144 rs vs pk ss.length bd) (hS : qSh m ss) {p : Int} : qP m_LR_costOf [qK 0, qI p, none, none, none] (qT0, m, r) (qI (qCst rs ss bd p)) := by
  refine qr_const rfl (w := ?_)
  refine qr_is2 rfl (w := ?_)
  refine qr_const rfl (w := ?_)
  refine qr_is3 rfl (w := ?_)
  have h1 := sLR_costOf_loop h hn hS (p := p) ss.length 0 0 none (by omega) (by omega) (by omega)
  rw [Int.zero_add] at h1
  exact h1
theorem sLR_recordsHolding_loop (h : qE r) {rs vs : List Int} {pk bd : Int} {ss : List (List Int)} (hn : qSc m 144 rs vs pk ss.length bd) (hS : qSh m ss) {p : Int} : ∀ (k i : Nat) (a : Int), i + k = ss.length → 0 ≤ a → a ≤ 100 * i → qP2 m_LR_recordsHolding 4 [qK 0, qI p, qI a, qI i] (qT0, m, r) (qI (a + qSm k i (fun i => if (qGf ss i).contains p = true then qCt rs i else 0))) := by
  have e2 := hn.2.2.1
  have e3 := hn.2.2.2.1
  have e4 := hn.2.2.2.2.1
  have h30 := hn.2.2.2.2.2.1
  have h40 := hS.1
  intro k
  induction k with
  | zero =>
    intro i a hik ha hb
    unfold qP2
    refine qr_il rfl rfl (w := ?_)
    refine qr_al rfl rfl (w := ?_)
    refine qr_gr rfl kd_0 (hr := (rf_7_6 h)) (w := ?_)
    refine qr_gi rfl kd_144 (w := ?_)
    refine qr_icge rfl (fun hc => ?_) (fun hc => ?_)
    · refine qr_il rfl rfl (w := ?_)
      refine qW_ireturn rfl ?_
      exact ⟨by simp [qSm], rfl⟩
    · first | exact absurd hc (by omega) | (rw [e3] at hc; exact absurd hc (by omega))
  | succ k ih =>
    intro i a hik ha hb
    unfold qP2
    simp only [qSm]
    have hct := qCt_le rs i
    refine qr_il rfl rfl (w := ?_)
    refine qr_al rfl rfl (w := ?_)
    refine qr_gr rfl kd_0 (hr := (rf_7_6 h)) (w := ?_)
    refine qr_gi rfl kd_144 (w := ?_)
    refine qr_icge rfl (fun hc => ?_) (fun hc => ?_)
    · first | exact absurd hc (by omega) | (rw [e3] at hc; exact absurd hc (by omega))
    · refine qr_al rfl rfl (w := ?_)
      refine qr_gr rfl kd_0 (hr := (rf_7_4 h)) (w := ?_)
      refine qr_il rfl rfl (w := ?_)
      refine qr_callP rfl (sShapes_formAt h _) (qrcv1 kd_16) (w := ?_)
      refine qr_il rfl rfl (w := ?_)
      refine qr_callP rfl (sForm_holds (qFa_k h i) (qFa_c hS (by omega))) (qrcv1 (qFa_k h i).1) (w := ?_)
      refine qr_ifeqB rfl (fun hcf => ?_) (fun hcf => ?_)
      · refine qr_inc3 rfl (by omega) (w := ?_)
        refine qr_goto rfl (w := ?_)
        have h1 := ih (i + 1) (a) (by omega) (by omega) (by omega)
        have h2 : a + ((if (qGf ss i).contains p = true then qCt rs i else 0) + qSm k (i + 1) (fun i => if (qGf ss i).contains p = true then qCt rs i else 0)) = (a) + qSm k (i + 1) (fun i => if (qGf ss i).contains p = true then qCt rs i else 0) := by
          first
            | (rw [if_pos hcf]; omega)
            | (rw [if_neg (by rw [hcf]; decide)]; omega)
        rw [h2]
        exact h1
      · refine qr_il rfl rfl (w := ?_)
        refine qr_al rfl rfl (w := ?_)
        refine qr_gr rfl kd_0 (hr := (rf_7_6 h)) (w := ?_)
        refine qr_il rfl rfl (w := ?_)
        refine qr_callP rfl (sState_recordsWith (kState h) hn) (qrcv1 kd_144) (w := ?_)
        refine qr_add rfl (by omega) (w := ?_)
        refine qr_is2 rfl (w := ?_)
        refine qr_inc3 rfl (by omega) (w := ?_)
        refine qr_goto rfl (w := ?_)
        have h1 := ih (i + 1) (a + qCt rs i) (by omega) (by omega) (by omega)
        have h2 : a + ((if (qGf ss i).contains p = true then qCt rs i else 0) + qSm k (i + 1) (fun i => if (qGf ss i).contains p = true then qCt rs i else 0)) = (a + qCt rs i) + qSm k (i + 1) (fun i => if (qGf ss i).contains p = true then qCt rs i else 0) := by
          first
            | (rw [if_pos hcf]; omega)
            | (rw [if_neg (by rw [hcf]; decide)]; omega)
        rw [h2]
        exact h1
def qHol (rs : List Int) (ss : List (List Int)) (p : Int) : Int := qSm ss.length 0 (fun i => if (qGf ss i).contains p = true then qCt rs i else 0)
theorem sLR_recordsHolding (h : qE r) {rs vs : List Int} {pk bd : Int} {ss : List (List Int)} (hn : qSc m 144 rs vs pk ss.length bd) (hS : qSh m ss) {p : Int} : qP m_LR_recordsHolding [qK 0, qI p, none, none] (qT0, m, r) (qI (qHol rs ss p)) := by
  refine qr_const rfl (w := ?_)
  refine qr_is2 rfl (w := ?_)
  refine qr_const rfl (w := ?_)
  refine qr_is3 rfl (w := ?_)
  have h1 := sLR_recordsHolding_loop h hn hS (p := p) ss.length 0 0 (by omega) (by omega) (by omega)
  rw [Int.zero_add] at h1
  exact h1
/-- a record's leaf stands where its values are, and they are small -/
def qVal (rs vs : List Int) (ss : List (List Int)) : Prop := ∀ i : Nat, i < rs.length → (qAt rs i = -9 ∨ (0 ≤ qAt rs i ∧ qAt rs i < ss.length)) ∧ ∀ j : Nat, (j : Int) < qLv (qGf ss (qAt rs i)) → j < 10 ∧ 0 ≤ qAt vs (i * 10 + j) ∧ qAt vs (i * 10 + j) ≤ 999
theorem qLp_rng (fs : List Int) (p : Int) : ∀ a, qLp fs p a = -9 ∨ (a ≤ qLp fs p a ∧ qLp fs p a ≤ a + qLv fs) := by
  induction fs with
  | nil => intro a; left; rfl
  | cons f t ih =>
    intro a
    have h0 := qLv_le t
    simp only [qLp, qLv]
    split
    · right
      split <;> omega
    · rcases ih (a + if f < 100 then 1 else 0) with h | h
      · left; exact h
      · right
        split at h <;> rename_i h9 <;> simp only [h9, if_true, if_false] <;> omega
theorem qLp_lt (fs : List Int) {p : Int} (hp : p < 100) : ∀ a, qLp fs p a = -9 ∨ (a ≤ qLp fs p a ∧ qLp fs p a < a + qLv fs) := by
  induction fs with
  | nil => intro a; left; rfl
  | cons f t ih =>
    intro a
    have h0 := qLv_le t
    simp only [qLp, qLv]
    split
    · rename_i hf
      right
      rw [if_pos (by omega)]
      omega
    · rcases ih (a + if f < 100 then 1 else 0) with h | h
      · left; exact h
      · right
        split at h <;> rename_i h9 <;> simp only [h9, if_true, if_false] <;> omega
theorem sLR_sumOfPath_loop (h : qE r) {rs vs : List Int} {pk bd : Int} {ss : List (List Int)} (hn : qSc m 144 rs vs pk ss.length bd) (hS : qSh m ss) (hV : qVal rs vs ss) {p : Int} (hp0 : 0 ≤ p ∧ p < 100) : ∀ (k i : Nat) (a : Int) (y : qA), i + k = rs.length → 0 ≤ a → a ≤ 999 * i → qP2 m_LR_sumOfPath 4 [qK 0, qI p, qI a, qI i, y] (qT0, m, r) (qI (a + qSm k i (fun i => if qLp (qGf ss (qAt rs i)) p 0 = -9 then 0 else qAt vs (i * 10 + qLp (qGf ss (qAt rs i)) p 0)))) := by
  have e2 := hn.2.2.1
  have e3 := hn.2.2.2.1
  have e4 := hn.2.2.2.2.1
  have h30 := hn.2.2.2.2.2.1
  have h40 := hS.1
  intro k
  induction k with
  | zero =>
    intro i a y hik ha hb
    unfold qP2
    refine qr_il rfl rfl (w := ?_)
    refine qr_al rfl rfl (w := ?_)
    refine qr_gr rfl kd_0 (hr := (rf_7_6 h)) (w := ?_)
    refine qr_callP rfl (sState_recordsRead (kState h) hn) (qrcv1 kd_144) (w := ?_)
    refine qr_icge rfl (fun hc => ?_) (fun hc => ?_)
    · refine qr_il rfl rfl (w := ?_)
      refine qW_ireturn rfl ?_
      exact ⟨by simp [qSm], rfl⟩
    · exact absurd hc (by omega)
  | succ k ih =>
    intro i a y hik ha hb
    unfold qP2
    simp only [qSm]
    obtain ⟨g1, g2⟩ := hV i (by omega)
    have g3 := qLp_lt (qGf ss (qAt rs i)) hp0.2 0
    have g4 : qLp (qGf ss (qAt rs i)) p 0 ≠ -9 → (qLp (qGf ss (qAt rs i)) p 0) < 10 ∧ 0 ≤ qAt vs (i * 10 + qLp (qGf ss (qAt rs i)) p 0) ∧ qAt vs (i * 10 + qLp (qGf ss (qAt rs i)) p 0) ≤ 999 := fun hne => by
      have h5 := g2 (qLp (qGf ss (qAt rs i)) p 0).toNat (by omega)
      rw [Int.toNat_of_nonneg (by omega)] at h5
      omega
    refine qr_il rfl rfl (w := ?_)
    refine qr_al rfl rfl (w := ?_)
    refine qr_gr rfl kd_0 (hr := (rf_7_6 h)) (w := ?_)
    refine qr_callP rfl (sState_recordsRead (kState h) hn) (qrcv1 kd_144) (w := ?_)
    refine qr_icge rfl (fun hc => ?_) (fun hc => ?_)
    · exact absurd hc (by omega)
    · refine qr_al rfl rfl (w := ?_)
      refine qr_il rfl rfl (w := ?_)
      refine qr_callP rfl (sLR_formOf h hn hS) (qrcv1 kd_0) (w := ?_)
      refine qr_il rfl rfl (w := ?_)
      refine qr_callP rfl (sForm_leafPlace (qFa_k h (qAt rs i)) (qFa_c (s := qAt rs i) hS (by omega))) (qrcv1 (qFa_k h (qAt rs i)).1) (w := ?_)
      refine qr_is4 rfl (w := ?_)
      refine qr_il rfl rfl (w := ?_)
      refine qr_const rfl (w := ?_)
      refine qr_iceq rfl (fun hcf => ?_) (fun hcf => ?_)
      · refine qr_inc3 rfl (by omega) (w := ?_)
        refine qr_goto rfl (w := ?_)
        have h1 := fun (y : qA) => ih (i + 1) (a) y (by omega) (by omega) (by omega)
        have h2 : a + ((if qLp (qGf ss (qAt rs i)) p 0 = -9 then 0 else qAt vs (i * 10 + qLp (qGf ss (qAt rs i)) p 0)) + qSm k (i + 1) (fun i => if qLp (qGf ss (qAt rs i)) p 0 = -9 then 0 else qAt vs (i * 10 + qLp (qGf ss (qAt rs i)) p 0))) = (a) + qSm k (i + 1) (fun i => if qLp (qGf ss (qAt rs i)) p 0 = -9 then 0 else qAt vs (i * 10 + qLp (qGf ss (qAt rs i)) p 0)) := by
          first | (rw [if_pos hcf]; omega) | (rw [if_neg hcf]; omega)
        rw [h2]
        exact h1 _
      · refine qr_il rfl rfl (w := ?_)
        refine qr_al rfl rfl (w := ?_)
        refine qr_gr rfl kd_0 (hr := (rf_7_6 h)) (w := ?_)
        refine qr_il rfl rfl (w := ?_)
        refine qr_il rfl rfl (w := ?_)
        refine qr_callP rfl (sState_valueAt (i := i) (j := qLp (qGf ss (qAt rs i)) p 0) (kState h) hn (by omega) (by omega)) (qrcv1 kd_144) (w := ?_)
        refine qr_add rfl (by omega) (w := ?_)
        refine qr_is2 rfl (w := ?_)
        refine qr_inc3 rfl (by omega) (w := ?_)
        refine qr_goto rfl (w := ?_)
        have h1 := fun (y : qA) => ih (i + 1) (a + qAt vs (i * 10 + qLp (qGf ss (qAt rs i)) p 0)) y (by omega) (by omega) (by omega)
        have h2 : a + ((if qLp (qGf ss (qAt rs i)) p 0 = -9 then 0 else qAt vs (i * 10 + qLp (qGf ss (qAt rs i)) p 0)) + qSm k (i + 1) (fun i => if qLp (qGf ss (qAt rs i)) p 0 = -9 then 0 else qAt vs (i * 10 + qLp (qGf ss (qAt rs i)) p 0))) = (a + qAt vs (i * 10 + qLp (qGf ss (qAt rs i)) p 0)) + qSm k (i + 1) (fun i => if qLp (qGf ss (qAt rs i)) p 0 = -9 then 0 else qAt vs (i * 10 + qLp (qGf ss (qAt rs i)) p 0)) := by
          first | (rw [if_pos hcf]; omega) | (rw [if_neg hcf]; omega)
        rw [h2]
        exact h1 _
def qSop (rs vs : List Int) (ss : List (List Int)) (p : Int) : Int := qSm rs.length 0 (fun i => if qLp (qGf ss (qAt rs i)) p 0 = -9 then 0 else qAt vs (i * 10 + qLp (qGf ss (qAt rs i)) p 0))
theorem sLR_sumOfPath (h : qE r) {rs vs : List Int} {pk bd : Int} {ss : List (List Int)} (hn : qSc m 144 rs vs pk ss.length bd) (hS : qSh m ss) (hV : qVal rs vs ss) {p : Int} (hp0 : 0 ≤ p ∧ p < 100) : qP m_LR_sumOfPath [qK 0, qI p, none, none, none] (qT0, m, r) (qI (qSop rs vs ss p)) := by
  refine qr_const rfl (w := ?_)
  refine qr_is2 rfl (w := ?_)
  refine qr_const rfl (w := ?_)
  refine qr_is3 rfl (w := ?_)
  have h1 := sLR_sumOfPath_loop h hn hS hV hp0 rs.length 0 0 none (by omega) (by omega) (by omega)
  rw [Int.zero_add] at h1
  exact h1
theorem sLR_sumOfRecord_loop (h : qE r) {rs vs : List Int} {pk bd : Int} {ss : List (List Int)} (hn : qSc m 144 rs vs pk ss.length bd) (hS : qSh m ss) {i : Nat} {n : Nat} (hn10 : n ≤ 10) (hi : i < 30) (hV : ∀ j : Nat, j < n → 0 ≤ qAt vs (i * 10 + j) ∧ qAt vs (i * 10 + j) ≤ 999) : ∀ (k j : Nat) (a : Int), j + k = n → 0 ≤ a → a ≤ 999 * j → qP2 m_LR_sumOfRecord 5 [qK 0, qI i, qI n, qI a, qI j] (qT0, m, r) (qI (a + qSm k j (fun j => qAt vs (i * 10 + j)))) := by
  intro k
  induction k with
  | zero =>
    intro j a hik ha hb
    unfold qP2
    refine qr_il rfl rfl (w := ?_)
    refine qr_il rfl rfl (w := ?_)
    refine qr_icge rfl (fun hc => ?_) (fun hc => ?_)
    · refine qr_il rfl rfl (w := ?_)
      refine qW_ireturn rfl ?_
      exact ⟨by simp [qSm], rfl⟩
    · exact absurd hc (by omega)
  | succ k ih =>
    intro j a hik ha hb
    unfold qP2
    simp only [qSm]
    have g2 := hV j (by omega)
    refine qr_il rfl rfl (w := ?_)
    refine qr_il rfl rfl (w := ?_)
    refine qr_icge rfl (fun hc => ?_) (fun hc => ?_)
    · exact absurd hc (by omega)
    · refine qr_il rfl rfl (w := ?_)
      refine qr_al rfl rfl (w := ?_)
      refine qr_gr rfl kd_0 (hr := (rf_7_6 h)) (w := ?_)
      refine qr_il rfl rfl (w := ?_)
      refine qr_il rfl rfl (w := ?_)
      refine qr_callP rfl (sState_valueAt (i := i) (j := j) (kState h) hn (by omega) (by omega)) (qrcv1 kd_144) (w := ?_)
      refine qr_add rfl (by omega) (w := ?_)
      refine qr_is3 rfl (w := ?_)
      refine qr_inc4 rfl (by omega) (w := ?_)
      refine qr_goto rfl (w := ?_)
      have h1 := ih (j + 1) (a + qAt vs (i * 10 + j)) (by omega) (by omega) (by omega)
      rw [Int.add_assoc] at h1
      exact h1
theorem sLR_sumOfRecord (h : qE r) {rs vs : List Int} {pk bd : Int} {ss : List (List Int)} (hn : qSc m 144 rs vs pk ss.length bd) (hS : qSh m ss) {i : Nat} {n : Nat} (hn10 : n ≤ 10) (hi : i < 30) (hV : ∀ j : Nat, j < n → 0 ≤ qAt vs (i * 10 + j) ∧ qAt vs (i * 10 + j) ≤ 999) : qP m_LR_sumOfRecord [qK 0, qI i, qI n, none, none] (qT0, m, r) (qI (qSm n 0 (fun j => qAt vs (i * 10 + j)))) := by
  refine qr_const rfl (w := ?_)
  refine qr_is3 rfl (w := ?_)
  refine qr_const rfl (w := ?_)
  refine qr_is4 rfl (w := ?_)
  have h1 := sLR_sumOfRecord_loop h hn hS hn10 hi hV n 0 0 (by omega) (by omega) (by omega)
  rw [Int.zero_add] at h1
  exact h1
/-- the bound with the smallest size, over k bounds from b on, best so far c -/
def qBb (g : Int → Int) : Nat → Int → Int → Int
  | 0, _, c => c
  | k + 1, b, c => qBb g k (b + 1) (if g b < g c then b else c)
theorem sLR_bestBound_loop (h : qE r) {rs vs : List Int} {pk bd : Int} {ss : List (List Int)} (hn : qSc m 144 rs vs pk ss.length bd) (hS : qSh m ss) : ∀ (k : Nat) (b c : Int), b + k = 11 → 1 ≤ b → qP2 m_LR_bestBound 4 [qK 0, qI c, qI b] (qT0, m, r) (qI (qBb (qSz rs ss) k b c)) := by
  intro k
  induction k with
  | zero =>
    intro b c hik hb
    unfold qP2
    refine qr_il rfl rfl (w := ?_)
    refine qr_const rfl (w := ?_)
    refine qr_icgt rfl (fun hc => ?_) (fun hc => ?_)
    · refine qr_il rfl rfl (w := ?_)
      refine qW_ireturn rfl ?_
      exact ⟨rfl, rfl⟩
    · exact absurd hc (by omega)
  | succ k ih =>
    intro b c hik hb
    unfold qP2
    simp only [qBb]
    refine qr_il rfl rfl (w := ?_)
    refine qr_const rfl (w := ?_)
    refine qr_icgt rfl (fun hc => ?_) (fun hc => ?_)
    · exact absurd hc (by omega)
    · refine qr_al rfl rfl (w := ?_)
      refine qr_il rfl rfl (w := ?_)
      refine qr_callP rfl (sLR_sizeFor h hn hS) (qrcv1 kd_0) (w := ?_)
      refine qr_al rfl rfl (w := ?_)
      refine qr_il rfl rfl (w := ?_)
      refine qr_callP rfl (sLR_sizeFor h hn hS) (qrcv1 kd_0) (w := ?_)
      refine qr_icge rfl (fun hcf => ?_) (fun hcf => ?_)
      · refine qr_inc2 rfl (by omega) (w := ?_)
        refine qr_goto rfl (w := ?_)
        first
          | (rw [if_pos (by assumption)]; exact ih (b + 1) b (by omega) (by omega))
          | (rw [if_neg (by omega)]; exact ih (b + 1) c (by omega) (by omega))
      · refine qr_il rfl rfl (w := ?_)
        refine qr_is1 rfl (w := ?_)
        refine qr_inc2 rfl (by omega) (w := ?_)
        refine qr_goto rfl (w := ?_)
        first
          | (rw [if_pos (by assumption)]; exact ih (b + 1) b (by omega) (by omega))
          | (rw [if_neg (by omega)]; exact ih (b + 1) c (by omega) (by omega))
theorem sLR_bestBound (h : qE r) {rs vs : List Int} {pk bd : Int} {ss : List (List Int)} (hn : qSc m 144 rs vs pk ss.length bd) (hS : qSh m ss) : qP m_LR_bestBound [qK 0, none, none] (qT0, m, r) (qI (qBb (qSz rs ss) 9 2 1)) := by
  refine qr_const rfl (w := ?_)
  refine qr_is1 rfl (w := ?_)
  refine qr_const rfl (w := ?_)
  refine qr_is2 rfl (w := ?_)
  exact sLR_bestBound_loop h hn hS 9 2 1 (by omega) (by omega)
/-- the most like record, over k records from i on, the best and the most so far -/
def qLk (rs : List Int) (ss : List (List Int)) (x : Int) : Nat → Nat → Int → Int → Int
  | 0, _, b, _ => b
  | k + 1, i, b, n => if (i : Int) ≠ x ∧ qAt rs i ≠ -9 ∧ n < qIc (qGf ss (qAt rs x)) (qGf ss (qAt rs i)) then qLk rs ss x k (i + 1) i (qIc (qGf ss (qAt rs x)) (qGf ss (qAt rs i))) else qLk rs ss x k (i + 1) b n
theorem sLR_like_loop (h : qE r) {rs vs : List Int} {pk bd : Int} {ss : List (List Int)} (hn : qSc m 144 rs vs pk ss.length bd) (hS : qSh m ss) {x : Int} (hR : ∀ i : Int, qAt rs i < ss.length) : ∀ (k i : Nat) (b n : Int) (y : qA), i + k = rs.length → qP2 m_LR_like 28 [qK 0, qI x, qK (qFa (qAt rs x)), qI b, qI n, qI i, y] (qT0, m, r) (qI (qLk rs ss x k i b n)) := by
  have e2 := hn.2.2.1
  have e3 := hn.2.2.2.1
  have e4 := hn.2.2.2.2.1
  have h30 := hn.2.2.2.2.2.1
  have h40 := hS.1
  have hx := hR x
  intro k
  induction k with
  | zero =>
    intro i b n y hik
    unfold qP2
    refine qr_il rfl rfl (w := ?_)
    refine qr_al rfl rfl (w := ?_)
    refine qr_gr rfl kd_0 (hr := (rf_7_6 h)) (w := ?_)
    refine qr_callP rfl (sState_recordsRead (kState h) hn) (qrcv1 kd_144) (w := ?_)
    refine qr_icge rfl (fun hc => ?_) (fun hc => ?_)
    · refine qr_il rfl rfl (w := ?_)
      refine qW_ireturn rfl ?_
      exact ⟨rfl, rfl⟩
    · exact absurd hc (by omega)
  | succ k ih =>
    intro i b n y hik
    have hi := hR i
    unfold qP2
    simp only [qLk]
    refine qr_il rfl rfl (w := ?_)
    refine qr_al rfl rfl (w := ?_)
    refine qr_gr rfl kd_0 (hr := (rf_7_6 h)) (w := ?_)
    refine qr_callP rfl (sState_recordsRead (kState h) hn) (qrcv1 kd_144) (w := ?_)
    refine qr_icge rfl (fun hc => ?_) (fun hc => ?_)
    · exact absurd hc (by omega)
    · refine qr_il rfl rfl (w := ?_)
      refine qr_il rfl rfl (w := ?_)
      refine qr_iceq rfl (fun hcf => ?_) (fun hcf => ?_)
      · refine qr_inc5 rfl (by omega) (w := ?_)
        refine qr_goto rfl (w := ?_)
        simp only [decide_eq_true_eq, decide_eq_false_iff_not, ne_eq, Decidable.not_not] at *
        first
          | (rw [if_pos ⟨hcf, hcff, hcfff⟩]; exact ih (i + 1) _ _ _ (by omega))
          | (rw [if_neg (fun e => by omega)]; exact ih (i + 1) _ _ _ (by omega))
      · refine qr_al rfl rfl (w := ?_)
        refine qr_gr rfl kd_0 (hr := (rf_7_6 h)) (w := ?_)
        refine qr_il rfl rfl (w := ?_)
        refine qr_callP rfl (sState_has (kState h) hn) (qrcv1 kd_144) (w := ?_)
        refine qr_ifeqB rfl (fun hcff => ?_) (fun hcff => ?_)
        · refine qr_inc5 rfl (by omega) (w := ?_)
          refine qr_goto rfl (w := ?_)
          simp only [decide_eq_true_eq, decide_eq_false_iff_not, ne_eq, Decidable.not_not] at *
          first
            | (rw [if_pos ⟨hcf, hcff, hcfff⟩]; exact ih (i + 1) _ _ _ (by omega))
            | (rw [if_neg (fun e => by omega)]; exact ih (i + 1) _ _ _ (by omega))
        · refine qr_al rfl rfl (w := ?_)
          refine qr_al rfl rfl (w := ?_)
          refine qr_il rfl rfl (w := ?_)
          refine qr_callP rfl (sLR_formOf h hn hS) (qrcv1 kd_0) (w := ?_)
          refine qr_callP rfl (sForm_leavesInCommon (qFa_k h (qAt rs x)) (qFa_c (s := qAt rs x) hS (by omega)) (qFa_k h (qAt rs i)) (qFa_c (s := qAt rs i) hS (by omega))) (qrcv1 (qFa_k h (qAt rs x)).1) (w := ?_)
          refine qr_is6 rfl (w := ?_)
          refine qr_il rfl rfl (w := ?_)
          refine qr_il rfl rfl (w := ?_)
          refine qr_icle rfl (fun hcfff => ?_) (fun hcfff => ?_)
          · refine qr_inc5 rfl (by omega) (w := ?_)
            refine qr_goto rfl (w := ?_)
            simp only [decide_eq_true_eq, decide_eq_false_iff_not, ne_eq, Decidable.not_not] at *
            first
              | (rw [if_pos ⟨hcf, hcff, hcfff⟩]; exact ih (i + 1) _ _ _ (by omega))
              | (rw [if_neg (fun e => by omega)]; exact ih (i + 1) _ _ _ (by omega))
          · refine qr_il rfl rfl (w := ?_)
            refine qr_is4 rfl (w := ?_)
            refine qr_il rfl rfl (w := ?_)
            refine qr_is3 rfl (w := ?_)
            refine qr_inc5 rfl (by omega) (w := ?_)
            refine qr_goto rfl (w := ?_)
            simp only [decide_eq_true_eq, decide_eq_false_iff_not, ne_eq, Decidable.not_not] at *
            first
              | (rw [if_pos ⟨hcf, hcff, hcfff⟩]; exact ih (i + 1) _ _ _ (by omega))
              | (rw [if_neg (fun e => by omega)]; exact ih (i + 1) _ _ _ (by omega))
def qLike (rs : List Int) (ss : List (List Int)) (x : Int) : Int := if qAt rs x ≠ -9 then qLk rs ss x rs.length 0 (-9) (-1) else -1
theorem sLR_like (h : qE r) {rs vs : List Int} {pk bd : Int} {ss : List (List Int)} (hn : qSc m 144 rs vs pk ss.length bd) (hS : qSh m ss) {x : Int} (hR : ∀ i : Int, qAt rs i < ss.length) : qP m_LR_like [qK 0, qI x, none, none, none, none, none] (qT0, m, r) (qI (qLike rs ss x)) := by
  unfold qLike
  refine qr_al rfl rfl (w := ?_)
  refine qr_gr rfl kd_0 (hr := (rf_7_6 h)) (w := ?_)
  refine qr_il rfl rfl (w := ?_)
  refine qr_callP rfl (sState_has (kState h) hn) (qrcv1 kd_144) (w := ?_)
  refine qr_ifneB rfl (fun hc => ?_) (fun hc => ?_)
  · refine qr_al rfl rfl (w := ?_)
    refine qr_il rfl rfl (w := ?_)
    refine qr_callP rfl (sLR_formOf h hn hS) (qrcv1 kd_0) (w := ?_)
    refine qr_as2 rfl (w := ?_)
    refine qr_const rfl (w := ?_)
    refine qr_is3 rfl (w := ?_)
    refine qr_const rfl (w := ?_)
    refine qr_is4 rfl (w := ?_)
    refine qr_const rfl (w := ?_)
    refine qr_is5 rfl (w := ?_)
    rw [if_pos (of_decide_eq_true hc)]
    exact sLR_like_loop h hn hS hR rs.length 0 (-9) (-1) none (by omega)
  · refine qr_const rfl (w := ?_)
    refine qW_ireturn rfl ?_
    exact ⟨by rw [if_neg (of_decide_eq_false hc)], rfl⟩
end
section
/-! Texts that come back -/
variable {m : Nat → Int → Int} {r : Nat → Int → Option Nat}
def qClo (ps : List (Int × Int)) : Nat → Int → Int → List Int × Int
  | 0, p, _ => ([], p)
  | k + 1, p, u => if p = u then ([], p) else (125 :: (qClo ps k (qOu ps p) u).1, (qClo ps k (qOu ps p) u).2)
def qNam (ps : List (Int × Int)) (p : Int) (l : List Int) : List Int := l ++ ((if qAt l (l.length - 1) = 123 then [] else [44]) ++ [qLe ps p, 58])
def qNum (v : Int) : List Int := (if 100 ≤ v then [48 + v / 100] else []) ++ ((if 10 ≤ v then [48 + v / 10 % 10] else []) ++ [48 + v % 10])
def qTxt (ps : List (Int × Int)) (nv : Int → List Int) : List Int → Int → Int → List Int → List Int
  | [], u, _, l => l ++ (qClo ps 3 u (-9)).1 ++ [125]
  | f :: t, u, lf, l => if 100 ≤ f then qTxt ps nv t (qPa f) lf (qNam ps (qPa f) (l ++ (qClo ps 3 u (qOu ps (qPa f))).1) ++ [123]) else qTxt ps nv t (qClo ps 3 u (qOu ps (qPa f))).2 (lf + 1) (qNam ps (qPa f) (l ++ (qClo ps 3 u (qOu ps (qPa f))).1) ++ nv lf)
theorem qNam_le (ps : List (Int × Int)) (p : Int) (l : List Int) : l.length ≤ (qNam ps p l).length := by simp [qNam]
theorem qTxt_le (ps : List (Int × Int)) (nv : Int → List Int) : ∀ (fs : List Int) (u lf : Int) (l : List Int), l.length < (qTxt ps nv fs u lf l).length := by
  intro fs
  induction fs with
  | nil => intro u lf l; simp [qTxt]
  | cons f t ih =>
    intro u lf l
    have h0 := qNam_le ps (qPa f) (l ++ (qClo ps 3 u (qOu ps (qPa f))).1)
    rw [List.length_append] at h0
    simp only [qTxt]
    split
    · have h1 := ih (qPa f) lf (qNam ps (qPa f) (l ++ (qClo ps 3 u (qOu ps (qPa f))).1) ++ [123])
      rw [List.length_append] at h1
      omega
    · have h1 := ih (qClo ps 3 u (qOu ps (qPa f))).2 (lf + 1) (qNam ps (qPa f) (l ++ (qClo ps 3 u (qOu ps (qPa f))).1) ++ nv lf)
      rw [List.length_append] at h1
      omega
theorem sLR_writeClosings_loop (h : qE r) {ps : List (Int × Int)} {u0 u : Int} : ∀ (k j : Nat) (p : Int) (l : List Int) (m : Nat → Int → Int), j + k = 4 → qRw m 3 l → qPh m 6 ps → (l ++ (qClo ps k p u).1).length ≤ 100 → qW m_LR_writeClosings 5 [qK 0, qI u0, qI u, qI p, qI j] [] (qT0, m, r) (fun x σ => ∃ m', σ = (qT0, m', r) ∧ x = qI (qClo ps k p u).2 ∧ qRw m' 3 (l ++ (qClo ps k p u).1) ∧ qFr (qPz 3) m m') := by
  intro k
  induction k with
  | zero =>
    intro j p l m hjk hl hP hle
    refine qr_il rfl rfl (w := ?_)
    refine qr_const rfl (w := ?_)
    refine qr_icge rfl (fun hc => ?_) (fun hc => ?_)
    · refine qr_il rfl rfl (w := ?_)
      refine qW_ireturn rfl ?_
      exact ⟨m, rfl, rfl, by simpa [qClo] using hl, qFr_rf⟩
    · exact absurd hc (by omega)
  | succ k ih =>
    intro j p l m hjk hl hP hle
    simp only [qClo] at hle ⊢
    refine qr_il rfl rfl (w := ?_)
    refine qr_const rfl (w := ?_)
    refine qr_icge rfl (fun hc => ?_) (fun hc => ?_)
    · refine qr_il rfl rfl (w := ?_)
      refine qW_ireturn rfl ?_
      first
        | exact absurd hc (by omega)
        | (rw [if_pos hcf]; exact ⟨m, rfl, rfl, by simpa using hl, qFr_rf⟩)
    · refine qr_il rfl rfl (w := ?_)
      refine qr_il rfl rfl (w := ?_)
      refine qr_iceq rfl (fun hcf => ?_) (fun hcf => ?_)
      · refine qr_il rfl rfl (w := ?_)
        refine qW_ireturn rfl ?_
        first
          | exact absurd hc (by omega)
          | (rw [if_pos hcf]; exact ⟨m, rfl, rfl, by simpa using hl, qFr_rf⟩)
      · refine qr_al rfl rfl (w := ?_)
        refine qr_gr rfl kd_0 (hr := (rf_7_1 h)) (w := ?_)
        refine qr_const rfl (w := ?_)
        rw [if_neg hcf] at hle ⊢
        simp only [List.length_append, List.length_cons] at hle
        refine qr_callV rfl (sRow_add (kLine h) hl (by omega)) (qrcv1 (kLine h).1) (w := fun _ σ hσ => ?_)
        obtain ⟨m1, rfl, hl1, hf1⟩ := hσ
        have hP1 := qPh_fr hP hf1 (fun a g1 g2 => by show ¬ (a = 3 ∨ a = 4); omega)
        refine qr_al rfl rfl (w := ?_)
        refine qr_gr rfl kd_0 (hr := (rf_7_3 h)) (w := ?_)
        refine qr_il rfl rfl (w := ?_)
        refine qr_callP rfl (sPaths_outerOf (kPaths h) hP1) (qrcv1 kd_6) (w := ?_)
        refine qr_is3 rfl (w := ?_)
        refine qr_inc4 rfl (by omega) (w := ?_)
        refine qr_goto rfl (w := ?_)
        have h1 := ih (j + 1) (qOu ps p) (l ++ [125]) m1 (by omega) hl1 hP1 (by simp only [List.length_append, List.length_cons, List.length_nil]; omega)
        refine qW_mono h1 (fun x σ hx => ?_)
        obtain ⟨m2, rfl, rfl, g1, g2⟩ := hx
        rw [List.append_assoc, List.singleton_append] at g1
        exact ⟨m2, rfl, rfl, g1, qFr_tr hf1 g2⟩
theorem sLR_writeClosings (h : qE r) {ps : List (Int × Int)} {p u : Int} {l : List Int} (hl : qRw m 3 l) (hP : qPh m 6 ps) (hle : (l ++ (qClo ps 3 p u).1).length ≤ 100) : qW m_LR_writeClosings 0 [qK 0, qI p, qI u, none, none] [] (qT0, m, r) (fun x σ => ∃ m', σ = (qT0, m', r) ∧ x = qI (qClo ps 3 p u).2 ∧ qRw m' 3 (l ++ (qClo ps 3 p u).1) ∧ qFr (qPz 3) m m') := by
  refine qr_il rfl rfl (w := ?_)
  refine qr_is3 rfl (w := ?_)
  refine qr_const rfl (w := ?_)
  refine qr_is4 rfl (w := ?_)
  exact sLR_writeClosings_loop h 3 1 p l m (by omega) hl hP hle
theorem sLR_writeName (h : qE r) {ps : List (Int × Int)} {p : Int} {l : List Int} (hl : qRw m 3 l) (hP : qPh m 6 ps) (hle : (qNam ps p l).length ≤ 100) : qW m_LR_writeName 0 [qK 0, qI p] [] (qT0, m, r) (fun _ σ => ∃ m', σ = (qT0, m', r) ∧ qRw m' 3 (qNam ps p l) ∧ qFr (qPz 3) m m') := by
  unfold qNam at hle ⊢
  simp only [List.length_append] at hle
  have hll : l.length ≤ 100 := by omega
  refine qr_al rfl rfl (w := ?_)
  refine qr_gr rfl kd_0 (hr := (rf_7_1 h)) (w := ?_)
  refine qr_al rfl rfl (w := ?_)
  refine qr_gr rfl kd_0 (hr := (rf_7_1 h)) (w := ?_)
  refine qr_callP rfl (sRow_len (kLine h) hl) (qrcv1 (kLine h).1) (w := ?_)
  refine qr_const rfl (w := ?_)
  refine qr_sub rfl (by omega) (w := ?_)
  refine qr_callP rfl (sRow_at (kLine h) hl hll) (qrcv1 (kLine h).1) (w := ?_)
  refine qr_const rfl (w := ?_)
  refine qr_iceq rfl (fun hc => ?_) (fun hc => ?_)
  · rw [if_pos hc] at hle ⊢
    simp only [List.length_cons, List.length_nil] at hle
    refine qr_al rfl rfl (w := ?_)
    refine qr_gr rfl kd_0 (hr := (rf_7_1 h)) (w := ?_)
    refine qr_al rfl rfl (w := ?_)
    refine qr_gr rfl kd_0 (hr := (rf_7_3 h)) (w := ?_)
    refine qr_il rfl rfl (w := ?_)
    refine qr_callP rfl (sPaths_letterOf (kPaths h) hP) (qrcv1 kd_6) (w := ?_)
    refine qr_callV rfl (sRow_add (kLine h) hl (by omega)) (qrcv1 (kLine h).1) (w := fun _ σ hσ => ?_)
    obtain ⟨m1, rfl, hl1, hf1⟩ := hσ
    have hP1 := qPh_fr hP hf1 (fun a g1 g2 => by show ¬ (a = 3 ∨ a = 4); omega)
    refine qr_al rfl rfl (w := ?_)
    refine qr_gr rfl kd_0 (hr := (rf_7_1 h)) (w := ?_)
    refine qr_const rfl (w := ?_)
    have e2 : (l ++ [qLe ps p]).length = l.length + 1 := by simp
    refine qr_callV rfl (sRow_add (kLine h) hl1 (by omega)) (qrcv1 (kLine h).1) (w := fun _ σ hσ => ?_)
    obtain ⟨m2, rfl, hl2, hf2⟩ := hσ
    have hP2 := qPh_fr hP1 hf2 (fun a g1 g2 => by show ¬ (a = 3 ∨ a = 4); omega)
    refine qW_return rfl ?_
    exact ⟨_, rfl, by simpa using hl2, qFr_tr hf1 hf2⟩
  · rw [if_neg hc] at hle ⊢
    simp only [List.length_cons, List.length_nil] at hle
    refine qr_al rfl rfl (w := ?_)
    refine qr_gr rfl kd_0 (hr := (rf_7_1 h)) (w := ?_)
    refine qr_const rfl (w := ?_)
    refine qr_callV rfl (sRow_add (kLine h) hl (by omega)) (qrcv1 (kLine h).1) (w := fun _ σ hσ => ?_)
    obtain ⟨m1, rfl, hl1, hf1⟩ := hσ
    have hP1 := qPh_fr hP hf1 (fun a g1 g2 => by show ¬ (a = 3 ∨ a = 4); omega)
    refine qr_al rfl rfl (w := ?_)
    refine qr_gr rfl kd_0 (hr := (rf_7_1 h)) (w := ?_)
    refine qr_al rfl rfl (w := ?_)
    refine qr_gr rfl kd_0 (hr := (rf_7_3 h)) (w := ?_)
    refine qr_il rfl rfl (w := ?_)
    refine qr_callP rfl (sPaths_letterOf (kPaths h) hP1) (qrcv1 kd_6) (w := ?_)
    have e1 : (l ++ [44]).length = l.length + 1 := by simp
    refine qr_callV rfl (sRow_add (kLine h) hl1 (by omega)) (qrcv1 (kLine h).1) (w := fun _ σ hσ => ?_)
    obtain ⟨m2, rfl, hl2, hf2⟩ := hσ
    have hP2 := qPh_fr hP1 hf2 (fun a g1 g2 => by show ¬ (a = 3 ∨ a = 4); omega)
    refine qr_al rfl rfl (w := ?_)
    refine qr_gr rfl kd_0 (hr := (rf_7_1 h)) (w := ?_)
    refine qr_const rfl (w := ?_)
    have e2 : (l ++ [44] ++ [qLe ps p]).length = l.length + 2 := by simp
    refine qr_callV rfl (sRow_add (kLine h) hl2 (by omega)) (qrcv1 (kLine h).1) (w := fun _ σ hσ => ?_)
    obtain ⟨m3, rfl, hl3, hf3⟩ := hσ
    have hP3 := qPh_fr hP2 hf3 (fun a g1 g2 => by show ¬ (a = 3 ∨ a = 4); omega)
    refine qW_return rfl ?_
    exact ⟨_, rfl, by simpa using hl3, qFr_tr hf1 (qFr_tr hf2 hf3)⟩
theorem sLR_writeNumber (h : qE r) {v : Int} {l : List Int} (hv : 0 ≤ v ∧ v ≤ 999) (hl : qRw m 3 l) (hle : (l ++ qNum v).length ≤ 100) : qW m_LR_writeNumber 0 [qK 0, qI v] [] (qT0, m, r) (fun _ σ => ∃ m', σ = (qT0, m', r) ∧ qRw m' 3 (l ++ qNum v) ∧ qFr (qPz 3) m m') := by
  unfold qNum at hle ⊢
  simp only [List.length_append] at hle
  rcases (show v < 10 ∨ (10 ≤ v ∧ v < 100) ∨ 100 ≤ v by omega) with g | g | g
  · rw [if_neg (by omega), if_neg (by omega)] at hle ⊢
    simp only [List.length_cons, List.length_nil] at hle
    refine qr_il rfl rfl (w := ?_)
    refine qr_const rfl (w := ?_)
    refine qr_iclt rfl (fun hc => ?_) (fun hc => absurd hc (by omega))
    refine qr_il rfl rfl (w := ?_)
    refine qr_const rfl (w := ?_)
    refine qr_iclt rfl (fun hct => ?_) (fun hct => absurd hct (by omega))
    refine qr_al rfl rfl (w := ?_)
    refine qr_gr rfl kd_0 (hr := (rf_7_1 h)) (w := ?_)
    refine qr_const rfl (w := ?_)
    refine qr_il rfl rfl (w := ?_)
    refine qr_const rfl (w := ?_)
    refine qr_rem rfl (by omega) (w := ?_)
    refine qr_add rfl (by omega) (w := ?_)
    refine qr_callV rfl (sRow_add (kLine h) hl (by omega)) (qrcv1 (kLine h).1) (w := fun _ σ hσ => ?_)
    obtain ⟨m1, rfl, hl1, hf1⟩ := hσ
    refine qW_return rfl ?_
    exact ⟨_, rfl, by simpa using hl1, hf1⟩
  · rw [if_neg (by omega), if_pos (by omega)] at hle ⊢
    simp only [List.length_cons, List.length_nil] at hle
    refine qr_il rfl rfl (w := ?_)
    refine qr_const rfl (w := ?_)
    refine qr_iclt rfl (fun hc => ?_) (fun hc => absurd hc (by omega))
    refine qr_il rfl rfl (w := ?_)
    refine qr_const rfl (w := ?_)
    refine qr_iclt rfl (fun hct => absurd hct (by omega)) (fun hct => ?_)
    refine qr_al rfl rfl (w := ?_)
    refine qr_gr rfl kd_0 (hr := (rf_7_1 h)) (w := ?_)
    refine qr_const rfl (w := ?_)
    refine qr_il rfl rfl (w := ?_)
    refine qr_const rfl (w := ?_)
    refine qr_div rfl (by omega) (w := ?_)
    refine qr_const rfl (w := ?_)
    refine qr_rem rfl (by omega) (w := ?_)
    refine qr_add rfl (by omega) (w := ?_)
    refine qr_callV rfl (sRow_add (kLine h) hl (by omega)) (qrcv1 (kLine h).1) (w := fun _ σ hσ => ?_)
    obtain ⟨m1, rfl, hl1, hf1⟩ := hσ
    have e2 : (l ++ [48 + v / 10 % 10]).length = l.length + 1 := by simp
    refine qr_al rfl rfl (w := ?_)
    refine qr_gr rfl kd_0 (hr := (rf_7_1 h)) (w := ?_)
    refine qr_const rfl (w := ?_)
    refine qr_il rfl rfl (w := ?_)
    refine qr_const rfl (w := ?_)
    refine qr_rem rfl (by omega) (w := ?_)
    refine qr_add rfl (by omega) (w := ?_)
    refine qr_callV rfl (sRow_add (kLine h) hl1 (by omega)) (qrcv1 (kLine h).1) (w := fun _ σ hσ => ?_)
    obtain ⟨m2, rfl, hl2, hf2⟩ := hσ
    refine qW_return rfl ?_
    exact ⟨_, rfl, by simpa using hl2, qFr_tr hf1 hf2⟩
  · rw [if_pos (by omega), if_pos (by omega)] at hle ⊢
    simp only [List.length_cons, List.length_nil] at hle
    refine qr_il rfl rfl (w := ?_)
    refine qr_const rfl (w := ?_)
    refine qr_iclt rfl (fun hc => absurd hc (by omega)) (fun hc => ?_)
    refine qr_al rfl rfl (w := ?_)
    refine qr_gr rfl kd_0 (hr := (rf_7_1 h)) (w := ?_)
    refine qr_const rfl (w := ?_)
    refine qr_il rfl rfl (w := ?_)
    refine qr_const rfl (w := ?_)
    refine qr_div rfl (by omega) (w := ?_)
    refine qr_add rfl (by omega) (w := ?_)
    refine qr_callV rfl (sRow_add (kLine h) hl (by omega)) (qrcv1 (kLine h).1) (w := fun _ σ hσ => ?_)
    obtain ⟨m1, rfl, hl1, hf1⟩ := hσ
    have e2 : (l ++ [48 + v / 100]).length = l.length + 1 := by simp
    refine qr_il rfl rfl (w := ?_)
    refine qr_const rfl (w := ?_)
    refine qr_iclt rfl (fun hcf => absurd hcf (by omega)) (fun hcf => ?_)
    refine qr_al rfl rfl (w := ?_)
    refine qr_gr rfl kd_0 (hr := (rf_7_1 h)) (w := ?_)
    refine qr_const rfl (w := ?_)
    refine qr_il rfl rfl (w := ?_)
    refine qr_const rfl (w := ?_)
    refine qr_div rfl (by omega) (w := ?_)
    refine qr_const rfl (w := ?_)
    refine qr_rem rfl (by omega) (w := ?_)
    refine qr_add rfl (by omega) (w := ?_)
    refine qr_callV rfl (sRow_add (kLine h) hl1 (by omega)) (qrcv1 (kLine h).1) (w := fun _ σ hσ => ?_)
    obtain ⟨m2, rfl, hl2, hf2⟩ := hσ
    have e3 : (l ++ [48 + v / 100] ++ [48 + v / 10 % 10]).length = l.length + 2 := by simp
    refine qr_al rfl rfl (w := ?_)
    refine qr_gr rfl kd_0 (hr := (rf_7_1 h)) (w := ?_)
    refine qr_const rfl (w := ?_)
    refine qr_il rfl rfl (w := ?_)
    refine qr_const rfl (w := ?_)
    refine qr_rem rfl (by omega) (w := ?_)
    refine qr_add rfl (by omega) (w := ?_)
    refine qr_callV rfl (sRow_add (kLine h) hl2 (by omega)) (qrcv1 (kLine h).1) (w := fun _ σ hσ => ?_)
    obtain ⟨m3, rfl, hl3, hf3⟩ := hσ
    refine qW_return rfl ?_
    exact ⟨_, rfl, by simpa using hl3, qFr_tr hf1 (qFr_tr hf2 hf3)⟩
/-- the numbers of a record's text: none for the shape alone -/
def qNv (vs : List Int) (x : Int) (lf : Int) : List Int := if x = -9 then [] else qNum (qAt vs (x * 10 + lf))
theorem sLR_writeText_loop (h : qE r) {rs vs : List Int} {pk sk bd : Int} {ps : List (Int × Int)} {z : Nat} {fs : List Int} {x : Int} (hz : qForm qT0 r z) (hzd : 5 ≤ z) (hzd2 : z < 144 ∨ 149 ≤ z) (hfs : ∀ f ∈ fs, 0 ≤ f ∧ f < 1000) (hx : x = -9 ∨ (0 ≤ x ∧ x < 30)) (hv : x ≠ -9 → ∀ j : Int, 0 ≤ j → j < qLv fs → 0 ≤ qAt vs (x * 10 + j) ∧ qAt vs (x * 10 + j) ≤ 999) :
    ∀ (k i : Nat) (u lf : Int) (l : List Int) (y : qA) (m : Nat → Int → Int), i + k = fs.length → 0 ≤ lf → lf + qLv (fs.drop i) = qLv fs → qSc m 144 rs vs pk sk bd → qFm m z fs → qPh m 6 ps → qRw m 3 l → (qTxt ps (qNv vs x) (fs.drop i) u lf l).length ≤ 100 → qW m_LR_writeText 26 [qK 0, qK z, qI x, qI u, qI lf, qI i, y] [] (qT0, m, r) (fun w σ => ∃ m', σ = (qT0, m', r) ∧ w = qI (qTxt ps (qNv vs x) (fs.drop i) u lf l).length ∧ qRw m' 3 (qTxt ps (qNv vs x) (fs.drop i) u lf l) ∧ qFr (qPz 3) m m') := by
  intro k
  induction k with
  | zero =>
    intro i u lf l y m hik hlf hlv hn hF hP hl hle
    rw [qdrop_nil (by omega)] at hle ⊢
    simp only [qTxt] at hle ⊢
    simp only [List.length_append, List.length_cons, List.length_nil] at hle
    have hc1 : (l ++ (qClo ps 3 u (-9)).1).length = l.length + (qClo ps 3 u (-9)).1.length := by simp
    refine qr_il rfl rfl (w := ?_)
    refine qr_al rfl rfl (w := ?_)
    refine qr_callP rfl (sForm_size hz hF) (qrcv1 hz.1) (w := ?_)
    refine qr_icge rfl (fun hc => ?_) (fun hc => absurd hc (by omega))
    refine qr_al rfl rfl (w := ?_)
    refine qr_il rfl rfl (w := ?_)
    refine qr_const rfl (w := ?_)
    refine qr_callA rfl (sLR_writeClosings (p := u) (u := -9) h hl hP (by rw [List.length_append]; omega)) (qrcv1 kd_0) (w := fun _ σ hσ => ?_)
    obtain ⟨m1, rfl, rfl, hl1, hf1⟩ := hσ
    refine qr_pop rfl (w := ?_)
    refine qr_al rfl rfl (w := ?_)
    refine qr_gr rfl kd_0 (hr := (rf_7_1 h)) (w := ?_)
    refine qr_const rfl (w := ?_)
    refine qr_callV rfl (sRow_add (kLine h) hl1 (by omega)) (qrcv1 (kLine h).1) (w := fun _ σ hσ => ?_)
    obtain ⟨m2, rfl, hl2, hf2⟩ := hσ
    refine qr_al rfl rfl (w := ?_)
    refine qr_gr rfl kd_0 (hr := (rf_7_1 h)) (w := ?_)
    refine qr_callP rfl (sRow_len (kLine h) hl2) (qrcv1 (kLine h).1) (w := ?_)
    refine qW_ireturn rfl ?_
    exact ⟨_, rfl, rfl, hl2, qFr_tr hf1 hf2⟩
  | succ k ih =>
    intro i u lf l y m hik hlf hlv hn hF hP hl hle
    rw [qdrop (by omega)] at hle hlv ⊢
    simp only [qTxt] at hle ⊢
    simp only [qLv] at hlv
    have hfi := hfs fs[i] (List.getElem_mem _)
    have ha : qAt fs i = fs[i] := qAt_lt (by omega)
    have nP : ∀ a, 6 < a → a < 6 + 5 → ¬ qPz 3 a := by intro a g1 g2; show ¬ (a = 3 ∨ a = 4); omega
    have nS : ∀ a, 144 ≤ a → a < 144 + 5 → ¬ qPz 3 a := by intro a g1 g2; show ¬ (a = 3 ∨ a = 4); omega
    have nF : ∀ a, z ≤ a → ¬ qPz 3 a := by intro a g1; show ¬ (a = 3 ∨ a = 4); omega
    have hlv2 := qLv_le (fs.drop (i + 1))
    have hlq := qLv_le fs
    have h26 := hF.2.2
    have hle1 : (l ++ (qClo ps 3 u (qOu ps (qPa fs[i]))).1).length ≤ 100 ∧ (qNam ps (qPa fs[i]) (l ++ (qClo ps 3 u (qOu ps (qPa fs[i]))).1)).length ≤ 100 := by
      have h1 := qNam_le ps (qPa fs[i]) (l ++ (qClo ps 3 u (qOu ps (qPa fs[i]))).1)
      split at hle
      · have h2 := qTxt_le ps (qNv vs x) (fs.drop (i + 1)) (qPa fs[i]) lf (qNam ps (qPa fs[i]) (l ++ (qClo ps 3 u (qOu ps (qPa fs[i]))).1) ++ [123])
        rw [List.length_append] at h2
        omega
      · have h2 := qTxt_le ps (qNv vs x) (fs.drop (i + 1)) (qClo ps 3 u (qOu ps (qPa fs[i]))).2 (lf + 1) (qNam ps (qPa fs[i]) (l ++ (qClo ps 3 u (qOu ps (qPa fs[i]))).1) ++ qNv vs x lf)
        rw [List.length_append] at h2
        omega
    refine qr_il rfl rfl (w := ?_)
    refine qr_al rfl rfl (w := ?_)
    refine qr_callP rfl (sForm_size hz hF) (qrcv1 hz.1) (w := ?_)
    refine qr_icge rfl (fun hc => absurd hc (by omega)) (fun hc => ?_)
    refine qr_al rfl rfl (w := ?_)
    refine qr_il rfl rfl (w := ?_)
    refine qr_callP rfl (sForm_pathAt hz hF (by rw [ha]; exact hfi.2)) (qrcv1 hz.1) (w := ?_)
    rw [ha]
    refine qr_is6 rfl (w := ?_)
    refine qr_al rfl rfl (w := ?_)
    refine qr_il rfl rfl (w := ?_)
    refine qr_al rfl rfl (w := ?_)
    refine qr_gr rfl kd_0 (hr := (rf_7_3 h)) (w := ?_)
    refine qr_il rfl rfl (w := ?_)
    refine qr_callP rfl (sPaths_outerOf (kPaths h) hP) (qrcv1 kd_6) (w := ?_)
    refine qr_callA rfl (sLR_writeClosings h hl hP hle1.1) (qrcv1 kd_0) (w := fun _ σ hσ => ?_)
    obtain ⟨m1, rfl, rfl, hl1, hf1⟩ := hσ
    have hP1 := qPh_fr hP hf1 nP
    have hF1 := qFm_fr hF hf1 (nF _ (by omega)) (nF _ (by omega)) (nF _ (by omega))
    have hn1 := qSc_fr hn hf1 nS
    refine qr_is3 rfl (w := ?_)
    refine qr_al rfl rfl (w := ?_)
    refine qr_il rfl rfl (w := ?_)
    refine qr_callV rfl (sLR_writeName h hl1 hP1 hle1.2) (qrcv1 kd_0) (w := fun _ σ hσ => ?_)
    obtain ⟨m2, rfl, hl2, hf2⟩ := hσ
    have hP2 := qPh_fr hP1 hf2 nP
    have hF2 := qFm_fr hF1 hf2 (nF _ (by omega)) (nF _ (by omega)) (nF _ (by omega))
    have hn2 := qSc_fr hn1 hf2 nS
    refine qr_al rfl rfl (w := ?_)
    refine qr_il rfl rfl (w := ?_)
    refine qr_callP rfl (sForm_isBranchAt hz hF2) (qrcv1 hz.1) (w := ?_)
    rw [ha]
    refine qr_ifeqB rfl (fun hcf => ?_) (fun hcf => ?_)
    · refine qr_il rfl rfl (w := ?_)
      refine qr_const rfl (w := ?_)
      refine qr_iceq rfl (fun hcft => ?_) (fun hcft => ?_)
      · refine qr_inc4 rfl (by omega) (w := ?_)
        refine qr_inc5 rfl (by omega) (w := ?_)
        refine qr_goto rfl (w := ?_)
        have hb : ¬ 100 ≤ fs[i] := of_decide_eq_false hcf
        rw [if_neg hb] at hle ⊢
        rw [if_pos (by omega)] at hlv
        have hnv : qNv vs x lf = [] := by unfold qNv; rw [if_pos hcft]
        rw [hnv, List.append_nil] at hle ⊢
        refine qW_mono (ih (i + 1) (qClo ps 3 u (qOu ps (qPa fs[i]))).2 (lf + 1) _ _ m2 (by omega) (by omega) (by omega) hn2 hF2 hP2 hl2 hle) (fun w σ hw => ?_)
        obtain ⟨m9, rfl, rfl, g1, g2⟩ := hw
        exact ⟨m9, rfl, rfl, g1, qFr_tr hf1 (qFr_tr hf2 g2)⟩
      · refine qr_al rfl rfl (w := ?_)
        refine qr_al rfl rfl (w := ?_)
        refine qr_gr rfl kd_0 (hr := (rf_7_6 h)) (w := ?_)
        refine qr_il rfl rfl (w := ?_)
        refine qr_il rfl rfl (w := ?_)
        have hxr : 0 ≤ x ∧ x < 30 := by omega
        have hb : ¬ 100 ≤ fs[i] := of_decide_eq_false hcf
        rw [if_neg hb] at hle ⊢
        rw [if_pos (by omega)] at hlv
        have hvv := hv hcft lf hlf (by omega)
        refine qr_callP rfl (sState_valueAt (i := x) (j := lf) (kState h) hn2 (by omega) (by omega)) (qrcv1 kd_144) (w := ?_)
        have hnv : qNv vs x lf = qNum (qAt vs (x * 10 + lf)) := by unfold qNv; rw [if_neg hcft]
        rw [hnv] at hle ⊢
        have hl9 := qTxt_le ps (qNv vs x) (fs.drop (i + 1)) (qClo ps 3 u (qOu ps (qPa fs[i]))).2 (lf + 1) (qNam ps (qPa fs[i]) (l ++ (qClo ps 3 u (qOu ps (qPa fs[i]))).1) ++ qNum (qAt vs (x * 10 + lf)))
        refine qr_callV rfl (sLR_writeNumber h hvv hl2 (by omega)) (qrcv1 kd_0) (w := fun _ σ hσ => ?_)
        obtain ⟨m3, rfl, hl3, hf3⟩ := hσ
        have hP3 := qPh_fr hP2 hf3 nP
        have hF3 := qFm_fr hF2 hf3 (nF _ (by omega)) (nF _ (by omega)) (nF _ (by omega))
        have hn3 := qSc_fr hn2 hf3 nS
        refine qr_inc4 rfl (by omega) (w := ?_)
        refine qr_inc5 rfl (by omega) (w := ?_)
        refine qr_goto rfl (w := ?_)
        refine qW_mono (ih (i + 1) (qClo ps 3 u (qOu ps (qPa fs[i]))).2 (lf + 1) _ _ m3 (by omega) (by omega) (by omega) hn3 hF3 hP3 hl3 hle) (fun w σ hw => ?_)
        obtain ⟨m9, rfl, rfl, g1, g2⟩ := hw
        exact ⟨m9, rfl, rfl, g1, qFr_tr hf1 (qFr_tr hf2 (qFr_tr hf3 g2))⟩
    · refine qr_al rfl rfl (w := ?_)
      refine qr_gr rfl kd_0 (hr := (rf_7_1 h)) (w := ?_)
      refine qr_const rfl (w := ?_)
      have hb : 100 ≤ fs[i] := of_decide_eq_true hcf
      rw [if_pos hb] at hle ⊢
      rw [if_neg (by omega)] at hlv
      have hl9 := qTxt_le ps (qNv vs x) (fs.drop (i + 1)) (qPa fs[i]) lf (qNam ps (qPa fs[i]) (l ++ (qClo ps 3 u (qOu ps (qPa fs[i]))).1) ++ [123])
      rw [List.length_append] at hl9
      simp only [List.length_cons, List.length_nil] at hl9
      refine qr_callV rfl (sRow_add (kLine h) hl2 (by omega)) (qrcv1 (kLine h).1) (w := fun _ σ hσ => ?_)
      obtain ⟨m3, rfl, hl3, hf3⟩ := hσ
      have hP3 := qPh_fr hP2 hf3 nP
      have hF3 := qFm_fr hF2 hf3 (nF _ (by omega)) (nF _ (by omega)) (nF _ (by omega))
      have hn3 := qSc_fr hn2 hf3 nS
      refine qr_il rfl rfl (w := ?_)
      refine qr_is3 rfl (w := ?_)
      refine qr_goto rfl (w := ?_)
      refine qr_inc5 rfl (by omega) (w := ?_)
      refine qr_goto rfl (w := ?_)
      refine qW_mono (ih (i + 1) (qPa fs[i]) lf _ _ m3 (by omega) (by omega) (by omega) hn3 hF3 hP3 hl3 hle) (fun w σ hw => ?_)
      obtain ⟨m9, rfl, rfl, g1, g2⟩ := hw
      exact ⟨m9, rfl, rfl, g1, qFr_tr hf1 (qFr_tr hf2 (qFr_tr hf3 g2))⟩
/-- the text of a form, with the numbers of a record or none -/
def qText (ps : List (Int × Int)) (nv : Int → List Int) (fs : List Int) : List Int := qTxt ps nv fs (-9) 0 [123]
theorem sLR_writeText (h : qE r) {rs vs : List Int} {pk sk bd : Int} {ps : List (Int × Int)} {z : Nat} {fs l0 : List Int} {x : Int} (hz : qForm qT0 r z) (hzd : 5 ≤ z) (hzd2 : z < 144 ∨ 149 ≤ z) (hfs : ∀ f ∈ fs, 0 ≤ f ∧ f < 1000) (hx : x = -9 ∨ (0 ≤ x ∧ x < 30)) (hv : x ≠ -9 → ∀ j : Int, 0 ≤ j → j < qLv fs → 0 ≤ qAt vs (x * 10 + j) ∧ qAt vs (x * 10 + j) ≤ 999) (hn : qSc m 144 rs vs pk sk bd) (hF : qFm m z fs) (hP : qPh m 6 ps) (hl : qRw m 3 l0) (hle : (qText ps (qNv vs x) fs).length ≤ 100) : qW m_LR_writeText 0 [qK 0, qK z, qI x, none, none, none, none] [] (qT0, m, r) (fun w σ => ∃ m', σ = (qT0, m', r) ∧ w = qI (qText ps (qNv vs x) fs).length ∧ qRw m' 3 (qText ps (qNv vs x) fs) ∧ qFr (qPz 3) m m') := by
  have nP : ∀ a, 6 < a → a < 6 + 5 → ¬ qPz 3 a := by intro a g1 g2; show ¬ (a = 3 ∨ a = 4); omega
  have nS : ∀ a, 144 ≤ a → a < 144 + 5 → ¬ qPz 3 a := by intro a g1 g2; show ¬ (a = 3 ∨ a = 4); omega
  have nF : ∀ a, z ≤ a → ¬ qPz 3 a := by intro a g1; show ¬ (a = 3 ∨ a = 4); omega
  refine qr_al rfl rfl (w := ?_)
  refine qr_gr rfl kd_0 (hr := (rf_7_1 h)) (w := ?_)
  refine qr_const rfl (w := ?_)
  refine qr_callV rfl (sRow_cut (k := 0) (kLine h) hl) (qrcv1 (kLine h).1) (w := fun _ σ hσ => ?_)
  obtain ⟨m1, rfl, hl1, hf0⟩ := hσ
  have hf1 : qFr (qPz 3) m m1 := qFr_mo hf0 (fun a ha => Or.inl ha)
  rw [List.take_zero] at hl1
  have hP1 := qPh_fr hP hf1 nP
  have hF1 := qFm_fr hF hf1 (nF _ (by omega)) (nF _ (by omega)) (nF _ (by omega))
  have hn1 := qSc_fr hn hf1 nS
  refine qr_al rfl rfl (w := ?_)
  refine qr_gr rfl kd_0 (hr := (rf_7_1 h)) (w := ?_)
  refine qr_const rfl (w := ?_)
  refine qr_callV rfl (sRow_add (kLine h) hl1 (by decide)) (qrcv1 (kLine h).1) (w := fun _ σ hσ => ?_)
  obtain ⟨m2, rfl, hl2, hf2⟩ := hσ
  have hP2 := qPh_fr hP1 hf2 nP
  have hF2 := qFm_fr hF1 hf2 (nF _ (by omega)) (nF _ (by omega)) (nF _ (by omega))
  have hn2 := qSc_fr hn1 hf2 nS
  refine qr_const rfl (w := ?_)
  refine qr_is3 rfl (w := ?_)
  refine qr_const rfl (w := ?_)
  refine qr_is4 rfl (w := ?_)
  refine qr_const rfl (w := ?_)
  refine qr_is5 rfl (w := ?_)
  refine qW_mono (sLR_writeText_loop h hz hzd hzd2 hfs hx hv fs.length 0 (-9) 0 [123] none m2 (by omega) (by omega) (by rw [List.drop_zero]; omega) hn2 hF2 hP2 hl2 (by rw [List.drop_zero]; exact hle)) (fun w σ hw => ?_)
  obtain ⟨m9, rfl, rfl, g1, g2⟩ := hw
  exact ⟨m9, rfl, rfl, g1, qFr_tr hf1 (qFr_tr hf2 g2)⟩
end
