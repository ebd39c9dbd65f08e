-- ===== PART A: goes FIRST, ahead of the names: the tables' words, and 'selects' of the private methods out of them =====
/-- a private method of a class that the tables say can be made, by its rows of tables_1 -/
def lw_okq (q : MethodName × Nat) : Prop := (q.1.cls ≠ "java/lang/invoke/MethodHandle" ∧ q.1.cls ≠ "java/lang/invoke/VarHandle") ∧ Cond.instantiable q.1.cls q.2 ∈ tables_1 ∧ Cond.privateMethod q.1 ∈ tables_1 ∧ Cond.instanceMethod q.1 ∈ tables_1
theorem lw_p0 : lw_okq (⟨"ModuleCheck$Input", "add", "(I)V"⟩, 6) := ⟨⟨by decide +kernel, by decide +kernel⟩, List.mem_of_getElem? (i := 31) (by decide +kernel), List.mem_of_getElem? (i := 336) (by decide +kernel), List.mem_of_getElem? (i := 337) (by decide +kernel)⟩
theorem lw_p1 : lw_okq (⟨"ModuleCheck$Sections", "begin", "()V"⟩, 6) := ⟨⟨by decide +kernel, by decide +kernel⟩, List.mem_of_getElem? (i := 173) (by decide +kernel), List.mem_of_getElem? (i := 348) (by decide +kernel), List.mem_of_getElem? (i := 349) (by decide +kernel)⟩
theorem lw_p2 : lw_okq (⟨"ModuleCheck$Input", "restart", "()V"⟩, 6) := ⟨⟨by decide +kernel, by decide +kernel⟩, List.mem_of_getElem? (i := 31) (by decide +kernel), List.mem_of_getElem? (i := 352) (by decide +kernel), List.mem_of_getElem? (i := 353) (by decide +kernel)⟩
theorem lw_p3 : lw_okq (⟨"ModuleCheck$Facts", "clear", "()V"⟩, 15) := ⟨⟨by decide +kernel, by decide +kernel⟩, List.mem_of_getElem? (i := 67) (by decide +kernel), List.mem_of_getElem? (i := 356) (by decide +kernel), List.mem_of_getElem? (i := 357) (by decide +kernel)⟩
theorem lw_p4 : lw_okq (⟨"ModuleCheck$Bodies", "begin", "()V"⟩, 7) := ⟨⟨by decide +kernel, by decide +kernel⟩, List.mem_of_getElem? (i := 179) (by decide +kernel), List.mem_of_getElem? (i := 361) (by decide +kernel), List.mem_of_getElem? (i := 362) (by decide +kernel)⟩
theorem lw_p5 : lw_okq (⟨"ModuleCheck$Input", "octetWithin", "(II)I"⟩, 6) := ⟨⟨by decide +kernel, by decide +kernel⟩, List.mem_of_getElem? (i := 31) (by decide +kernel), List.mem_of_getElem? (i := 367) (by decide +kernel), List.mem_of_getElem? (i := 368) (by decide +kernel)⟩
theorem lw_p6 : lw_okq (⟨"ModuleCheck$Input", "octet", "()I"⟩, 6) := ⟨⟨by decide +kernel, by decide +kernel⟩, List.mem_of_getElem? (i := 31) (by decide +kernel), List.mem_of_getElem? (i := 371) (by decide +kernel), List.mem_of_getElem? (i := 372) (by decide +kernel)⟩
theorem lw_p7 : lw_okq (⟨"ModuleCheck$Input", "fail", "(II)V"⟩, 6) := ⟨⟨by decide +kernel, by decide +kernel⟩, List.mem_of_getElem? (i := 31) (by decide +kernel), List.mem_of_getElem? (i := 375) (by decide +kernel), List.mem_of_getElem? (i := 376) (by decide +kernel)⟩
theorem lw_p8 : lw_okq (⟨"ModuleCheck$Sections", "areMore", "()Z"⟩, 6) := ⟨⟨by decide +kernel, by decide +kernel⟩, List.mem_of_getElem? (i := 173) (by decide +kernel), List.mem_of_getElem? (i := 379) (by decide +kernel), List.mem_of_getElem? (i := 380) (by decide +kernel)⟩
theorem lw_p9 : lw_okq (⟨"ModuleCheck$Sections", "readSection", "()V"⟩, 6) := ⟨⟨by decide +kernel, by decide +kernel⟩, List.mem_of_getElem? (i := 173) (by decide +kernel), List.mem_of_getElem? (i := 383) (by decide +kernel), List.mem_of_getElem? (i := 384) (by decide +kernel)⟩
theorem lw_p10 : lw_okq (⟨"ModuleCheck$Sections", "readSectionNumber", "()I"⟩, 6) := ⟨⟨by decide +kernel, by decide +kernel⟩, List.mem_of_getElem? (i := 173) (by decide +kernel), List.mem_of_getElem? (i := 387) (by decide +kernel), List.mem_of_getElem? (i := 388) (by decide +kernel)⟩
theorem lw_p11 : lw_okq (⟨"ModuleCheck$Input", "enter", "()I"⟩, 6) := ⟨⟨by decide +kernel, by decide +kernel⟩, List.mem_of_getElem? (i := 31) (by decide +kernel), List.mem_of_getElem? (i := 394) (by decide +kernel), List.mem_of_getElem? (i := 395) (by decide +kernel)⟩
theorem lw_p12 : lw_okq (⟨"ModuleCheck$Input", "length", "()I"⟩, 6) := ⟨⟨by decide +kernel, by decide +kernel⟩, List.mem_of_getElem? (i := 31) (by decide +kernel), List.mem_of_getElem? (i := 398) (by decide +kernel), List.mem_of_getElem? (i := 399) (by decide +kernel)⟩
theorem lw_p13 : lw_okq (⟨"ModuleCheck$Input", "number", "()J"⟩, 6) := ⟨⟨by decide +kernel, by decide +kernel⟩, List.mem_of_getElem? (i := 31) (by decide +kernel), List.mem_of_getElem? (i := 402) (by decide +kernel), List.mem_of_getElem? (i := 403) (by decide +kernel)⟩
theorem lw_p14 : lw_okq (⟨"ModuleCheck$Input", "rowLength", "()I"⟩, 6) := ⟨⟨by decide +kernel, by decide +kernel⟩, List.mem_of_getElem? (i := 31) (by decide +kernel), List.mem_of_getElem? (i := 409) (by decide +kernel), List.mem_of_getElem? (i := 410) (by decide +kernel)⟩
theorem lw_p15 : lw_okq (⟨"ModuleCheck$Sections", "refuseBeyond", "(II)V"⟩, 6) := ⟨⟨by decide +kernel, by decide +kernel⟩, List.mem_of_getElem? (i := 173) (by decide +kernel), List.mem_of_getElem? (i := 419) (by decide +kernel), List.mem_of_getElem? (i := 420) (by decide +kernel)⟩
def lw_privs_1 : List (MethodName × Nat) := [(⟨"ModuleCheck$Input", "add", "(I)V"⟩, 6), (⟨"ModuleCheck$Sections", "begin", "()V"⟩, 6), (⟨"ModuleCheck$Input", "restart", "()V"⟩, 6), (⟨"ModuleCheck$Facts", "clear", "()V"⟩, 15), (⟨"ModuleCheck$Bodies", "begin", "()V"⟩, 7), (⟨"ModuleCheck$Input", "octetWithin", "(II)I"⟩, 6), (⟨"ModuleCheck$Input", "octet", "()I"⟩, 6), (⟨"ModuleCheck$Input", "fail", "(II)V"⟩, 6), (⟨"ModuleCheck$Sections", "areMore", "()Z"⟩, 6), (⟨"ModuleCheck$Sections", "readSection", "()V"⟩, 6), (⟨"ModuleCheck$Sections", "readSectionNumber", "()I"⟩, 6), (⟨"ModuleCheck$Input", "enter", "()I"⟩, 6), (⟨"ModuleCheck$Input", "length", "()I"⟩, 6), (⟨"ModuleCheck$Input", "number", "()J"⟩, 6), (⟨"ModuleCheck$Input", "rowLength", "()I"⟩, 6), (⟨"ModuleCheck$Sections", "refuseBeyond", "(II)V"⟩, 6)]
theorem lw_r1 : ∀ q ∈ lw_privs_1, lw_okq q := List.forall_mem_cons.mpr ⟨lw_p0, List.forall_mem_cons.mpr ⟨lw_p1, List.forall_mem_cons.mpr ⟨lw_p2, List.forall_mem_cons.mpr ⟨lw_p3, List.forall_mem_cons.mpr ⟨lw_p4, List.forall_mem_cons.mpr ⟨lw_p5, List.forall_mem_cons.mpr ⟨lw_p6, List.forall_mem_cons.mpr ⟨lw_p7, List.forall_mem_cons.mpr ⟨lw_p8, List.forall_mem_cons.mpr ⟨lw_p9, List.forall_mem_cons.mpr ⟨lw_p10, List.forall_mem_cons.mpr ⟨lw_p11, List.forall_mem_cons.mpr ⟨lw_p12, List.forall_mem_cons.mpr ⟨lw_p13, List.forall_mem_cons.mpr ⟨lw_p14, List.forall_mem_cons.mpr ⟨lw_p15, fun _ h => absurd h List.not_mem_nil⟩⟩⟩⟩⟩⟩⟩⟩⟩⟩⟩⟩⟩⟩⟩⟩
theorem lw_p16 : lw_okq (⟨"ModuleCheck$Sections", "readSignature", "()V"⟩, 6) := ⟨⟨by decide +kernel, by decide +kernel⟩, List.mem_of_getElem? (i := 173) (by decide +kernel), List.mem_of_getElem? (i := 423) (by decide +kernel), List.mem_of_getElem? (i := 424) (by decide +kernel)⟩
theorem lw_p17 : lw_okq (⟨"ModuleCheck$Input", "type", "()I"⟩, 6) := ⟨⟨by decide +kernel, by decide +kernel⟩, List.mem_of_getElem? (i := 31) (by decide +kernel), List.mem_of_getElem? (i := 427) (by decide +kernel), List.mem_of_getElem? (i := 428) (by decide +kernel)⟩
theorem lw_p18 : lw_okq (⟨"ModuleCheck$Facts", "addParameter", "(II)V"⟩, 15) := ⟨⟨by decide +kernel, by decide +kernel⟩, List.mem_of_getElem? (i := 67) (by decide +kernel), List.mem_of_getElem? (i := 432) (by decide +kernel), List.mem_of_getElem? (i := 433) (by decide +kernel)⟩
theorem lw_p19 : lw_okq (⟨"ModuleCheck$Sections", "readImport", "()V"⟩, 6) := ⟨⟨by decide +kernel, by decide +kernel⟩, List.mem_of_getElem? (i := 173) (by decide +kernel), List.mem_of_getElem? (i := 436) (by decide +kernel), List.mem_of_getElem? (i := 437) (by decide +kernel)⟩
theorem lw_p20 : lw_okq (⟨"ModuleCheck$Input", "outerName", "()I"⟩, 6) := ⟨⟨by decide +kernel, by decide +kernel⟩, List.mem_of_getElem? (i := 31) (by decide +kernel), List.mem_of_getElem? (i := 440) (by decide +kernel), List.mem_of_getElem? (i := 441) (by decide +kernel)⟩
theorem lw_p21 : lw_okq (⟨"ModuleCheck$Input", "name", "()I"⟩, 6) := ⟨⟨by decide +kernel, by decide +kernel⟩, List.mem_of_getElem? (i := 31) (by decide +kernel), List.mem_of_getElem? (i := 444) (by decide +kernel), List.mem_of_getElem? (i := 445) (by decide +kernel)⟩
theorem lw_p22 : lw_okq (⟨"ModuleCheck$Sections", "readSignatureOfFunction", "(I)V"⟩, 6) := ⟨⟨by decide +kernel, by decide +kernel⟩, List.mem_of_getElem? (i := 173) (by decide +kernel), List.mem_of_getElem? (i := 449) (by decide +kernel), List.mem_of_getElem? (i := 450) (by decide +kernel)⟩
theorem lw_p23 : lw_okq (⟨"ModuleCheck$Facts", "noteWrong", "(II)V"⟩, 15) := ⟨⟨by decide +kernel, by decide +kernel⟩, List.mem_of_getElem? (i := 67) (by decide +kernel), List.mem_of_getElem? (i := 454) (by decide +kernel), List.mem_of_getElem? (i := 455) (by decide +kernel)⟩
theorem lw_p24 : lw_okq (⟨"ModuleCheck$Facts", "addFunction", "(J)V"⟩, 15) := ⟨⟨by decide +kernel, by decide +kernel⟩, List.mem_of_getElem? (i := 67) (by decide +kernel), List.mem_of_getElem? (i := 458) (by decide +kernel), List.mem_of_getElem? (i := 459) (by decide +kernel)⟩
theorem lw_p25 : lw_okq (⟨"ModuleCheck$Sections", "readLimits", "(IZ)V"⟩, 6) := ⟨⟨by decide +kernel, by decide +kernel⟩, List.mem_of_getElem? (i := 173) (by decide +kernel), List.mem_of_getElem? (i := 462) (by decide +kernel), List.mem_of_getElem? (i := 463) (by decide +kernel)⟩
theorem lw_p26 : lw_okq (⟨"ModuleCheck$Sections", "addTable", "(I)V"⟩, 6) := ⟨⟨by decide +kernel, by decide +kernel⟩, List.mem_of_getElem? (i := 173) (by decide +kernel), List.mem_of_getElem? (i := 467) (by decide +kernel), List.mem_of_getElem? (i := 468) (by decide +kernel)⟩
theorem lw_p27 : lw_okq (⟨"ModuleCheck$Sections", "addMemory", "(I)V"⟩, 6) := ⟨⟨by decide +kernel, by decide +kernel⟩, List.mem_of_getElem? (i := 173) (by decide +kernel), List.mem_of_getElem? (i := 471) (by decide +kernel), List.mem_of_getElem? (i := 472) (by decide +kernel)⟩
theorem lw_p28 : lw_okq (⟨"ModuleCheck$Facts", "addGlobal", "(IZ)V"⟩, 15) := ⟨⟨by decide +kernel, by decide +kernel⟩, List.mem_of_getElem? (i := 67) (by decide +kernel), List.mem_of_getElem? (i := 475) (by decide +kernel), List.mem_of_getElem? (i := 476) (by decide +kernel)⟩
theorem lw_p29 : lw_okq (⟨"ModuleCheck$Sections", "readTable", "()V"⟩, 6) := ⟨⟨by decide +kernel, by decide +kernel⟩, List.mem_of_getElem? (i := 173) (by decide +kernel), List.mem_of_getElem? (i := 479) (by decide +kernel), List.mem_of_getElem? (i := 480) (by decide +kernel)⟩
theorem lw_p30 : lw_okq (⟨"ModuleCheck$Sections", "readMemory", "()V"⟩, 6) := ⟨⟨by decide +kernel, by decide +kernel⟩, List.mem_of_getElem? (i := 173) (by decide +kernel), List.mem_of_getElem? (i := 483) (by decide +kernel), List.mem_of_getElem? (i := 484) (by decide +kernel)⟩
theorem lw_p31 : lw_okq (⟨"ModuleCheck$Sections", "readGlobal", "()V"⟩, 6) := ⟨⟨by decide +kernel, by decide +kernel⟩, List.mem_of_getElem? (i := 173) (by decide +kernel), List.mem_of_getElem? (i := 487) (by decide +kernel), List.mem_of_getElem? (i := 488) (by decide +kernel)⟩
def lw_privs_2 : List (MethodName × Nat) := [(⟨"ModuleCheck$Sections", "readSignature", "()V"⟩, 6), (⟨"ModuleCheck$Input", "type", "()I"⟩, 6), (⟨"ModuleCheck$Facts", "addParameter", "(II)V"⟩, 15), (⟨"ModuleCheck$Sections", "readImport", "()V"⟩, 6), (⟨"ModuleCheck$Input", "outerName", "()I"⟩, 6), (⟨"ModuleCheck$Input", "name", "()I"⟩, 6), (⟨"ModuleCheck$Sections", "readSignatureOfFunction", "(I)V"⟩, 6), (⟨"ModuleCheck$Facts", "noteWrong", "(II)V"⟩, 15), (⟨"ModuleCheck$Facts", "addFunction", "(J)V"⟩, 15), (⟨"ModuleCheck$Sections", "readLimits", "(IZ)V"⟩, 6), (⟨"ModuleCheck$Sections", "addTable", "(I)V"⟩, 6), (⟨"ModuleCheck$Sections", "addMemory", "(I)V"⟩, 6), (⟨"ModuleCheck$Facts", "addGlobal", "(IZ)V"⟩, 15), (⟨"ModuleCheck$Sections", "readTable", "()V"⟩, 6), (⟨"ModuleCheck$Sections", "readMemory", "()V"⟩, 6), (⟨"ModuleCheck$Sections", "readGlobal", "()V"⟩, 6)]
theorem lw_r2 : ∀ q ∈ lw_privs_2, lw_okq q := List.forall_mem_cons.mpr ⟨lw_p16, List.forall_mem_cons.mpr ⟨lw_p17, List.forall_mem_cons.mpr ⟨lw_p18, List.forall_mem_cons.mpr ⟨lw_p19, List.forall_mem_cons.mpr ⟨lw_p20, List.forall_mem_cons.mpr ⟨lw_p21, List.forall_mem_cons.mpr ⟨lw_p22, List.forall_mem_cons.mpr ⟨lw_p23, List.forall_mem_cons.mpr ⟨lw_p24, List.forall_mem_cons.mpr ⟨lw_p25, List.forall_mem_cons.mpr ⟨lw_p26, List.forall_mem_cons.mpr ⟨lw_p27, List.forall_mem_cons.mpr ⟨lw_p28, List.forall_mem_cons.mpr ⟨lw_p29, List.forall_mem_cons.mpr ⟨lw_p30, List.forall_mem_cons.mpr ⟨lw_p31, fun _ h => absurd h List.not_mem_nil⟩⟩⟩⟩⟩⟩⟩⟩⟩⟩⟩⟩⟩⟩⟩⟩
theorem lw_p32 : lw_okq (⟨"ModuleCheck$Sections", "readConstant", "(II)V"⟩, 6) := ⟨⟨by decide +kernel, by decide +kernel⟩, List.mem_of_getElem? (i := 173) (by decide +kernel), List.mem_of_getElem? (i := 491) (by decide +kernel), List.mem_of_getElem? (i := 492) (by decide +kernel)⟩
theorem lw_p33 : lw_okq (⟨"ModuleCheck$Input", "skipSigned", "(II)V"⟩, 6) := ⟨⟨by decide +kernel, by decide +kernel⟩, List.mem_of_getElem? (i := 31) (by decide +kernel), List.mem_of_getElem? (i := 496) (by decide +kernel), List.mem_of_getElem? (i := 497) (by decide +kernel)⟩
theorem lw_p34 : lw_okq (⟨"ModuleCheck$Facts", "isUnchangedImport", "(J)Z"⟩, 15) := ⟨⟨by decide +kernel, by decide +kernel⟩, List.mem_of_getElem? (i := 67) (by decide +kernel), List.mem_of_getElem? (i := 500) (by decide +kernel), List.mem_of_getElem? (i := 501) (by decide +kernel)⟩
theorem lw_p35 : lw_okq (⟨"ModuleCheck$Facts", "changesGlobal", "(I)Z"⟩, 15) := ⟨⟨by decide +kernel, by decide +kernel⟩, List.mem_of_getElem? (i := 67) (by decide +kernel), List.mem_of_getElem? (i := 504) (by decide +kernel), List.mem_of_getElem? (i := 505) (by decide +kernel)⟩
theorem lw_p36 : lw_okq (⟨"ModuleCheck$Facts", "typeOfGlobal", "(I)I"⟩, 15) := ⟨⟨by decide +kernel, by decide +kernel⟩, List.mem_of_getElem? (i := 67) (by decide +kernel), List.mem_of_getElem? (i := 508) (by decide +kernel), List.mem_of_getElem? (i := 509) (by decide +kernel)⟩
theorem lw_p37 : lw_okq (⟨"ModuleCheck$Sections", "readExport", "()V"⟩, 6) := ⟨⟨by decide +kernel, by decide +kernel⟩, List.mem_of_getElem? (i := 173) (by decide +kernel), List.mem_of_getElem? (i := 512) (by decide +kernel), List.mem_of_getElem? (i := 513) (by decide +kernel)⟩
theorem lw_p38 : lw_okq (⟨"ModuleCheck$Facts", "countOfKind", "(I)I"⟩, 15) := ⟨⟨by decide +kernel, by decide +kernel⟩, List.mem_of_getElem? (i := 67) (by decide +kernel), List.mem_of_getElem? (i := 516) (by decide +kernel), List.mem_of_getElem? (i := 517) (by decide +kernel)⟩
theorem lw_p39 : lw_okq (⟨"ModuleCheck$Sections", "isExported", "(II)Z"⟩, 6) := ⟨⟨by decide +kernel, by decide +kernel⟩, List.mem_of_getElem? (i := 173) (by decide +kernel), List.mem_of_getElem? (i := 520) (by decide +kernel), List.mem_of_getElem? (i := 521) (by decide +kernel)⟩
theorem lw_p40 : lw_okq (⟨"ModuleCheck$Input", "sameBytes", "(III)Z"⟩, 6) := ⟨⟨by decide +kernel, by decide +kernel⟩, List.mem_of_getElem? (i := 31) (by decide +kernel), List.mem_of_getElem? (i := 524) (by decide +kernel), List.mem_of_getElem? (i := 525) (by decide +kernel)⟩
theorem lw_p41 : lw_okq (⟨"ModuleCheck$Sections", "readStart", "()V"⟩, 6) := ⟨⟨by decide +kernel, by decide +kernel⟩, List.mem_of_getElem? (i := 173) (by decide +kernel), List.mem_of_getElem? (i := 528) (by decide +kernel), List.mem_of_getElem? (i := 529) (by decide +kernel)⟩
theorem lw_p42 : lw_okq (⟨"ModuleCheck$Facts", "signatureOf", "(J)I"⟩, 15) := ⟨⟨by decide +kernel, by decide +kernel⟩, List.mem_of_getElem? (i := 67) (by decide +kernel), List.mem_of_getElem? (i := 532) (by decide +kernel), List.mem_of_getElem? (i := 533) (by decide +kernel)⟩
theorem lw_p43 : lw_okq (⟨"ModuleCheck$Facts", "parameterCount", "(I)I"⟩, 15) := ⟨⟨by decide +kernel, by decide +kernel⟩, List.mem_of_getElem? (i := 67) (by decide +kernel), List.mem_of_getElem? (i := 536) (by decide +kernel), List.mem_of_getElem? (i := 537) (by decide +kernel)⟩
theorem lw_p44 : lw_okq (⟨"ModuleCheck$Facts", "resultOf", "(I)I"⟩, 15) := ⟨⟨by decide +kernel, by decide +kernel⟩, List.mem_of_getElem? (i := 67) (by decide +kernel), List.mem_of_getElem? (i := 540) (by decide +kernel), List.mem_of_getElem? (i := 541) (by decide +kernel)⟩
theorem lw_p45 : lw_okq (⟨"ModuleCheck$Sections", "readElement", "()V"⟩, 6) := ⟨⟨by decide +kernel, by decide +kernel⟩, List.mem_of_getElem? (i := 173) (by decide +kernel), List.mem_of_getElem? (i := 544) (by decide +kernel), List.mem_of_getElem? (i := 545) (by decide +kernel)⟩
theorem lw_p46 : lw_okq (⟨"ModuleCheck$Sections", "readRowOfFunctions", "()V"⟩, 6) := ⟨⟨by decide +kernel, by decide +kernel⟩, List.mem_of_getElem? (i := 173) (by decide +kernel), List.mem_of_getElem? (i := 548) (by decide +kernel), List.mem_of_getElem? (i := 549) (by decide +kernel)⟩
theorem lw_p47 : lw_okq (⟨"ModuleCheck$Bodies", "readBody", "(I)V"⟩, 7) := ⟨⟨by decide +kernel, by decide +kernel⟩, List.mem_of_getElem? (i := 179) (by decide +kernel), List.mem_of_getElem? (i := 552) (by decide +kernel), List.mem_of_getElem? (i := 553) (by decide +kernel)⟩
def lw_privs_3 : List (MethodName × Nat) := [(⟨"ModuleCheck$Sections", "readConstant", "(II)V"⟩, 6), (⟨"ModuleCheck$Input", "skipSigned", "(II)V"⟩, 6), (⟨"ModuleCheck$Facts", "isUnchangedImport", "(J)Z"⟩, 15), (⟨"ModuleCheck$Facts", "changesGlobal", "(I)Z"⟩, 15), (⟨"ModuleCheck$Facts", "typeOfGlobal", "(I)I"⟩, 15), (⟨"ModuleCheck$Sections", "readExport", "()V"⟩, 6), (⟨"ModuleCheck$Facts", "countOfKind", "(I)I"⟩, 15), (⟨"ModuleCheck$Sections", "isExported", "(II)Z"⟩, 6), (⟨"ModuleCheck$Input", "sameBytes", "(III)Z"⟩, 6), (⟨"ModuleCheck$Sections", "readStart", "()V"⟩, 6), (⟨"ModuleCheck$Facts", "signatureOf", "(J)I"⟩, 15), (⟨"ModuleCheck$Facts", "parameterCount", "(I)I"⟩, 15), (⟨"ModuleCheck$Facts", "resultOf", "(I)I"⟩, 15), (⟨"ModuleCheck$Sections", "readElement", "()V"⟩, 6), (⟨"ModuleCheck$Sections", "readRowOfFunctions", "()V"⟩, 6), (⟨"ModuleCheck$Bodies", "readBody", "(I)V"⟩, 7)]
theorem lw_r3 : ∀ q ∈ lw_privs_3, lw_okq q := List.forall_mem_cons.mpr ⟨lw_p32, List.forall_mem_cons.mpr ⟨lw_p33, List.forall_mem_cons.mpr ⟨lw_p34, List.forall_mem_cons.mpr ⟨lw_p35, List.forall_mem_cons.mpr ⟨lw_p36, List.forall_mem_cons.mpr ⟨lw_p37, List.forall_mem_cons.mpr ⟨lw_p38, List.forall_mem_cons.mpr ⟨lw_p39, List.forall_mem_cons.mpr ⟨lw_p40, List.forall_mem_cons.mpr ⟨lw_p41, List.forall_mem_cons.mpr ⟨lw_p42, List.forall_mem_cons.mpr ⟨lw_p43, List.forall_mem_cons.mpr ⟨lw_p44, List.forall_mem_cons.mpr ⟨lw_p45, List.forall_mem_cons.mpr ⟨lw_p46, List.forall_mem_cons.mpr ⟨lw_p47, fun _ h => absurd h List.not_mem_nil⟩⟩⟩⟩⟩⟩⟩⟩⟩⟩⟩⟩⟩⟩⟩⟩
theorem lw_p48 : lw_okq (⟨"ModuleCheck$Typing", "begin", "(I)V"⟩, 4) := ⟨⟨by decide +kernel, by decide +kernel⟩, List.mem_of_getElem? (i := 248) (by decide +kernel), List.mem_of_getElem? (i := 558) (by decide +kernel), List.mem_of_getElem? (i := 559) (by decide +kernel)⟩
theorem lw_p49 : lw_okq (⟨"ModuleCheck$Frames", "begin", "(I)V"⟩, 8) := ⟨⟨by decide +kernel, by decide +kernel⟩, List.mem_of_getElem? (i := 185) (by decide +kernel), List.mem_of_getElem? (i := 563) (by decide +kernel), List.mem_of_getElem? (i := 564) (by decide +kernel)⟩
theorem lw_p50 : lw_okq (⟨"ModuleCheck$Frames", "open", "(II)V"⟩, 8) := ⟨⟨by decide +kernel, by decide +kernel⟩, List.mem_of_getElem? (i := 185) (by decide +kernel), List.mem_of_getElem? (i := 567) (by decide +kernel), List.mem_of_getElem? (i := 568) (by decide +kernel)⟩
theorem lw_p51 : lw_okq (⟨"ModuleCheck$Facts", "parameter", "(II)I"⟩, 15) := ⟨⟨by decide +kernel, by decide +kernel⟩, List.mem_of_getElem? (i := 67) (by decide +kernel), List.mem_of_getElem? (i := 572) (by decide +kernel), List.mem_of_getElem? (i := 573) (by decide +kernel)⟩
theorem lw_p52 : lw_okq (⟨"ModuleCheck$Typing", "addLocals", "(II)V"⟩, 4) := ⟨⟨by decide +kernel, by decide +kernel⟩, List.mem_of_getElem? (i := 248) (by decide +kernel), List.mem_of_getElem? (i := 576) (by decide +kernel), List.mem_of_getElem? (i := 577) (by decide +kernel)⟩
theorem lw_p53 : lw_okq (⟨"ModuleCheck$Bodies", "readGroups", "()V"⟩, 7) := ⟨⟨by decide +kernel, by decide +kernel⟩, List.mem_of_getElem? (i := 179) (by decide +kernel), List.mem_of_getElem? (i := 580) (by decide +kernel), List.mem_of_getElem? (i := 581) (by decide +kernel)⟩
theorem lw_p54 : lw_okq (⟨"ModuleCheck$Answers", "beginBody", "(II)V"⟩, 8) := ⟨⟨by decide +kernel, by decide +kernel⟩, List.mem_of_getElem? (i := 138) (by decide +kernel), List.mem_of_getElem? (i := 590) (by decide +kernel), List.mem_of_getElem? (i := 591) (by decide +kernel)⟩
theorem lw_p55 : lw_okq (⟨"ModuleCheck$Bodies", "readInstruction", "()V"⟩, 7) := ⟨⟨by decide +kernel, by decide +kernel⟩, List.mem_of_getElem? (i := 179) (by decide +kernel), List.mem_of_getElem? (i := 594) (by decide +kernel), List.mem_of_getElem? (i := 595) (by decide +kernel)⟩
theorem lw_p56 : lw_okq (⟨"ModuleCheck$Instruction", "readNumber", "(LModuleCheck$Input;)V"⟩, 5) := ⟨⟨by decide +kernel, by decide +kernel⟩, List.mem_of_getElem? (i := 218) (by decide +kernel), List.mem_of_getElem? (i := 598) (by decide +kernel), List.mem_of_getElem? (i := 599) (by decide +kernel)⟩
theorem lw_p57 : lw_okq (⟨"ModuleCheck$Bodies", "lookWhereItStands", "()V"⟩, 7) := ⟨⟨by decide +kernel, by decide +kernel⟩, List.mem_of_getElem? (i := 179) (by decide +kernel), List.mem_of_getElem? (i := 612) (by decide +kernel), List.mem_of_getElem? (i := 613) (by decide +kernel)⟩
theorem lw_p58 : lw_okq (⟨"ModuleCheck$Frames", "openedBy", "()I"⟩, 8) := ⟨⟨by decide +kernel, by decide +kernel⟩, List.mem_of_getElem? (i := 185) (by decide +kernel), List.mem_of_getElem? (i := 616) (by decide +kernel), List.mem_of_getElem? (i := 617) (by decide +kernel)⟩
theorem lw_p59 : lw_okq (⟨"ModuleCheck$Instruction", "readLabels", "(LModuleCheck$Input;)V"⟩, 5) := ⟨⟨by decide +kernel, by decide +kernel⟩, List.mem_of_getElem? (i := 218) (by decide +kernel), List.mem_of_getElem? (i := 620) (by decide +kernel), List.mem_of_getElem? (i := 621) (by decide +kernel)⟩
theorem lw_p60 : lw_okq (⟨"ModuleCheck$Instruction", "readArguments", "(LModuleCheck$Input;)V"⟩, 5) := ⟨⟨by decide +kernel, by decide +kernel⟩, List.mem_of_getElem? (i := 218) (by decide +kernel), List.mem_of_getElem? (i := 625) (by decide +kernel), List.mem_of_getElem? (i := 626) (by decide +kernel)⟩
theorem lw_p61 : lw_okq (⟨"ModuleCheck$Input", "blockType", "()I"⟩, 6) := ⟨⟨by decide +kernel, by decide +kernel⟩, List.mem_of_getElem? (i := 31) (by decide +kernel), List.mem_of_getElem? (i := 629) (by decide +kernel), List.mem_of_getElem? (i := 630) (by decide +kernel)⟩
theorem lw_p62 : lw_okq (⟨"ModuleCheck$Answers", "addCode", "(I)V"⟩, 8) := ⟨⟨by decide +kernel, by decide +kernel⟩, List.mem_of_getElem? (i := 138) (by decide +kernel), List.mem_of_getElem? (i := 635) (by decide +kernel), List.mem_of_getElem? (i := 636) (by decide +kernel)⟩
theorem lw_p63 : lw_okq (⟨"ModuleCheck$Typing", "isRight", "(LModuleCheck$Instruction;)Z"⟩, 4) := ⟨⟨by decide +kernel, by decide +kernel⟩, List.mem_of_getElem? (i := 248) (by decide +kernel), List.mem_of_getElem? (i := 639) (by decide +kernel), List.mem_of_getElem? (i := 640) (by decide +kernel)⟩
def lw_privs_4 : List (MethodName × Nat) := [(⟨"ModuleCheck$Typing", "begin", "(I)V"⟩, 4), (⟨"ModuleCheck$Frames", "begin", "(I)V"⟩, 8), (⟨"ModuleCheck$Frames", "open", "(II)V"⟩, 8), (⟨"ModuleCheck$Facts", "parameter", "(II)I"⟩, 15), (⟨"ModuleCheck$Typing", "addLocals", "(II)V"⟩, 4), (⟨"ModuleCheck$Bodies", "readGroups", "()V"⟩, 7), (⟨"ModuleCheck$Answers", "beginBody", "(II)V"⟩, 8), (⟨"ModuleCheck$Bodies", "readInstruction", "()V"⟩, 7), (⟨"ModuleCheck$Instruction", "readNumber", "(LModuleCheck$Input;)V"⟩, 5), (⟨"ModuleCheck$Bodies", "lookWhereItStands", "()V"⟩, 7), (⟨"ModuleCheck$Frames", "openedBy", "()I"⟩, 8), (⟨"ModuleCheck$Instruction", "readLabels", "(LModuleCheck$Input;)V"⟩, 5), (⟨"ModuleCheck$Instruction", "readArguments", "(LModuleCheck$Input;)V"⟩, 5), (⟨"ModuleCheck$Input", "blockType", "()I"⟩, 6), (⟨"ModuleCheck$Answers", "addCode", "(I)V"⟩, 8), (⟨"ModuleCheck$Typing", "isRight", "(LModuleCheck$Instruction;)Z"⟩, 4)]
theorem lw_r4 : ∀ q ∈ lw_privs_4, lw_okq q := List.forall_mem_cons.mpr ⟨lw_p48, List.forall_mem_cons.mpr ⟨lw_p49, List.forall_mem_cons.mpr ⟨lw_p50, List.forall_mem_cons.mpr ⟨lw_p51, List.forall_mem_cons.mpr ⟨lw_p52, List.forall_mem_cons.mpr ⟨lw_p53, List.forall_mem_cons.mpr ⟨lw_p54, List.forall_mem_cons.mpr ⟨lw_p55, List.forall_mem_cons.mpr ⟨lw_p56, List.forall_mem_cons.mpr ⟨lw_p57, List.forall_mem_cons.mpr ⟨lw_p58, List.forall_mem_cons.mpr ⟨lw_p59, List.forall_mem_cons.mpr ⟨lw_p60, List.forall_mem_cons.mpr ⟨lw_p61, List.forall_mem_cons.mpr ⟨lw_p62, List.forall_mem_cons.mpr ⟨lw_p63, fun _ h => absurd h List.not_mem_nil⟩⟩⟩⟩⟩⟩⟩⟩⟩⟩⟩⟩⟩⟩⟩⟩
theorem lw_p64 : lw_okq (⟨"ModuleCheck$Typing", "followFrame", "(I)V"⟩, 4) := ⟨⟨by decide +kernel, by decide +kernel⟩, List.mem_of_getElem? (i := 248) (by decide +kernel), List.mem_of_getElem? (i := 643) (by decide +kernel), List.mem_of_getElem? (i := 644) (by decide +kernel)⟩
theorem lw_p65 : lw_okq (⟨"ModuleCheck$Frames", "forget", "()V"⟩, 8) := ⟨⟨by decide +kernel, by decide +kernel⟩, List.mem_of_getElem? (i := 185) (by decide +kernel), List.mem_of_getElem? (i := 647) (by decide +kernel), List.mem_of_getElem? (i := 648) (by decide +kernel)⟩
theorem lw_p66 : lw_okq (⟨"ModuleCheck$Frames", "take", "(I)I"⟩, 8) := ⟨⟨by decide +kernel, by decide +kernel⟩, List.mem_of_getElem? (i := 185) (by decide +kernel), List.mem_of_getElem? (i := 651) (by decide +kernel), List.mem_of_getElem? (i := 652) (by decide +kernel)⟩
theorem lw_p67 : lw_okq (⟨"ModuleCheck$Frames", "result", "()I"⟩, 8) := ⟨⟨by decide +kernel, by decide +kernel⟩, List.mem_of_getElem? (i := 185) (by decide +kernel), List.mem_of_getElem? (i := 656) (by decide +kernel), List.mem_of_getElem? (i := 657) (by decide +kernel)⟩
theorem lw_p68 : lw_okq (⟨"ModuleCheck$Frames", "demand", "(Z)V"⟩, 8) := ⟨⟨by decide +kernel, by decide +kernel⟩, List.mem_of_getElem? (i := 185) (by decide +kernel), List.mem_of_getElem? (i := 660) (by decide +kernel), List.mem_of_getElem? (i := 661) (by decide +kernel)⟩
theorem lw_p69 : lw_okq (⟨"ModuleCheck$Frames", "isEmpty", "()Z"⟩, 8) := ⟨⟨by decide +kernel, by decide +kernel⟩, List.mem_of_getElem? (i := 185) (by decide +kernel), List.mem_of_getElem? (i := 664) (by decide +kernel), List.mem_of_getElem? (i := 665) (by decide +kernel)⟩
theorem lw_p70 : lw_okq (⟨"ModuleCheck$Typing", "followTable", "(LModuleCheck$Instruction;)V"⟩, 4) := ⟨⟨by decide +kernel, by decide +kernel⟩, List.mem_of_getElem? (i := 248) (by decide +kernel), List.mem_of_getElem? (i := 668) (by decide +kernel), List.mem_of_getElem? (i := 669) (by decide +kernel)⟩
theorem lw_p71 : lw_okq (⟨"ModuleCheck$Frames", "labelType", "(J)I"⟩, 8) := ⟨⟨by decide +kernel, by decide +kernel⟩, List.mem_of_getElem? (i := 185) (by decide +kernel), List.mem_of_getElem? (i := 672) (by decide +kernel), List.mem_of_getElem? (i := 673) (by decide +kernel)⟩
theorem lw_p72 : lw_okq (⟨"ModuleCheck$Typing", "followLeap", "(IJ)V"⟩, 4) := ⟨⟨by decide +kernel, by decide +kernel⟩, List.mem_of_getElem? (i := 248) (by decide +kernel), List.mem_of_getElem? (i := 676) (by decide +kernel), List.mem_of_getElem? (i := 677) (by decide +kernel)⟩
theorem lw_p73 : lw_okq (⟨"ModuleCheck$Frames", "bodyResult", "()I"⟩, 8) := ⟨⟨by decide +kernel, by decide +kernel⟩, List.mem_of_getElem? (i := 185) (by decide +kernel), List.mem_of_getElem? (i := 680) (by decide +kernel), List.mem_of_getElem? (i := 681) (by decide +kernel)⟩
theorem lw_p74 : lw_okq (⟨"ModuleCheck$Frames", "leave", "(I)V"⟩, 8) := ⟨⟨by decide +kernel, by decide +kernel⟩, List.mem_of_getElem? (i := 185) (by decide +kernel), List.mem_of_getElem? (i := 684) (by decide +kernel), List.mem_of_getElem? (i := 685) (by decide +kernel)⟩
theorem lw_p75 : lw_okq (⟨"ModuleCheck$Typing", "followCall", "(IJ)V"⟩, 4) := ⟨⟨by decide +kernel, by decide +kernel⟩, List.mem_of_getElem? (i := 248) (by decide +kernel), List.mem_of_getElem? (i := 688) (by decide +kernel), List.mem_of_getElem? (i := 689) (by decide +kernel)⟩
theorem lw_p76 : lw_okq (⟨"ModuleCheck$Typing", "followChoice", "(I)V"⟩, 4) := ⟨⟨by decide +kernel, by decide +kernel⟩, List.mem_of_getElem? (i := 248) (by decide +kernel), List.mem_of_getElem? (i := 693) (by decide +kernel), List.mem_of_getElem? (i := 694) (by decide +kernel)⟩
theorem lw_p77 : lw_okq (⟨"ModuleCheck$Typing", "followLocal", "(IJ)V"⟩, 4) := ⟨⟨by decide +kernel, by decide +kernel⟩, List.mem_of_getElem? (i := 248) (by decide +kernel), List.mem_of_getElem? (i := 697) (by decide +kernel), List.mem_of_getElem? (i := 698) (by decide +kernel)⟩
theorem lw_p78 : lw_okq (⟨"ModuleCheck$Typing", "followGlobal", "(IJ)V"⟩, 4) := ⟨⟨by decide +kernel, by decide +kernel⟩, List.mem_of_getElem? (i := 248) (by decide +kernel), List.mem_of_getElem? (i := 701) (by decide +kernel), List.mem_of_getElem? (i := 702) (by decide +kernel)⟩
theorem lw_p79 : lw_okq (⟨"ModuleCheck$Typing", "followAccess", "(IJ)V"⟩, 4) := ⟨⟨by decide +kernel, by decide +kernel⟩, List.mem_of_getElem? (i := 248) (by decide +kernel), List.mem_of_getElem? (i := 707) (by decide +kernel), List.mem_of_getElem? (i := 708) (by decide +kernel)⟩
def lw_privs_5 : List (MethodName × Nat) := [(⟨"ModuleCheck$Typing", "followFrame", "(I)V"⟩, 4), (⟨"ModuleCheck$Frames", "forget", "()V"⟩, 8), (⟨"ModuleCheck$Frames", "take", "(I)I"⟩, 8), (⟨"ModuleCheck$Frames", "result", "()I"⟩, 8), (⟨"ModuleCheck$Frames", "demand", "(Z)V"⟩, 8), (⟨"ModuleCheck$Frames", "isEmpty", "()Z"⟩, 8), (⟨"ModuleCheck$Typing", "followTable", "(LModuleCheck$Instruction;)V"⟩, 4), (⟨"ModuleCheck$Frames", "labelType", "(J)I"⟩, 8), (⟨"ModuleCheck$Typing", "followLeap", "(IJ)V"⟩, 4), (⟨"ModuleCheck$Frames", "bodyResult", "()I"⟩, 8), (⟨"ModuleCheck$Frames", "leave", "(I)V"⟩, 8), (⟨"ModuleCheck$Typing", "followCall", "(IJ)V"⟩, 4), (⟨"ModuleCheck$Typing", "followChoice", "(I)V"⟩, 4), (⟨"ModuleCheck$Typing", "followLocal", "(IJ)V"⟩, 4), (⟨"ModuleCheck$Typing", "followGlobal", "(IJ)V"⟩, 4), (⟨"ModuleCheck$Typing", "followAccess", "(IJ)V"⟩, 4)]
theorem lw_r5 : ∀ q ∈ lw_privs_5, lw_okq q := List.forall_mem_cons.mpr ⟨lw_p64, List.forall_mem_cons.mpr ⟨lw_p65, List.forall_mem_cons.mpr ⟨lw_p66, List.forall_mem_cons.mpr ⟨lw_p67, List.forall_mem_cons.mpr ⟨lw_p68, List.forall_mem_cons.mpr ⟨lw_p69, List.forall_mem_cons.mpr ⟨lw_p70, List.forall_mem_cons.mpr ⟨lw_p71, List.forall_mem_cons.mpr ⟨lw_p72, List.forall_mem_cons.mpr ⟨lw_p73, List.forall_mem_cons.mpr ⟨lw_p74, List.forall_mem_cons.mpr ⟨lw_p75, List.forall_mem_cons.mpr ⟨lw_p76, List.forall_mem_cons.mpr ⟨lw_p77, List.forall_mem_cons.mpr ⟨lw_p78, List.forall_mem_cons.mpr ⟨lw_p79, fun _ h => absurd h List.not_mem_nil⟩⟩⟩⟩⟩⟩⟩⟩⟩⟩⟩⟩⟩⟩⟩⟩
theorem lw_p80 : lw_okq (⟨"ModuleCheck$Typing", "followSize", "(I)V"⟩, 4) := ⟨⟨by decide +kernel, by decide +kernel⟩, List.mem_of_getElem? (i := 248) (by decide +kernel), List.mem_of_getElem? (i := 713) (by decide +kernel), List.mem_of_getElem? (i := 714) (by decide +kernel)⟩
theorem lw_p81 : lw_okq (⟨"ModuleCheck$Typing", "followPlain", "(I)V"⟩, 4) := ⟨⟨by decide +kernel, by decide +kernel⟩, List.mem_of_getElem? (i := 248) (by decide +kernel), List.mem_of_getElem? (i := 717) (by decide +kernel), List.mem_of_getElem? (i := 718) (by decide +kernel)⟩
theorem lw_p82 : lw_okq (⟨"ModuleCheck$Typing", "followLonger", "(IJ)V"⟩, 4) := ⟨⟨by decide +kernel, by decide +kernel⟩, List.mem_of_getElem? (i := 248) (by decide +kernel), List.mem_of_getElem? (i := 730) (by decide +kernel), List.mem_of_getElem? (i := 731) (by decide +kernel)⟩
theorem lw_p83 : lw_okq (⟨"ModuleCheck$Bodies", "turnFrames", "()V"⟩, 7) := ⟨⟨by decide +kernel, by decide +kernel⟩, List.mem_of_getElem? (i := 179) (by decide +kernel), List.mem_of_getElem? (i := 735) (by decide +kernel), List.mem_of_getElem? (i := 736) (by decide +kernel)⟩
theorem lw_p84 : lw_okq (⟨"ModuleCheck$Frames", "turnToElse", "()V"⟩, 8) := ⟨⟨by decide +kernel, by decide +kernel⟩, List.mem_of_getElem? (i := 185) (by decide +kernel), List.mem_of_getElem? (i := 740) (by decide +kernel), List.mem_of_getElem? (i := 741) (by decide +kernel)⟩
theorem lw_p85 : lw_okq (⟨"ModuleCheck$Frames", "close", "()V"⟩, 8) := ⟨⟨by decide +kernel, by decide +kernel⟩, List.mem_of_getElem? (i := 185) (by decide +kernel), List.mem_of_getElem? (i := 744) (by decide +kernel), List.mem_of_getElem? (i := 745) (by decide +kernel)⟩
theorem lw_p86 : lw_okq (⟨"ModuleCheck$Answers", "endBody", "(I)V"⟩, 8) := ⟨⟨by decide +kernel, by decide +kernel⟩, List.mem_of_getElem? (i := 138) (by decide +kernel), List.mem_of_getElem? (i := 749) (by decide +kernel), List.mem_of_getElem? (i := 750) (by decide +kernel)⟩
theorem lw_p87 : lw_okq (⟨"ModuleCheck$Input", "leave", "(I)V"⟩, 6) := ⟨⟨by decide +kernel, by decide +kernel⟩, List.mem_of_getElem? (i := 31) (by decide +kernel), List.mem_of_getElem? (i := 753) (by decide +kernel), List.mem_of_getElem? (i := 754) (by decide +kernel)⟩
theorem lw_p88 : lw_okq (⟨"ModuleCheck$Sections", "readData", "()V"⟩, 6) := ⟨⟨by decide +kernel, by decide +kernel⟩, List.mem_of_getElem? (i := 173) (by decide +kernel), List.mem_of_getElem? (i := 757) (by decide +kernel), List.mem_of_getElem? (i := 758) (by decide +kernel)⟩
theorem lw_p89 : lw_okq (⟨"ModuleCheck$Input", "skipRest", "()V"⟩, 6) := ⟨⟨by decide +kernel, by decide +kernel⟩, List.mem_of_getElem? (i := 31) (by decide +kernel), List.mem_of_getElem? (i := 763) (by decide +kernel), List.mem_of_getElem? (i := 764) (by decide +kernel)⟩
theorem lw_p90 : lw_okq (⟨"ModuleCheck$Sections", "fit", "(I)V"⟩, 6) := ⟨⟨by decide +kernel, by decide +kernel⟩, List.mem_of_getElem? (i := 173) (by decide +kernel), List.mem_of_getElem? (i := 771) (by decide +kernel), List.mem_of_getElem? (i := 772) (by decide +kernel)⟩
theorem lw_p91 : lw_okq (⟨"ModuleCheck$Sections", "finish", "()V"⟩, 6) := ⟨⟨by decide +kernel, by decide +kernel⟩, List.mem_of_getElem? (i := 173) (by decide +kernel), List.mem_of_getElem? (i := 775) (by decide +kernel), List.mem_of_getElem? (i := 776) (by decide +kernel)⟩
theorem lw_p92 : lw_okq (⟨"ModuleCheck$Facts", "firstWrong", "()I"⟩, 15) := ⟨⟨by decide +kernel, by decide +kernel⟩, List.mem_of_getElem? (i := 67) (by decide +kernel), List.mem_of_getElem? (i := 779) (by decide +kernel), List.mem_of_getElem? (i := 780) (by decide +kernel)⟩
theorem lw_p93 : lw_okq (⟨"ModuleCheck$Answers", "fillCounts", "(LModuleCheck$Facts;)V"⟩, 8) := ⟨⟨by decide +kernel, by decide +kernel⟩, List.mem_of_getElem? (i := 138) (by decide +kernel), List.mem_of_getElem? (i := 783) (by decide +kernel), List.mem_of_getElem? (i := 784) (by decide +kernel)⟩
theorem lw_p94 : lw_okq (⟨"ModuleCheck$Answers", "copy", "(LModuleCheck$Answers;)V"⟩, 8) := ⟨⟨by decide +kernel, by decide +kernel⟩, List.mem_of_getElem? (i := 138) (by decide +kernel), List.mem_of_getElem? (i := 787) (by decide +kernel), List.mem_of_getElem? (i := 788) (by decide +kernel)⟩
theorem lw_p95 : lw_okq (⟨"ModuleCheck$Answers", "countOf", "(I)I"⟩, 8) := ⟨⟨by decide +kernel, by decide +kernel⟩, List.mem_of_getElem? (i := 138) (by decide +kernel), List.mem_of_getElem? (i := 806) (by decide +kernel), List.mem_of_getElem? (i := 807) (by decide +kernel)⟩
def lw_privs_6 : List (MethodName × Nat) := [(⟨"ModuleCheck$Typing", "followSize", "(I)V"⟩, 4), (⟨"ModuleCheck$Typing", "followPlain", "(I)V"⟩, 4), (⟨"ModuleCheck$Typing", "followLonger", "(IJ)V"⟩, 4), (⟨"ModuleCheck$Bodies", "turnFrames", "()V"⟩, 7), (⟨"ModuleCheck$Frames", "turnToElse", "()V"⟩, 8), (⟨"ModuleCheck$Frames", "close", "()V"⟩, 8), (⟨"ModuleCheck$Answers", "endBody", "(I)V"⟩, 8), (⟨"ModuleCheck$Input", "leave", "(I)V"⟩, 6), (⟨"ModuleCheck$Sections", "readData", "()V"⟩, 6), (⟨"ModuleCheck$Input", "skipRest", "()V"⟩, 6), (⟨"ModuleCheck$Sections", "fit", "(I)V"⟩, 6), (⟨"ModuleCheck$Sections", "finish", "()V"⟩, 6), (⟨"ModuleCheck$Facts", "firstWrong", "()I"⟩, 15), (⟨"ModuleCheck$Answers", "fillCounts", "(LModuleCheck$Facts;)V"⟩, 8), (⟨"ModuleCheck$Answers", "copy", "(LModuleCheck$Answers;)V"⟩, 8), (⟨"ModuleCheck$Answers", "countOf", "(I)I"⟩, 8)]
theorem lw_r6 : ∀ q ∈ lw_privs_6, lw_okq q := List.forall_mem_cons.mpr ⟨lw_p80, List.forall_mem_cons.mpr ⟨lw_p81, List.forall_mem_cons.mpr ⟨lw_p82, List.forall_mem_cons.mpr ⟨lw_p83, List.forall_mem_cons.mpr ⟨lw_p84, List.forall_mem_cons.mpr ⟨lw_p85, List.forall_mem_cons.mpr ⟨lw_p86, List.forall_mem_cons.mpr ⟨lw_p87, List.forall_mem_cons.mpr ⟨lw_p88, List.forall_mem_cons.mpr ⟨lw_p89, List.forall_mem_cons.mpr ⟨lw_p90, List.forall_mem_cons.mpr ⟨lw_p91, List.forall_mem_cons.mpr ⟨lw_p92, List.forall_mem_cons.mpr ⟨lw_p93, List.forall_mem_cons.mpr ⟨lw_p94, List.forall_mem_cons.mpr ⟨lw_p95, fun _ h => absurd h List.not_mem_nil⟩⟩⟩⟩⟩⟩⟩⟩⟩⟩⟩⟩⟩⟩⟩⟩
theorem lw_p96 : lw_okq (⟨"ModuleCheck$Answers", "has", "(I)Z"⟩, 8) := ⟨⟨by decide +kernel, by decide +kernel⟩, List.mem_of_getElem? (i := 138) (by decide +kernel), List.mem_of_getElem? (i := 814) (by decide +kernel), List.mem_of_getElem? (i := 815) (by decide +kernel)⟩
theorem lw_p97 : lw_okq (⟨"ModuleCheck$Answers", "codeAt", "(II)I"⟩, 8) := ⟨⟨by decide +kernel, by decide +kernel⟩, List.mem_of_getElem? (i := 138) (by decide +kernel), List.mem_of_getElem? (i := 822) (by decide +kernel), List.mem_of_getElem? (i := 823) (by decide +kernel)⟩
theorem lw_p98 : lw_okq (⟨"java/lang/Throwable", "fillInStackTrace", "(I)Ljava/lang/Throwable;"⟩, 6) := ⟨⟨by decide +kernel, by decide +kernel⟩, List.mem_of_getElem? (i := 1096) (by decide +kernel), List.mem_of_getElem? (i := 1094) (by decide +kernel), List.mem_of_getElem? (i := 1095) (by decide +kernel)⟩
theorem lw_p99 : lw_okq (⟨"ModuleCheckModel", "word", "(I)V"⟩, 32) := ⟨⟨by decide +kernel, by decide +kernel⟩, List.mem_of_getElem? (i := 831) (by decide +kernel), List.mem_of_getElem? (i := 1223) (by decide +kernel), List.mem_of_getElem? (i := 1224) (by decide +kernel)⟩
theorem lw_p100 : lw_okq (⟨"ModuleCheckModel", "read", "(LModuleCheckModel$Module;)V"⟩, 32) := ⟨⟨by decide +kernel, by decide +kernel⟩, List.mem_of_getElem? (i := 831) (by decide +kernel), List.mem_of_getElem? (i := 1235) (by decide +kernel), List.mem_of_getElem? (i := 1236) (by decide +kernel)⟩
theorem lw_p101 : lw_okq (⟨"ModuleCheckModel", "needOctet", "(I)V"⟩, 32) := ⟨⟨by decide +kernel, by decide +kernel⟩, List.mem_of_getElem? (i := 831) (by decide +kernel), List.mem_of_getElem? (i := 1242) (by decide +kernel), List.mem_of_getElem? (i := 1243) (by decide +kernel)⟩
theorem lw_p102 : lw_okq (⟨"ModuleCheckModel", "octet", "()I"⟩, 32) := ⟨⟨by decide +kernel, by decide +kernel⟩, List.mem_of_getElem? (i := 831) (by decide +kernel), List.mem_of_getElem? (i := 1246) (by decide +kernel), List.mem_of_getElem? (i := 1247) (by decide +kernel)⟩
theorem lw_p103 : lw_okq (⟨"ModuleCheckModel", "wrong", "(II)Ljava/lang/IllegalStateException;"⟩, 32) := ⟨⟨by decide +kernel, by decide +kernel⟩, List.mem_of_getElem? (i := 831) (by decide +kernel), List.mem_of_getElem? (i := 1250) (by decide +kernel), List.mem_of_getElem? (i := 1251) (by decide +kernel)⟩
theorem lw_p104 : lw_okq (⟨"ModuleCheckModel", "u", "()J"⟩, 32) := ⟨⟨by decide +kernel, by decide +kernel⟩, List.mem_of_getElem? (i := 831) (by decide +kernel), List.mem_of_getElem? (i := 1306) (by decide +kernel), List.mem_of_getElem? (i := 1307) (by decide +kernel)⟩
theorem lw_p105 : lw_okq (⟨"ModuleCheckModel", "nameItem", "(Z)V"⟩, 32) := ⟨⟨by decide +kernel, by decide +kernel⟩, List.mem_of_getElem? (i := 831) (by decide +kernel), List.mem_of_getElem? (i := 1310) (by decide +kernel), List.mem_of_getElem? (i := 1311) (by decide +kernel)⟩
theorem lw_p106 : lw_okq (⟨"ModuleCheckModel", "section", "(LModuleCheckModel$Module;I)V"⟩, 32) := ⟨⟨by decide +kernel, by decide +kernel⟩, List.mem_of_getElem? (i := 831) (by decide +kernel), List.mem_of_getElem? (i := 1316) (by decide +kernel), List.mem_of_getElem? (i := 1317) (by decide +kernel)⟩
theorem lw_p107 : lw_okq (⟨"ModuleCheckModel", "signature", "(LModuleCheckModel$Module;)V"⟩, 32) := ⟨⟨by decide +kernel, by decide +kernel⟩, List.mem_of_getElem? (i := 831) (by decide +kernel), List.mem_of_getElem? (i := 1322) (by decide +kernel), List.mem_of_getElem? (i := 1323) (by decide +kernel)⟩
theorem lw_p108 : lw_okq (⟨"ModuleCheckModel", "type", "()I"⟩, 32) := ⟨⟨by decide +kernel, by decide +kernel⟩, List.mem_of_getElem? (i := 831) (by decide +kernel), List.mem_of_getElem? (i := 1327) (by decide +kernel), List.mem_of_getElem? (i := 1328) (by decide +kernel)⟩
theorem lw_p109 : lw_okq (⟨"ModuleCheckModel", "importLine", "(LModuleCheckModel$Module;)V"⟩, 32) := ⟨⟨by decide +kernel, by decide +kernel⟩, List.mem_of_getElem? (i := 831) (by decide +kernel), List.mem_of_getElem? (i := 1331) (by decide +kernel), List.mem_of_getElem? (i := 1332) (by decide +kernel)⟩
theorem lw_p110 : lw_okq (⟨"ModuleCheckModel", "flag", "()Z"⟩, 32) := ⟨⟨by decide +kernel, by decide +kernel⟩, List.mem_of_getElem? (i := 831) (by decide +kernel), List.mem_of_getElem? (i := 1335) (by decide +kernel), List.mem_of_getElem? (i := 1336) (by decide +kernel)⟩
theorem lw_p111 : lw_okq (⟨"ModuleCheckModel", "limits", "()V"⟩, 32) := ⟨⟨by decide +kernel, by decide +kernel⟩, List.mem_of_getElem? (i := 831) (by decide +kernel), List.mem_of_getElem? (i := 1339) (by decide +kernel), List.mem_of_getElem? (i := 1340) (by decide +kernel)⟩
def lw_privs_7 : List (MethodName × Nat) := [(⟨"ModuleCheck$Answers", "has", "(I)Z"⟩, 8), (⟨"ModuleCheck$Answers", "codeAt", "(II)I"⟩, 8), (⟨"java/lang/Throwable", "fillInStackTrace", "(I)Ljava/lang/Throwable;"⟩, 6), (⟨"ModuleCheckModel", "word", "(I)V"⟩, 32), (⟨"ModuleCheckModel", "read", "(LModuleCheckModel$Module;)V"⟩, 32), (⟨"ModuleCheckModel", "needOctet", "(I)V"⟩, 32), (⟨"ModuleCheckModel", "octet", "()I"⟩, 32), (⟨"ModuleCheckModel", "wrong", "(II)Ljava/lang/IllegalStateException;"⟩, 32), (⟨"ModuleCheckModel", "u", "()J"⟩, 32), (⟨"ModuleCheckModel", "nameItem", "(Z)V"⟩, 32), (⟨"ModuleCheckModel", "section", "(LModuleCheckModel$Module;I)V"⟩, 32), (⟨"ModuleCheckModel", "signature", "(LModuleCheckModel$Module;)V"⟩, 32), (⟨"ModuleCheckModel", "type", "()I"⟩, 32), (⟨"ModuleCheckModel", "importLine", "(LModuleCheckModel$Module;)V"⟩, 32), (⟨"ModuleCheckModel", "flag", "()Z"⟩, 32), (⟨"ModuleCheckModel", "limits", "()V"⟩, 32)]
theorem lw_r7 : ∀ q ∈ lw_privs_7, lw_okq q := List.forall_mem_cons.mpr ⟨lw_p96, List.forall_mem_cons.mpr ⟨lw_p97, List.forall_mem_cons.mpr ⟨lw_p98, List.forall_mem_cons.mpr ⟨lw_p99, List.forall_mem_cons.mpr ⟨lw_p100, List.forall_mem_cons.mpr ⟨lw_p101, List.forall_mem_cons.mpr ⟨lw_p102, List.forall_mem_cons.mpr ⟨lw_p103, List.forall_mem_cons.mpr ⟨lw_p104, List.forall_mem_cons.mpr ⟨lw_p105, List.forall_mem_cons.mpr ⟨lw_p106, List.forall_mem_cons.mpr ⟨lw_p107, List.forall_mem_cons.mpr ⟨lw_p108, List.forall_mem_cons.mpr ⟨lw_p109, List.forall_mem_cons.mpr ⟨lw_p110, List.forall_mem_cons.mpr ⟨lw_p111, fun _ h => absurd h List.not_mem_nil⟩⟩⟩⟩⟩⟩⟩⟩⟩⟩⟩⟩⟩⟩⟩⟩
theorem lw_p112 : lw_okq (⟨"ModuleCheckModel", "ownLimits", "(LModuleCheckModel$Module;I)V"⟩, 32) := ⟨⟨by decide +kernel, by decide +kernel⟩, List.mem_of_getElem? (i := 831) (by decide +kernel), List.mem_of_getElem? (i := 1344) (by decide +kernel), List.mem_of_getElem? (i := 1345) (by decide +kernel)⟩
theorem lw_p113 : lw_okq (⟨"ModuleCheckModel", "globalLine", "(LModuleCheckModel$Module;)V"⟩, 32) := ⟨⟨by decide +kernel, by decide +kernel⟩, List.mem_of_getElem? (i := 831) (by decide +kernel), List.mem_of_getElem? (i := 1348) (by decide +kernel), List.mem_of_getElem? (i := 1349) (by decide +kernel)⟩
theorem lw_p114 : lw_okq (⟨"ModuleCheckModel", "constant", "()I"⟩, 32) := ⟨⟨by decide +kernel, by decide +kernel⟩, List.mem_of_getElem? (i := 831) (by decide +kernel), List.mem_of_getElem? (i := 1352) (by decide +kernel), List.mem_of_getElem? (i := 1353) (by decide +kernel)⟩
theorem lw_p115 : lw_okq (⟨"ModuleCheckModel", "s", "()I"⟩, 32) := ⟨⟨by decide +kernel, by decide +kernel⟩, List.mem_of_getElem? (i := 831) (by decide +kernel), List.mem_of_getElem? (i := 1356) (by decide +kernel), List.mem_of_getElem? (i := 1357) (by decide +kernel)⟩
theorem lw_p116 : lw_okq (⟨"ModuleCheckModel", "signed", "(III)J"⟩, 32) := ⟨⟨by decide +kernel, by decide +kernel⟩, List.mem_of_getElem? (i := 831) (by decide +kernel), List.mem_of_getElem? (i := 1360) (by decide +kernel), List.mem_of_getElem? (i := 1361) (by decide +kernel)⟩
theorem lw_p117 : lw_okq (⟨"ModuleCheckModel", "l", "()J"⟩, 32) := ⟨⟨by decide +kernel, by decide +kernel⟩, List.mem_of_getElem? (i := 831) (by decide +kernel), List.mem_of_getElem? (i := 1364) (by decide +kernel), List.mem_of_getElem? (i := 1365) (by decide +kernel)⟩
theorem lw_p118 : lw_okq (⟨"ModuleCheckModel", "exportLine", "(LModuleCheckModel$Module;)V"⟩, 32) := ⟨⟨by decide +kernel, by decide +kernel⟩, List.mem_of_getElem? (i := 831) (by decide +kernel), List.mem_of_getElem? (i := 1368) (by decide +kernel), List.mem_of_getElem? (i := 1369) (by decide +kernel)⟩
theorem lw_p119 : lw_okq (⟨"ModuleCheckModel", "elementLine", "(LModuleCheckModel$Module;)V"⟩, 32) := ⟨⟨by decide +kernel, by decide +kernel⟩, List.mem_of_getElem? (i := 831) (by decide +kernel), List.mem_of_getElem? (i := 1372) (by decide +kernel), List.mem_of_getElem? (i := 1373) (by decide +kernel)⟩
theorem lw_p120 : lw_okq (⟨"ModuleCheckModel", "body", "(LModuleCheckModel$Module;)V"⟩, 32) := ⟨⟨by decide +kernel, by decide +kernel⟩, List.mem_of_getElem? (i := 831) (by decide +kernel), List.mem_of_getElem? (i := 1377) (by decide +kernel), List.mem_of_getElem? (i := 1378) (by decide +kernel)⟩
theorem lw_p121 : lw_okq (⟨"ModuleCheckModel", "readCode", "()V"⟩, 32) := ⟨⟨by decide +kernel, by decide +kernel⟩, List.mem_of_getElem? (i := 831) (by decide +kernel), List.mem_of_getElem? (i := 1382) (by decide +kernel), List.mem_of_getElem? (i := 1383) (by decide +kernel)⟩
theorem lw_p122 : lw_okq (⟨"ModuleCheckModel", "operands", "(II)V"⟩, 32) := ⟨⟨by decide +kernel, by decide +kernel⟩, List.mem_of_getElem? (i := 831) (by decide +kernel), List.mem_of_getElem? (i := 1386) (by decide +kernel), List.mem_of_getElem? (i := 1387) (by decide +kernel)⟩
theorem lw_p123 : lw_okq (⟨"ModuleCheckModel", "blockType", "()I"⟩, 32) := ⟨⟨by decide +kernel, by decide +kernel⟩, List.mem_of_getElem? (i := 831) (by decide +kernel), List.mem_of_getElem? (i := 1399) (by decide +kernel), List.mem_of_getElem? (i := 1400) (by decide +kernel)⟩
theorem lw_p124 : lw_okq (⟨"ModuleCheckModel", "many", "(I)V"⟩, 32) := ⟨⟨by decide +kernel, by decide +kernel⟩, List.mem_of_getElem? (i := 831) (by decide +kernel), List.mem_of_getElem? (i := 1403) (by decide +kernel), List.mem_of_getElem? (i := 1404) (by decide +kernel)⟩
theorem lw_p125 : lw_okq (⟨"ModuleCheckModel", "dataLine", "(LModuleCheckModel$Module;)V"⟩, 32) := ⟨⟨by decide +kernel, by decide +kernel⟩, List.mem_of_getElem? (i := 831) (by decide +kernel), List.mem_of_getElem? (i := 1414) (by decide +kernel), List.mem_of_getElem? (i := 1415) (by decide +kernel)⟩
theorem lw_p126 : lw_okq (⟨"ModuleCheckModel", "means", "(LModuleCheckModel$Module;)V"⟩, 32) := ⟨⟨by decide +kernel, by decide +kernel⟩, List.mem_of_getElem? (i := 831) (by decide +kernel), List.mem_of_getElem? (i := 1418) (by decide +kernel), List.mem_of_getElem? (i := 1419) (by decide +kernel)⟩
theorem lw_p127 : lw_okq (⟨"ModuleCheckModel", "must", "(ZI)V"⟩, 32) := ⟨⟨by decide +kernel, by decide +kernel⟩, List.mem_of_getElem? (i := 831) (by decide +kernel), List.mem_of_getElem? (i := 1422) (by decide +kernel), List.mem_of_getElem? (i := 1423) (by decide +kernel)⟩
def lw_privs_8 : List (MethodName × Nat) := [(⟨"ModuleCheckModel", "ownLimits", "(LModuleCheckModel$Module;I)V"⟩, 32), (⟨"ModuleCheckModel", "globalLine", "(LModuleCheckModel$Module;)V"⟩, 32), (⟨"ModuleCheckModel", "constant", "()I"⟩, 32), (⟨"ModuleCheckModel", "s", "()I"⟩, 32), (⟨"ModuleCheckModel", "signed", "(III)J"⟩, 32), (⟨"ModuleCheckModel", "l", "()J"⟩, 32), (⟨"ModuleCheckModel", "exportLine", "(LModuleCheckModel$Module;)V"⟩, 32), (⟨"ModuleCheckModel", "elementLine", "(LModuleCheckModel$Module;)V"⟩, 32), (⟨"ModuleCheckModel", "body", "(LModuleCheckModel$Module;)V"⟩, 32), (⟨"ModuleCheckModel", "readCode", "()V"⟩, 32), (⟨"ModuleCheckModel", "operands", "(II)V"⟩, 32), (⟨"ModuleCheckModel", "blockType", "()I"⟩, 32), (⟨"ModuleCheckModel", "many", "(I)V"⟩, 32), (⟨"ModuleCheckModel", "dataLine", "(LModuleCheckModel$Module;)V"⟩, 32), (⟨"ModuleCheckModel", "means", "(LModuleCheckModel$Module;)V"⟩, 32), (⟨"ModuleCheckModel", "must", "(ZI)V"⟩, 32)]
theorem lw_r8 : ∀ q ∈ lw_privs_8, lw_okq q := List.forall_mem_cons.mpr ⟨lw_p112, List.forall_mem_cons.mpr ⟨lw_p113, List.forall_mem_cons.mpr ⟨lw_p114, List.forall_mem_cons.mpr ⟨lw_p115, List.forall_mem_cons.mpr ⟨lw_p116, List.forall_mem_cons.mpr ⟨lw_p117, List.forall_mem_cons.mpr ⟨lw_p118, List.forall_mem_cons.mpr ⟨lw_p119, List.forall_mem_cons.mpr ⟨lw_p120, List.forall_mem_cons.mpr ⟨lw_p121, List.forall_mem_cons.mpr ⟨lw_p122, List.forall_mem_cons.mpr ⟨lw_p123, List.forall_mem_cons.mpr ⟨lw_p124, List.forall_mem_cons.mpr ⟨lw_p125, List.forall_mem_cons.mpr ⟨lw_p126, List.forall_mem_cons.mpr ⟨lw_p127, fun _ h => absurd h List.not_mem_nil⟩⟩⟩⟩⟩⟩⟩⟩⟩⟩⟩⟩⟩⟩⟩⟩
theorem lw_p128 : lw_okq (⟨"ModuleCheckModel", "one", "(LModuleCheckModel$Module;II)V"⟩, 32) := ⟨⟨by decide +kernel, by decide +kernel⟩, List.mem_of_getElem? (i := 831) (by decide +kernel), List.mem_of_getElem? (i := 1430) (by decide +kernel), List.mem_of_getElem? (i := 1431) (by decide +kernel)⟩
theorem lw_p129 : lw_okq (⟨"ModuleCheckModel", "isConstant", "(LModuleCheckModel$Module;II)Z"⟩, 32) := ⟨⟨by decide +kernel, by decide +kernel⟩, List.mem_of_getElem? (i := 831) (by decide +kernel), List.mem_of_getElem? (i := 1437) (by decide +kernel), List.mem_of_getElem? (i := 1438) (by decide +kernel)⟩
theorem lw_p130 : lw_okq (⟨"ModuleCheckModel", "exported", "(LModuleCheckModel$Module;I)V"⟩, 32) := ⟨⟨by decide +kernel, by decide +kernel⟩, List.mem_of_getElem? (i := 831) (by decide +kernel), List.mem_of_getElem? (i := 1447) (by decide +kernel), List.mem_of_getElem? (i := 1448) (by decide +kernel)⟩
theorem lw_p131 : lw_okq (⟨"ModuleCheckModel", "isSame", "(IIII)Z"⟩, 32) := ⟨⟨by decide +kernel, by decide +kernel⟩, List.mem_of_getElem? (i := 831) (by decide +kernel), List.mem_of_getElem? (i := 1461) (by decide +kernel), List.mem_of_getElem? (i := 1462) (by decide +kernel)⟩
theorem lw_p132 : lw_okq (⟨"ModuleCheckModel", "checkBody", "(LModuleCheckModel$Module;I)V"⟩, 32) := ⟨⟨by decide +kernel, by decide +kernel⟩, List.mem_of_getElem? (i := 831) (by decide +kernel), List.mem_of_getElem? (i := 1474) (by decide +kernel), List.mem_of_getElem? (i := 1475) (by decide +kernel)⟩
theorem lw_p133 : lw_okq (⟨"ModuleCheckModel", "readLocals", "(II)V"⟩, 32) := ⟨⟨by decide +kernel, by decide +kernel⟩, List.mem_of_getElem? (i := 831) (by decide +kernel), List.mem_of_getElem? (i := 1478) (by decide +kernel), List.mem_of_getElem? (i := 1479) (by decide +kernel)⟩
theorem lw_p134 : lw_okq (⟨"ModuleCheckModel", "openFrame", "(III)V"⟩, 32) := ⟨⟨by decide +kernel, by decide +kernel⟩, List.mem_of_getElem? (i := 831) (by decide +kernel), List.mem_of_getElem? (i := 1485) (by decide +kernel), List.mem_of_getElem? (i := 1486) (by decide +kernel)⟩
theorem lw_p135 : lw_okq (⟨"ModuleCheckModel", "checkMany", "(LModuleCheckModel$Module;)V"⟩, 32) := ⟨⟨by decide +kernel, by decide +kernel⟩, List.mem_of_getElem? (i := 831) (by decide +kernel), List.mem_of_getElem? (i := 1489) (by decide +kernel), List.mem_of_getElem? (i := 1490) (by decide +kernel)⟩
theorem lw_p136 : lw_okq (⟨"ModuleCheckModel", "need", "(Z)V"⟩, 32) := ⟨⟨by decide +kernel, by decide +kernel⟩, List.mem_of_getElem? (i := 831) (by decide +kernel), List.mem_of_getElem? (i := 1493) (by decide +kernel), List.mem_of_getElem? (i := 1494) (by decide +kernel)⟩
theorem lw_p137 : lw_okq (⟨"ModuleCheckModel", "turns", "(III)V"⟩, 32) := ⟨⟨by decide +kernel, by decide +kernel⟩, List.mem_of_getElem? (i := 831) (by decide +kernel), List.mem_of_getElem? (i := 1497) (by decide +kernel), List.mem_of_getElem? (i := 1498) (by decide +kernel)⟩
theorem lw_p138 : lw_okq (⟨"ModuleCheckModel", "takes", "(I)I"⟩, 32) := ⟨⟨by decide +kernel, by decide +kernel⟩, List.mem_of_getElem? (i := 831) (by decide +kernel), List.mem_of_getElem? (i := 1501) (by decide +kernel), List.mem_of_getElem? (i := 1502) (by decide +kernel)⟩
theorem lw_p139 : lw_okq (⟨"ModuleCheckModel", "gives", "(I)V"⟩, 32) := ⟨⟨by decide +kernel, by decide +kernel⟩, List.mem_of_getElem? (i := 831) (by decide +kernel), List.mem_of_getElem? (i := 1505) (by decide +kernel), List.mem_of_getElem? (i := 1506) (by decide +kernel)⟩
theorem lw_p140 : lw_okq (⟨"ModuleCheckModel", "checkOne", "(LModuleCheckModel$Module;II)V"⟩, 32) := ⟨⟨by decide +kernel, by decide +kernel⟩, List.mem_of_getElem? (i := 831) (by decide +kernel), List.mem_of_getElem? (i := 1509) (by decide +kernel), List.mem_of_getElem? (i := 1510) (by decide +kernel)⟩
theorem lw_p141 : lw_okq (⟨"ModuleCheckModel", "rest", "()V"⟩, 32) := ⟨⟨by decide +kernel, by decide +kernel⟩, List.mem_of_getElem? (i := 831) (by decide +kernel), List.mem_of_getElem? (i := 1513) (by decide +kernel), List.mem_of_getElem? (i := 1514) (by decide +kernel)⟩
theorem lw_p142 : lw_okq (⟨"ModuleCheckModel", "closes", "()V"⟩, 32) := ⟨⟨by decide +kernel, by decide +kernel⟩, List.mem_of_getElem? (i := 831) (by decide +kernel), List.mem_of_getElem? (i := 1517) (by decide +kernel), List.mem_of_getElem? (i := 1518) (by decide +kernel)⟩
theorem lw_p143 : lw_okq (⟨"ModuleCheckModel", "label", "(J)I"⟩, 32) := ⟨⟨by decide +kernel, by decide +kernel⟩, List.mem_of_getElem? (i := 831) (by decide +kernel), List.mem_of_getElem? (i := 1521) (by decide +kernel), List.mem_of_getElem? (i := 1522) (by decide +kernel)⟩
def lw_privs_9 : List (MethodName × Nat) := [(⟨"ModuleCheckModel", "one", "(LModuleCheckModel$Module;II)V"⟩, 32), (⟨"ModuleCheckModel", "isConstant", "(LModuleCheckModel$Module;II)Z"⟩, 32), (⟨"ModuleCheckModel", "exported", "(LModuleCheckModel$Module;I)V"⟩, 32), (⟨"ModuleCheckModel", "isSame", "(IIII)Z"⟩, 32), (⟨"ModuleCheckModel", "checkBody", "(LModuleCheckModel$Module;I)V"⟩, 32), (⟨"ModuleCheckModel", "readLocals", "(II)V"⟩, 32), (⟨"ModuleCheckModel", "openFrame", "(III)V"⟩, 32), (⟨"ModuleCheckModel", "checkMany", "(LModuleCheckModel$Module;)V"⟩, 32), (⟨"ModuleCheckModel", "need", "(Z)V"⟩, 32), (⟨"ModuleCheckModel", "turns", "(III)V"⟩, 32), (⟨"ModuleCheckModel", "takes", "(I)I"⟩, 32), (⟨"ModuleCheckModel", "gives", "(I)V"⟩, 32), (⟨"ModuleCheckModel", "checkOne", "(LModuleCheckModel$Module;II)V"⟩, 32), (⟨"ModuleCheckModel", "rest", "()V"⟩, 32), (⟨"ModuleCheckModel", "closes", "()V"⟩, 32), (⟨"ModuleCheckModel", "label", "(J)I"⟩, 32)]
theorem lw_r9 : ∀ q ∈ lw_privs_9, lw_okq q := List.forall_mem_cons.mpr ⟨lw_p128, List.forall_mem_cons.mpr ⟨lw_p129, List.forall_mem_cons.mpr ⟨lw_p130, List.forall_mem_cons.mpr ⟨lw_p131, List.forall_mem_cons.mpr ⟨lw_p132, List.forall_mem_cons.mpr ⟨lw_p133, List.forall_mem_cons.mpr ⟨lw_p134, List.forall_mem_cons.mpr ⟨lw_p135, List.forall_mem_cons.mpr ⟨lw_p136, List.forall_mem_cons.mpr ⟨lw_p137, List.forall_mem_cons.mpr ⟨lw_p138, List.forall_mem_cons.mpr ⟨lw_p139, List.forall_mem_cons.mpr ⟨lw_p140, List.forall_mem_cons.mpr ⟨lw_p141, List.forall_mem_cons.mpr ⟨lw_p142, List.forall_mem_cons.mpr ⟨lw_p143, fun _ h => absurd h List.not_mem_nil⟩⟩⟩⟩⟩⟩⟩⟩⟩⟩⟩⟩⟩⟩⟩⟩
theorem lw_p144 : lw_okq (⟨"ModuleCheckModel", "labelRow", "()V"⟩, 32) := ⟨⟨by decide +kernel, by decide +kernel⟩, List.mem_of_getElem? (i := 831) (by decide +kernel), List.mem_of_getElem? (i := 1525) (by decide +kernel), List.mem_of_getElem? (i := 1526) (by decide +kernel)⟩
theorem lw_p145 : lw_okq (⟨"ModuleCheckModel", "calls", "(I)V"⟩, 32) := ⟨⟨by decide +kernel, by decide +kernel⟩, List.mem_of_getElem? (i := 831) (by decide +kernel), List.mem_of_getElem? (i := 1529) (by decide +kernel), List.mem_of_getElem? (i := 1530) (by decide +kernel)⟩
theorem lw_p146 : lw_okq (⟨"ModuleCheckModel", "access", "(LModuleCheckModel$Module;I)V"⟩, 32) := ⟨⟨by decide +kernel, by decide +kernel⟩, List.mem_of_getElem? (i := 831) (by decide +kernel), List.mem_of_getElem? (i := 1533) (by decide +kernel), List.mem_of_getElem? (i := 1534) (by decide +kernel)⟩
theorem lw_p147 : lw_okq (⟨"ModuleCheckModel", "numbers", "(I)V"⟩, 32) := ⟨⟨by decide +kernel, by decide +kernel⟩, List.mem_of_getElem? (i := 831) (by decide +kernel), List.mem_of_getElem? (i := 1543) (by decide +kernel), List.mem_of_getElem? (i := 1544) (by decide +kernel)⟩
theorem lw_p148 : lw_okq (⟨"ModuleCheckModel", "isOwn", "(I)Z"⟩, 32) := ⟨⟨by decide +kernel, by decide +kernel⟩, List.mem_of_getElem? (i := 831) (by decide +kernel), List.mem_of_getElem? (i := 1559) (by decide +kernel), List.mem_of_getElem? (i := 1560) (by decide +kernel)⟩
theorem lw_p149 : lw_okq (⟨"ModuleCheckModel", "walked", "(II)I"⟩, 32) := ⟨⟨by decide +kernel, by decide +kernel⟩, List.mem_of_getElem? (i := 831) (by decide +kernel), List.mem_of_getElem? (i := 1563) (by decide +kernel), List.mem_of_getElem? (i := 1564) (by decide +kernel)⟩
def lw_privs_10 : List (MethodName × Nat) := [(⟨"ModuleCheckModel", "labelRow", "()V"⟩, 32), (⟨"ModuleCheckModel", "calls", "(I)V"⟩, 32), (⟨"ModuleCheckModel", "access", "(LModuleCheckModel$Module;I)V"⟩, 32), (⟨"ModuleCheckModel", "numbers", "(I)V"⟩, 32), (⟨"ModuleCheckModel", "isOwn", "(I)Z"⟩, 32), (⟨"ModuleCheckModel", "walked", "(II)I"⟩, 32)]
theorem lw_r10 : ∀ q ∈ lw_privs_10, lw_okq q := List.forall_mem_cons.mpr ⟨lw_p144, List.forall_mem_cons.mpr ⟨lw_p145, List.forall_mem_cons.mpr ⟨lw_p146, List.forall_mem_cons.mpr ⟨lw_p147, List.forall_mem_cons.mpr ⟨lw_p148, List.forall_mem_cons.mpr ⟨lw_p149, fun _ h => absurd h List.not_mem_nil⟩⟩⟩⟩⟩⟩
def lw_privs : List (MethodName × Nat) := lw_privs_1 ++ (lw_privs_2 ++ (lw_privs_3 ++ (lw_privs_4 ++ (lw_privs_5 ++ (lw_privs_6 ++ (lw_privs_7 ++ (lw_privs_8 ++ (lw_privs_9 ++ (lw_privs_10)))))))))
def lw_tbl : List Cond := k2_sels lw_privs ++ tables_1
theorem lw_privs_ok : ∀ q ∈ lw_privs, lw_okq q := by
  show ∀ q ∈ lw_privs_1 ++ (lw_privs_2 ++ (lw_privs_3 ++ (lw_privs_4 ++ (lw_privs_5 ++ (lw_privs_6 ++ (lw_privs_7 ++ (lw_privs_8 ++ (lw_privs_9 ++ (lw_privs_10))))))))), lw_okq q
  exact List.forall_mem_append.mpr ⟨lw_r1, List.forall_mem_append.mpr ⟨lw_r2, List.forall_mem_append.mpr ⟨lw_r3, List.forall_mem_append.mpr ⟨lw_r4, List.forall_mem_append.mpr ⟨lw_r5, List.forall_mem_append.mpr ⟨lw_r6, List.forall_mem_append.mpr ⟨lw_r7, List.forall_mem_append.mpr ⟨lw_r8, List.forall_mem_append.mpr ⟨lw_r9, lw_r10⟩⟩⟩⟩⟩⟩⟩⟩⟩
def RX0 : String := "ModuleCheck$Answers"
def TX0 : u_T := fun k => match k with
  | 0 => ("ModuleCheck$Answers", "counts", "[I", true)
  | 1 => ("ModuleCheck$Answers", "firstCodes", "[I", true)
  | 2 => ("ModuleCheck$Answers", "codeCounts", "[I", true)
  | 3 => ("ModuleCheck$Answers", "localCounts", "[I", true)
  | 4 => ("ModuleCheck$Answers", "codes", "[S", true)
  | 5 => ("ModuleCheck$Answers", "codesUsed", "I", false)
  | 6 => ("ModuleCheck$Answers", "functions", "I", false)
  | _ => ("ModuleCheck$Answers", "isFilled", "Z", false)
def tyX0 : Nat → FieldType := fun k => match k with
  | 0 => .array .int
  | 1 => .array .int
  | 2 => .array .int
  | 3 => .array .int
  | 4 => .array .short
  | 5 => .int
  | 6 => .int
  | _ => .boolean
abbrev wsX00 : List Cond := u_ws RX0 TX0 8
theorem nmX0 : ∀ a, a < 8 → ∀ b, b < 8 → a ≠ b → (TX0 a).2.1 ≠ (TX0 b).2.1 := by decide +kernel
theorem tyX0_ok : ∀ k, k < 8 → parseFieldDescriptor (TX0 k).2.2.1 = some (tyX0 k) := by decide +kernel
abbrev cX0_init : ByteArray := prog_2_method_1_code
def yX0_init : MethodName := ⟨RX0, "<init>", "()V"⟩
abbrev cX0_beginBody : ByteArray := prog_2_method_2_code
def yX0_beginBody : MethodName := ⟨RX0, "beginBody", "(II)V"⟩
abbrev cX0_addCode : ByteArray := prog_2_method_3_code
def yX0_addCode : MethodName := ⟨RX0, "addCode", "(I)V"⟩
abbrev cX0_endBody : ByteArray := prog_2_method_4_code
def yX0_endBody : MethodName := ⟨RX0, "endBody", "(I)V"⟩
abbrev cX0_fillCounts : ByteArray := prog_2_method_5_code
def yX0_fillCounts : MethodName := ⟨RX0, "fillCounts", "(LModuleCheck$Facts;)V"⟩
abbrev cX0_copy : ByteArray := prog_2_method_6_code
def yX0_copy : MethodName := ⟨RX0, "copy", "(LModuleCheck$Answers;)V"⟩
abbrev cX0_countOf : ByteArray := prog_2_method_7_code
def yX0_countOf : MethodName := ⟨RX0, "countOf", "(I)I"⟩
abbrev cX0_has : ByteArray := prog_2_method_8_code
def yX0_has : MethodName := ⟨RX0, "has", "(I)Z"⟩
abbrev cX0_codeAt : ByteArray := prog_2_method_9_code
def yX0_codeAt : MethodName := ⟨RX0, "codeAt", "(II)I"⟩
def RX1 : String := "ModuleCheck$Bodies"
def TX1 : u_T := fun k => match k with
  | 0 => ("ModuleCheck$Bodies", "in", "LModuleCheck$Input;", true)
  | 1 => ("ModuleCheck$Bodies", "facts", "LModuleCheck$Facts;", true)
  | 2 => ("ModuleCheck$Bodies", "frames", "LModuleCheck$Frames;", true)
  | 3 => ("ModuleCheck$Bodies", "next", "LModuleCheck$Instruction;", true)
  | 4 => ("ModuleCheck$Bodies", "typing", "LModuleCheck$Typing;", true)
  | 5 => ("ModuleCheck$Bodies", "answers", "LModuleCheck$Answers;", true)
  | _ => ("ModuleCheck$Bodies", "followed", "Z", false)
def tyX1 : Nat → FieldType := fun k => match k with
  | 0 => .object "ModuleCheck$Input"
  | 1 => .object "ModuleCheck$Facts"
  | 2 => .object "ModuleCheck$Frames"
  | 3 => .object "ModuleCheck$Instruction"
  | 4 => .object "ModuleCheck$Typing"
  | 5 => .object "ModuleCheck$Answers"
  | _ => .boolean
abbrev wsX10 : List Cond := u_ws RX1 TX1 7
theorem nmX1 : ∀ a, a < 7 → ∀ b, b < 7 → a ≠ b → (TX1 a).2.1 ≠ (TX1 b).2.1 := by decide +kernel
theorem tyX1_ok : ∀ k, k < 7 → parseFieldDescriptor (TX1 k).2.2.1 = some (tyX1 k) := by decide +kernel
abbrev cX1_init : ByteArray := prog_3_method_1_code
def yX1_init : MethodName := ⟨RX1, "<init>", "(LModuleCheck$Input;LModuleCheck$Facts;LModuleCheck$Answers;)V"⟩
abbrev cX1_begin : ByteArray := prog_3_method_2_code
def yX1_begin : MethodName := ⟨RX1, "begin", "()V"⟩
abbrev cX1_readBody : ByteArray := prog_3_method_3_code
def yX1_readBody : MethodName := ⟨RX1, "readBody", "(I)V"⟩
abbrev cX1_readGroups : ByteArray := prog_3_method_4_code
def yX1_readGroups : MethodName := ⟨RX1, "readGroups", "()V"⟩
abbrev cX1_readInstruction : ByteArray := prog_3_method_5_code
def yX1_readInstruction : MethodName := ⟨RX1, "readInstruction", "()V"⟩
abbrev cX1_lookWhereItStands : ByteArray := prog_3_method_6_code
def yX1_lookWhereItStands : MethodName := ⟨RX1, "lookWhereItStands", "()V"⟩
abbrev cX1_turnFrames : ByteArray := prog_3_method_7_code
def yX1_turnFrames : MethodName := ⟨RX1, "turnFrames", "()V"⟩
def RX2 : String := "ModuleCheck$Facts"
def TX2 : u_T := fun k => match k with
  | 0 => ("ModuleCheck$Facts", "parameterCounts", "[I", true)
  | 1 => ("ModuleCheck$Facts", "parameters", "[I", true)
  | 2 => ("ModuleCheck$Facts", "results", "[I", true)
  | 3 => ("ModuleCheck$Facts", "functionSignatures", "[I", true)
  | 4 => ("ModuleCheck$Facts", "globalTypes", "[I", true)
  | 5 => ("ModuleCheck$Facts", "globalChanges", "[Z", true)
  | 6 => ("ModuleCheck$Facts", "wrongAt", "[I", true)
  | 7 => ("ModuleCheck$Facts", "items", "[I", true)
  | 8 => ("ModuleCheck$Facts", "functions", "I", false)
  | 9 => ("ModuleCheck$Facts", "importedFunctions", "I", false)
  | 10 => ("ModuleCheck$Facts", "tables", "I", false)
  | 11 => ("ModuleCheck$Facts", "memories", "I", false)
  | 12 => ("ModuleCheck$Facts", "globals", "I", false)
  | 13 => ("ModuleCheck$Facts", "importedGlobals", "I", false)
  | _ => ("ModuleCheck$Facts", "toldData", "J", false)
def tyX2 : Nat → FieldType := fun k => match k with
  | 0 => .array .int
  | 1 => .array .int
  | 2 => .array .int
  | 3 => .array .int
  | 4 => .array .int
  | 5 => .array .boolean
  | 6 => .array .int
  | 7 => .array .int
  | 8 => .int
  | 9 => .int
  | 10 => .int
  | 11 => .int
  | 12 => .int
  | 13 => .int
  | _ => .long
abbrev wsX20 : List Cond := u_ws RX2 TX2 15
theorem nmX2 : ∀ a, a < 15 → ∀ b, b < 15 → a ≠ b → (TX2 a).2.1 ≠ (TX2 b).2.1 := by decide +kernel
theorem tyX2_ok : ∀ k, k < 15 → parseFieldDescriptor (TX2 k).2.2.1 = some (tyX2 k) := by decide +kernel
abbrev cX2_init : ByteArray := prog_4_method_1_code
def yX2_init : MethodName := ⟨RX2, "<init>", "()V"⟩
abbrev cX2_clear : ByteArray := prog_4_method_2_code
def yX2_clear : MethodName := ⟨RX2, "clear", "()V"⟩
abbrev cX2_noteWrong : ByteArray := prog_4_method_3_code
def yX2_noteWrong : MethodName := ⟨RX2, "noteWrong", "(II)V"⟩
abbrev cX2_firstWrong : ByteArray := prog_4_method_4_code
def yX2_firstWrong : MethodName := ⟨RX2, "firstWrong", "()I"⟩
abbrev cX2_addParameter : ByteArray := prog_4_method_5_code
def yX2_addParameter : MethodName := ⟨RX2, "addParameter", "(II)V"⟩
abbrev cX2_addFunction : ByteArray := prog_4_method_6_code
def yX2_addFunction : MethodName := ⟨RX2, "addFunction", "(J)V"⟩
abbrev cX2_addGlobal : ByteArray := prog_4_method_7_code
def yX2_addGlobal : MethodName := ⟨RX2, "addGlobal", "(IZ)V"⟩
abbrev cX2_signatureOf : ByteArray := prog_4_method_8_code
def yX2_signatureOf : MethodName := ⟨RX2, "signatureOf", "(J)I"⟩
abbrev cX2_parameterCount : ByteArray := prog_4_method_9_code
def yX2_parameterCount : MethodName := ⟨RX2, "parameterCount", "(I)I"⟩
abbrev cX2_parameter : ByteArray := prog_4_method_10_code
def yX2_parameter : MethodName := ⟨RX2, "parameter", "(II)I"⟩
abbrev cX2_resultOf : ByteArray := prog_4_method_11_code
def yX2_resultOf : MethodName := ⟨RX2, "resultOf", "(I)I"⟩
abbrev cX2_countOfKind : ByteArray := prog_4_method_12_code
def yX2_countOfKind : MethodName := ⟨RX2, "countOfKind", "(I)I"⟩
abbrev cX2_isUnchangedImport : ByteArray := prog_4_method_13_code
def yX2_isUnchangedImport : MethodName := ⟨RX2, "isUnchangedImport", "(J)Z"⟩
abbrev cX2_changesGlobal : ByteArray := prog_4_method_14_code
def yX2_changesGlobal : MethodName := ⟨RX2, "changesGlobal", "(I)Z"⟩
abbrev cX2_typeOfGlobal : ByteArray := prog_4_method_15_code
def yX2_typeOfGlobal : MethodName := ⟨RX2, "typeOfGlobal", "(I)I"⟩
def RX3 : String := "ModuleCheck$Frames"
def TX3 : u_T := fun k => match k with
  | 0 => ("ModuleCheck$Frames", "openers", "[I", true)
  | 1 => ("ModuleCheck$Frames", "results", "[I", true)
  | 2 => ("ModuleCheck$Frames", "bases", "[I", true)
  | 3 => ("ModuleCheck$Frames", "unknown", "[Z", true)
  | 4 => ("ModuleCheck$Frames", "types", "[B", true)
  | 5 => ("ModuleCheck$Frames", "depth", "I", false)
  | 6 => ("ModuleCheck$Frames", "height", "I", false)
  | _ => ("ModuleCheck$Frames", "right", "Z", false)
def tyX3 : Nat → FieldType := fun k => match k with
  | 0 => .array .int
  | 1 => .array .int
  | 2 => .array .int
  | 3 => .array .boolean
  | 4 => .array .byte
  | 5 => .int
  | 6 => .int
  | _ => .boolean
abbrev wsX30 : List Cond := u_ws RX3 TX3 8
theorem nmX3 : ∀ a, a < 8 → ∀ b, b < 8 → a ≠ b → (TX3 a).2.1 ≠ (TX3 b).2.1 := by decide +kernel
theorem tyX3_ok : ∀ k, k < 8 → parseFieldDescriptor (TX3 k).2.2.1 = some (tyX3 k) := by decide +kernel
abbrev cX3_init : ByteArray := prog_5_method_1_code
def yX3_init : MethodName := ⟨RX3, "<init>", "()V"⟩
abbrev cX3_begin : ByteArray := prog_5_method_2_code
def yX3_begin : MethodName := ⟨RX3, "begin", "(I)V"⟩
abbrev cX3_open : ByteArray := prog_5_method_3_code
def yX3_open : MethodName := ⟨RX3, "open", "(II)V"⟩
abbrev cX3_turnToElse : ByteArray := prog_5_method_4_code
def yX3_turnToElse : MethodName := ⟨RX3, "turnToElse", "()V"⟩
abbrev cX3_close : ByteArray := prog_5_method_5_code
def yX3_close : MethodName := ⟨RX3, "close", "()V"⟩
abbrev cX3_openedBy : ByteArray := prog_5_method_6_code
def yX3_openedBy : MethodName := ⟨RX3, "openedBy", "()I"⟩
abbrev cX3_result : ByteArray := prog_5_method_7_code
def yX3_result : MethodName := ⟨RX3, "result", "()I"⟩
abbrev cX3_bodyResult : ByteArray := prog_5_method_8_code
def yX3_bodyResult : MethodName := ⟨RX3, "bodyResult", "()I"⟩
abbrev cX3_isEmpty : ByteArray := prog_5_method_9_code
def yX3_isEmpty : MethodName := ⟨RX3, "isEmpty", "()Z"⟩
abbrev cX3_labelType : ByteArray := prog_5_method_10_code
def yX3_labelType : MethodName := ⟨RX3, "labelType", "(J)I"⟩
abbrev cX3_demand : ByteArray := prog_5_method_11_code
def yX3_demand : MethodName := ⟨RX3, "demand", "(Z)V"⟩
abbrev cX3_forget : ByteArray := prog_5_method_12_code
def yX3_forget : MethodName := ⟨RX3, "forget", "()V"⟩
abbrev cX3_leave : ByteArray := prog_5_method_13_code
def yX3_leave : MethodName := ⟨RX3, "leave", "(I)V"⟩
abbrev cX3_take : ByteArray := prog_5_method_14_code
def yX3_take : MethodName := ⟨RX3, "take", "(I)I"⟩
def RX4 : String := "ModuleCheck$Input"
def TX4 : u_T := fun k => match k with
  | 0 => ("ModuleCheck$Input", "bytes", "[B", true)
  | 1 => ("ModuleCheck$Input", "size", "I", false)
  | 2 => ("ModuleCheck$Input", "at", "I", false)
  | 3 => ("ModuleCheck$Input", "end", "I", false)
  | 4 => ("ModuleCheck$Input", "fault", "I", false)
  | _ => ("ModuleCheck$Input", "faultAt", "I", false)
def tyX4 : Nat → FieldType := fun k => match k with
  | 0 => .array .byte
  | 1 => .int
  | 2 => .int
  | 3 => .int
  | 4 => .int
  | _ => .int
abbrev wsX40 : List Cond := u_ws RX4 TX4 6
theorem nmX4 : ∀ a, a < 6 → ∀ b, b < 6 → a ≠ b → (TX4 a).2.1 ≠ (TX4 b).2.1 := by decide +kernel
theorem tyX4_ok : ∀ k, k < 6 → parseFieldDescriptor (TX4 k).2.2.1 = some (tyX4 k) := by decide +kernel
abbrev cX4_init : ByteArray := prog_6_method_1_code
def yX4_init : MethodName := ⟨RX4, "<init>", "()V"⟩
abbrev cX4_add : ByteArray := prog_6_method_2_code
def yX4_add : MethodName := ⟨RX4, "add", "(I)V"⟩
abbrev cX4_restart : ByteArray := prog_6_method_3_code
def yX4_restart : MethodName := ⟨RX4, "restart", "()V"⟩
abbrev cX4_fail : ByteArray := prog_6_method_4_code
def yX4_fail : MethodName := ⟨RX4, "fail", "(II)V"⟩
abbrev cX4_octet : ByteArray := prog_6_method_5_code
def yX4_octet : MethodName := ⟨RX4, "octet", "()I"⟩
abbrev cX4_octetWithin : ByteArray := prog_6_method_6_code
def yX4_octetWithin : MethodName := ⟨RX4, "octetWithin", "(II)I"⟩
abbrev cX4_type : ByteArray := prog_6_method_7_code
def yX4_type : MethodName := ⟨RX4, "type", "()I"⟩
abbrev cX4_blockType : ByteArray := prog_6_method_8_code
def yX4_blockType : MethodName := ⟨RX4, "blockType", "()I"⟩
abbrev cX4_number : ByteArray := prog_6_method_9_code
def yX4_number : MethodName := ⟨RX4, "number", "()J"⟩
abbrev cX4_skipSigned : ByteArray := prog_6_method_10_code
def yX4_skipSigned : MethodName := ⟨RX4, "skipSigned", "(II)V"⟩
abbrev cX4_rowLength : ByteArray := prog_6_method_11_code
def yX4_rowLength : MethodName := ⟨RX4, "rowLength", "()I"⟩
abbrev cX4_length : ByteArray := prog_6_method_12_code
def yX4_length : MethodName := ⟨RX4, "length", "()I"⟩
abbrev cX4_name : ByteArray := prog_6_method_13_code
def yX4_name : MethodName := ⟨RX4, "name", "()I"⟩
abbrev cX4_outerName : ByteArray := prog_6_method_14_code
def yX4_outerName : MethodName := ⟨RX4, "outerName", "()I"⟩
abbrev cX4_enter : ByteArray := prog_6_method_15_code
def yX4_enter : MethodName := ⟨RX4, "enter", "()I"⟩
abbrev cX4_leave : ByteArray := prog_6_method_16_code
def yX4_leave : MethodName := ⟨RX4, "leave", "(I)V"⟩
abbrev cX4_skipRest : ByteArray := prog_6_method_17_code
def yX4_skipRest : MethodName := ⟨RX4, "skipRest", "()V"⟩
abbrev cX4_sameBytes : ByteArray := prog_6_method_18_code
def yX4_sameBytes : MethodName := ⟨RX4, "sameBytes", "(III)Z"⟩
def RX5 : String := "ModuleCheck$Instruction"
def TX5 : u_T := fun k => match k with
  | 0 => ("ModuleCheck$Instruction", "labels", "[J", true)
  | 1 => ("ModuleCheck$Instruction", "labelCount", "I", false)
  | 2 => ("ModuleCheck$Instruction", "where", "I", false)
  | 3 => ("ModuleCheck$Instruction", "number", "I", false)
  | _ => ("ModuleCheck$Instruction", "argument", "J", false)
def tyX5 : Nat → FieldType := fun k => match k with
  | 0 => .array .long
  | 1 => .int
  | 2 => .int
  | 3 => .int
  | _ => .long
abbrev wsX50 : List Cond := u_ws RX5 TX5 5
theorem nmX5 : ∀ a, a < 5 → ∀ b, b < 5 → a ≠ b → (TX5 a).2.1 ≠ (TX5 b).2.1 := by decide +kernel
theorem tyX5_ok : ∀ k, k < 5 → parseFieldDescriptor (TX5 k).2.2.1 = some (tyX5 k) := by decide +kernel
abbrev cX5_init : ByteArray := prog_7_method_1_code
def yX5_init : MethodName := ⟨RX5, "<init>", "()V"⟩
abbrev cX5_readNumber : ByteArray := prog_7_method_2_code
def yX5_readNumber : MethodName := ⟨RX5, "readNumber", "(LModuleCheck$Input;)V"⟩
abbrev cX5_isOfOneByte : ByteArray := prog_7_method_3_code
def yX5_isOfOneByte : MethodName := ⟨RX5, "isOfOneByte", "(I)Z"⟩
abbrev cX5_readArguments : ByteArray := prog_7_method_4_code
def yX5_readArguments : MethodName := ⟨RX5, "readArguments", "(LModuleCheck$Input;)V"⟩
abbrev cX5_readLabels : ByteArray := prog_7_method_5_code
def yX5_readLabels : MethodName := ⟨RX5, "readLabels", "(LModuleCheck$Input;)V"⟩
def RX6 : String := "ModuleCheck$Sections"
def TX6 : u_T := fun k => match k with
  | 0 => ("ModuleCheck$Sections", "in", "LModuleCheck$Input;", true)
  | 1 => ("ModuleCheck$Sections", "facts", "LModuleCheck$Facts;", true)
  | 2 => ("ModuleCheck$Sections", "bodies", "LModuleCheck$Bodies;", true)
  | 3 => ("ModuleCheck$Sections", "nameStarts", "[I", true)
  | 4 => ("ModuleCheck$Sections", "nameLengths", "[I", true)
  | _ => ("ModuleCheck$Sections", "lastInOrder", "I", false)
def tyX6 : Nat → FieldType := fun k => match k with
  | 0 => .object "ModuleCheck$Input"
  | 1 => .object "ModuleCheck$Facts"
  | 2 => .object "ModuleCheck$Bodies"
  | 3 => .array .int
  | 4 => .array .int
  | _ => .int
abbrev wsX60 : List Cond := u_ws RX6 TX6 6
theorem nmX6 : ∀ a, a < 6 → ∀ b, b < 6 → a ≠ b → (TX6 a).2.1 ≠ (TX6 b).2.1 := by decide +kernel
theorem tyX6_ok : ∀ k, k < 6 → parseFieldDescriptor (TX6 k).2.2.1 = some (tyX6 k) := by decide +kernel
abbrev cX6_init : ByteArray := prog_8_method_1_code
def yX6_init : MethodName := ⟨RX6, "<init>", "(LModuleCheck$Input;LModuleCheck$Facts;LModuleCheck$Answers;)V"⟩
abbrev cX6_begin : ByteArray := prog_8_method_2_code
def yX6_begin : MethodName := ⟨RX6, "begin", "()V"⟩
abbrev cX6_areMore : ByteArray := prog_8_method_3_code
def yX6_areMore : MethodName := ⟨RX6, "areMore", "()Z"⟩
abbrev cX6_finish : ByteArray := prog_8_method_4_code
def yX6_finish : MethodName := ⟨RX6, "finish", "()V"⟩
abbrev cX6_readSection : ByteArray := prog_8_method_5_code
def yX6_readSection : MethodName := ⟨RX6, "readSection", "()V"⟩
abbrev cX6_readSectionNumber : ByteArray := prog_8_method_6_code
def yX6_readSectionNumber : MethodName := ⟨RX6, "readSectionNumber", "()I"⟩
abbrev cX6_isRow : ByteArray := prog_8_method_7_code
def yX6_isRow : MethodName := ⟨RX6, "isRow", "(I)Z"⟩
abbrev cX6_fit : ByteArray := prog_8_method_8_code
def yX6_fit : MethodName := ⟨RX6, "fit", "(I)V"⟩
abbrev cX6_refuseBeyond : ByteArray := prog_8_method_9_code
def yX6_refuseBeyond : MethodName := ⟨RX6, "refuseBeyond", "(II)V"⟩
abbrev cX6_readSignature : ByteArray := prog_8_method_10_code
def yX6_readSignature : MethodName := ⟨RX6, "readSignature", "()V"⟩
abbrev cX6_readImport : ByteArray := prog_8_method_11_code
def yX6_readImport : MethodName := ⟨RX6, "readImport", "()V"⟩
abbrev cX6_readSignatureOfFunction : ByteArray := prog_8_method_12_code
def yX6_readSignatureOfFunction : MethodName := ⟨RX6, "readSignatureOfFunction", "(I)V"⟩
abbrev cX6_readLimits : ByteArray := prog_8_method_13_code
def yX6_readLimits : MethodName := ⟨RX6, "readLimits", "(IZ)V"⟩
abbrev cX6_addTable : ByteArray := prog_8_method_14_code
def yX6_addTable : MethodName := ⟨RX6, "addTable", "(I)V"⟩
abbrev cX6_addMemory : ByteArray := prog_8_method_15_code
def yX6_addMemory : MethodName := ⟨RX6, "addMemory", "(I)V"⟩
abbrev cX6_readTable : ByteArray := prog_8_method_16_code
def yX6_readTable : MethodName := ⟨RX6, "readTable", "()V"⟩
abbrev cX6_readMemory : ByteArray := prog_8_method_17_code
def yX6_readMemory : MethodName := ⟨RX6, "readMemory", "()V"⟩
abbrev cX6_readGlobal : ByteArray := prog_8_method_18_code
def yX6_readGlobal : MethodName := ⟨RX6, "readGlobal", "()V"⟩
abbrev cX6_readConstant : ByteArray := prog_8_method_19_code
def yX6_readConstant : MethodName := ⟨RX6, "readConstant", "(II)V"⟩
abbrev cX6_readExport : ByteArray := prog_8_method_20_code
def yX6_readExport : MethodName := ⟨RX6, "readExport", "()V"⟩
abbrev cX6_isExported : ByteArray := prog_8_method_21_code
def yX6_isExported : MethodName := ⟨RX6, "isExported", "(II)Z"⟩
abbrev cX6_readStart : ByteArray := prog_8_method_22_code
def yX6_readStart : MethodName := ⟨RX6, "readStart", "()V"⟩
abbrev cX6_readElement : ByteArray := prog_8_method_23_code
def yX6_readElement : MethodName := ⟨RX6, "readElement", "()V"⟩
abbrev cX6_readRowOfFunctions : ByteArray := prog_8_method_24_code
def yX6_readRowOfFunctions : MethodName := ⟨RX6, "readRowOfFunctions", "()V"⟩
abbrev cX6_readData : ByteArray := prog_8_method_25_code
def yX6_readData : MethodName := ⟨RX6, "readData", "()V"⟩
def RX7 : String := "ModuleCheck$Typing"
def TX7 : u_T := fun k => match k with
  | 0 => ("ModuleCheck$Typing", "facts", "LModuleCheck$Facts;", true)
  | 1 => ("ModuleCheck$Typing", "frames", "LModuleCheck$Frames;", true)
  | 2 => ("ModuleCheck$Typing", "localTypes", "[I", true)
  | _ => ("ModuleCheck$Typing", "localCount", "I", false)
def tyX7 : Nat → FieldType := fun k => match k with
  | 0 => .object "ModuleCheck$Facts"
  | 1 => .object "ModuleCheck$Frames"
  | 2 => .array .int
  | _ => .int
abbrev wsX70 : List Cond := u_ws RX7 TX7 4
theorem nmX7 : ∀ a, a < 4 → ∀ b, b < 4 → a ≠ b → (TX7 a).2.1 ≠ (TX7 b).2.1 := by decide +kernel
theorem tyX7_ok : ∀ k, k < 4 → parseFieldDescriptor (TX7 k).2.2.1 = some (tyX7 k) := by decide +kernel
abbrev cX7_init : ByteArray := prog_9_method_1_code
def yX7_init : MethodName := ⟨RX7, "<init>", "(LModuleCheck$Facts;LModuleCheck$Frames;)V"⟩
abbrev cX7_begin : ByteArray := prog_9_method_2_code
def yX7_begin : MethodName := ⟨RX7, "begin", "(I)V"⟩
abbrev cX7_addLocals : ByteArray := prog_9_method_3_code
def yX7_addLocals : MethodName := ⟨RX7, "addLocals", "(II)V"⟩
abbrev cX7_isRight : ByteArray := prog_9_method_4_code
def yX7_isRight : MethodName := ⟨RX7, "isRight", "(LModuleCheck$Instruction;)Z"⟩
abbrev cX7_followFrame : ByteArray := prog_9_method_5_code
def yX7_followFrame : MethodName := ⟨RX7, "followFrame", "(I)V"⟩
abbrev cX7_followTable : ByteArray := prog_9_method_6_code
def yX7_followTable : MethodName := ⟨RX7, "followTable", "(LModuleCheck$Instruction;)V"⟩
abbrev cX7_followLeap : ByteArray := prog_9_method_7_code
def yX7_followLeap : MethodName := ⟨RX7, "followLeap", "(IJ)V"⟩
abbrev cX7_followCall : ByteArray := prog_9_method_8_code
def yX7_followCall : MethodName := ⟨RX7, "followCall", "(IJ)V"⟩
abbrev cX7_followChoice : ByteArray := prog_9_method_9_code
def yX7_followChoice : MethodName := ⟨RX7, "followChoice", "(I)V"⟩
abbrev cX7_followLocal : ByteArray := prog_9_method_10_code
def yX7_followLocal : MethodName := ⟨RX7, "followLocal", "(IJ)V"⟩
abbrev cX7_followGlobal : ByteArray := prog_9_method_11_code
def yX7_followGlobal : MethodName := ⟨RX7, "followGlobal", "(IJ)V"⟩
abbrev cX7_followAccess : ByteArray := prog_9_method_12_code
def yX7_followAccess : MethodName := ⟨RX7, "followAccess", "(IJ)V"⟩
abbrev cX7_followSize : ByteArray := prog_9_method_13_code
def yX7_followSize : MethodName := ⟨RX7, "followSize", "(I)V"⟩
abbrev cX7_followPlain : ByteArray := prog_9_method_14_code
def yX7_followPlain : MethodName := ⟨RX7, "followPlain", "(I)V"⟩
abbrev cX7_takesLong : ByteArray := prog_9_method_15_code
def yX7_takesLong : MethodName := ⟨RX7, "takesLong", "(I)Z"⟩
abbrev cX7_takesTwo : ByteArray := prog_9_method_16_code
def yX7_takesTwo : MethodName := ⟨RX7, "takesTwo", "(I)Z"⟩
abbrev cX7_leavesLong : ByteArray := prog_9_method_17_code
def yX7_leavesLong : MethodName := ⟨RX7, "leavesLong", "(I)Z"⟩
abbrev cX7_followLonger : ByteArray := prog_9_method_18_code
def yX7_followLonger : MethodName := ⟨RX7, "followLonger", "(IJ)V"⟩
def RX8 : String := "ModuleCheck"
def TX8 : u_T := fun k => match k with
  | 0 => ("ModuleCheck", "input", "LModuleCheck$Input;", true)
  | 1 => ("ModuleCheck", "facts", "LModuleCheck$Facts;", true)
  | 2 => ("ModuleCheck", "sections", "LModuleCheck$Sections;", true)
  | 3 => ("ModuleCheck", "draft", "LModuleCheck$Answers;", true)
  | 4 => ("ModuleCheck", "kept", "LModuleCheck$Answers;", true)
  | 5 => ("ModuleCheck", "fed", "I", false)
  | _ => ("ModuleCheck", "latestPlace", "I", false)
def tyX8 : Nat → FieldType := fun k => match k with
  | 0 => .object "ModuleCheck$Input"
  | 1 => .object "ModuleCheck$Facts"
  | 2 => .object "ModuleCheck$Sections"
  | 3 => .object "ModuleCheck$Answers"
  | 4 => .object "ModuleCheck$Answers"
  | 5 => .int
  | _ => .int
abbrev wsX80 : List Cond := u_ws RX8 TX8 7
theorem nmX8 : ∀ a, a < 7 → ∀ b, b < 7 → a ≠ b → (TX8 a).2.1 ≠ (TX8 b).2.1 := by decide +kernel
theorem tyX8_ok : ∀ k, k < 7 → parseFieldDescriptor (TX8 k).2.2.1 = some (tyX8 k) := by decide +kernel
abbrev cX8_init : ByteArray := prog_1_method_1_code
def yX8_init : MethodName := ⟨RX8, "<init>", "()V"⟩
abbrev cX8_feed : ByteArray := prog_1_method_2_code
def yX8_feed : MethodName := ⟨RX8, "feed", "(IIIII)I"⟩
abbrev cX8_end : ByteArray := prog_1_method_3_code
def yX8_end : MethodName := ⟨RX8, "end", "(I)Z"⟩
abbrev cX8_check : ByteArray := prog_1_method_4_code
def yX8_check : MethodName := ⟨RX8, "check", "()I"⟩
abbrev cX8_place : ByteArray := prog_1_method_5_code
def yX8_place : MethodName := ⟨RX8, "place", "()I"⟩
abbrev cX8_count : ByteArray := prog_1_method_6_code
def yX8_count : MethodName := ⟨RX8, "count", "(I)I"⟩
abbrev cX8_instructions : ByteArray := prog_1_method_7_code
def yX8_instructions : MethodName := ⟨RX8, "instructions", "(I)I"⟩
abbrev cX8_code : ByteArray := prog_1_method_8_code
def yX8_code : MethodName := ⟨RX8, "code", "(II)I"⟩
abbrev cX8_locals : ByteArray := prog_1_method_9_code
def yX8_locals : MethodName := ⟨RX8, "locals", "(I)I"⟩
def RX9 : String := "ModuleCheckModel$Module"
def TX9 : u_T := fun k => match k with
  | 0 => ("ModuleCheckModel$Module", "from", "I", false)
  | 1 => ("ModuleCheckModel$Module", "end", "I", false)
  | 2 => ("ModuleCheckModel$Module", "sigs", "I", false)
  | 3 => ("ModuleCheckModel$Module", "imports", "I", false)
  | 4 => ("ModuleCheckModel$Module", "functions", "I", false)
  | 5 => ("ModuleCheckModel$Module", "globals", "I", false)
  | 6 => ("ModuleCheckModel$Module", "exports", "I", false)
  | 7 => ("ModuleCheckModel$Module", "elements", "I", false)
  | 8 => ("ModuleCheckModel$Module", "dataCount", "I", false)
  | 9 => ("ModuleCheckModel$Module", "bodies", "I", false)
  | 10 => ("ModuleCheckModel$Module", "start", "I", false)
  | 11 => ("ModuleCheckModel$Module", "startAt", "I", false)
  | 12 => ("ModuleCheckModel$Module", "tables", "I", false)
  | 13 => ("ModuleCheckModel$Module", "memories", "I", false)
  | 14 => ("ModuleCheckModel$Module", "least", "[J", true)
  | 15 => ("ModuleCheckModel$Module", "most", "[J", true)
  | 16 => ("ModuleCheckModel$Module", "limitsAt", "[I", true)
  | 17 => ("ModuleCheckModel$Module", "secondAt", "[I", true)
  | 18 => ("ModuleCheckModel$Module", "firstAt", "[I", true)
  | 19 => ("ModuleCheckModel$Module", "sig", "[I", true)
  | 20 => ("ModuleCheckModel$Module", "importModule", "[I", true)
  | 21 => ("ModuleCheckModel$Module", "importModuleLength", "[I", true)
  | 22 => ("ModuleCheckModel$Module", "importName", "[I", true)
  | 23 => ("ModuleCheckModel$Module", "importNameLength", "[I", true)
  | 24 => ("ModuleCheckModel$Module", "importKind", "[I", true)
  | 25 => ("ModuleCheckModel$Module", "importWhat", "[J", true)
  | 26 => ("ModuleCheckModel$Module", "importAt", "[I", true)
  | 27 => ("ModuleCheckModel$Module", "importBegin", "[I", true)
  | 28 => ("ModuleCheckModel$Module", "importChanges", "[Z", true)
  | 29 => ("ModuleCheckModel$Module", "importLeast", "[J", true)
  | 30 => ("ModuleCheckModel$Module", "importMost", "[J", true)
  | 31 => ("ModuleCheckModel$Module", "functionSig", "[J", true)
  | 32 => ("ModuleCheckModel$Module", "functionAt", "[I", true)
  | 33 => ("ModuleCheckModel$Module", "globalType", "[I", true)
  | 34 => ("ModuleCheckModel$Module", "globalChanges", "[Z", true)
  | 35 => ("ModuleCheckModel$Module", "globalConstant", "[I", true)
  | 36 => ("ModuleCheckModel$Module", "exportName", "[I", true)
  | 37 => ("ModuleCheckModel$Module", "exportNameLength", "[I", true)
  | 38 => ("ModuleCheckModel$Module", "exportNameAt", "[I", true)
  | 39 => ("ModuleCheckModel$Module", "exportKind", "[I", true)
  | 40 => ("ModuleCheckModel$Module", "exportWhat", "[J", true)
  | 41 => ("ModuleCheckModel$Module", "exportAt", "[I", true)
  | 42 => ("ModuleCheckModel$Module", "elementMode", "[I", true)
  | 43 => ("ModuleCheckModel$Module", "elementAt", "[I", true)
  | 44 => ("ModuleCheckModel$Module", "elementConstant", "[I", true)
  | 45 => ("ModuleCheckModel$Module", "elementRow", "[I", true)
  | 46 => ("ModuleCheckModel$Module", "elementCount", "[I", true)
  | 47 => ("ModuleCheckModel$Module", "dataMode", "[I", true)
  | 48 => ("ModuleCheckModel$Module", "dataAt", "[I", true)
  | 49 => ("ModuleCheckModel$Module", "dataConstant", "[I", true)
  | 50 => ("ModuleCheckModel$Module", "dataRow", "[I", true)
  | 51 => ("ModuleCheckModel$Module", "dataBytes", "[I", true)
  | 52 => ("ModuleCheckModel$Module", "groupsAt", "[I", true)
  | 53 => ("ModuleCheckModel$Module", "codeAt", "[I", true)
  | 54 => ("ModuleCheckModel$Module", "bodyEnd", "[I", true)
  | 55 => ("ModuleCheckModel$Module", "imported", "[I", true)
  | _ => ("ModuleCheckModel$Module", "importedAs", "[I", true)
def tyX9 : Nat → FieldType := fun k => match k with
  | 0 => .int
  | 1 => .int
  | 2 => .int
  | 3 => .int
  | 4 => .int
  | 5 => .int
  | 6 => .int
  | 7 => .int
  | 8 => .int
  | 9 => .int
  | 10 => .int
  | 11 => .int
  | 12 => .int
  | 13 => .int
  | 14 => .array .long
  | 15 => .array .long
  | 16 => .array .int
  | 17 => .array .int
  | 18 => .array .int
  | 19 => .array .int
  | 20 => .array .int
  | 21 => .array .int
  | 22 => .array .int
  | 23 => .array .int
  | 24 => .array .int
  | 25 => .array .long
  | 26 => .array .int
  | 27 => .array .int
  | 28 => .array .boolean
  | 29 => .array .long
  | 30 => .array .long
  | 31 => .array .long
  | 32 => .array .int
  | 33 => .array .int
  | 34 => .array .boolean
  | 35 => .array .int
  | 36 => .array .int
  | 37 => .array .int
  | 38 => .array .int
  | 39 => .array .int
  | 40 => .array .long
  | 41 => .array .int
  | 42 => .array .int
  | 43 => .array .int
  | 44 => .array .int
  | 45 => .array .int
  | 46 => .array .int
  | 47 => .array .int
  | 48 => .array .int
  | 49 => .array .int
  | 50 => .array .int
  | 51 => .array .int
  | 52 => .array .int
  | 53 => .array .int
  | 54 => .array .int
  | 55 => .array .int
  | _ => .array .int
abbrev wsX90 : List Cond := u_ws RX9 TX9 57
theorem nmX9 : ∀ a, a < 57 → ∀ b, b < 57 → a ≠ b → (TX9 a).2.1 ≠ (TX9 b).2.1 := by decide +kernel
theorem tyX9_ok : ∀ k, k < 57 → parseFieldDescriptor (TX9 k).2.2.1 = some (tyX9 k) := by decide +kernel
abbrev cX9_init : ByteArray := prog_12_method_1_code
def yX9_init : MethodName := ⟨RX9, "<init>", "()V"⟩
abbrev cX9_has : ByteArray := prog_12_method_2_code
def yX9_has : MethodName := ⟨RX9, "has", "(I)Z"⟩
def RX10 : String := "ModuleCheckModel"
def TX10 : u_T := fun k => match k with
  | 0 => ("ModuleCheckModel", "right", "LModuleCheckModel$Module;", false)
  | 1 => ("ModuleCheckModel", "next", "LModuleCheckModel$Module;", false)
  | 2 => ("ModuleCheckModel", "isThere", "Z", false)
  | 3 => ("ModuleCheckModel", "store", "[B", true)
  | 4 => ("ModuleCheckModel", "tray", "[B", true)
  | 5 => ("ModuleCheckModel", "trayed", "I", false)
  | 6 => ("ModuleCheckModel", "allFed", "I", false)
  | 7 => ("ModuleCheckModel", "place", "I", false)
  | 8 => ("ModuleCheckModel", "walkedOver", "I", false)
  | 9 => ("ModuleCheckModel", "stop", "Ljava/lang/IllegalStateException;", true)
  | 10 => ("ModuleCheckModel", "fault", "I", false)
  | 11 => ("ModuleCheckModel", "faultAt", "I", false)
  | 12 => ("ModuleCheckModel", "at", "I", false)
  | 13 => ("ModuleCheckModel", "end", "I", false)
  | 14 => ("ModuleCheckModel", "nameAt", "I", false)
  | 15 => ("ModuleCheckModel", "nameLength", "I", false)
  | 16 => ("ModuleCheckModel", "least", "J", false)
  | 17 => ("ModuleCheckModel", "most", "J", false)
  | 18 => ("ModuleCheckModel", "hasCount", "Z", false)
  | 19 => ("ModuleCheckModel", "toldCount", "J", false)
  | 20 => ("ModuleCheckModel", "openWith", "[I", true)
  | 21 => ("ModuleCheckModel", "types", "[B", true)
  | 22 => ("ModuleCheckModel", "top", "I", false)
  | 23 => ("ModuleCheckModel", "frameLabel", "[I", true)
  | 24 => ("ModuleCheckModel", "frameResult", "[I", true)
  | 25 => ("ModuleCheckModel", "frameBase", "[I", true)
  | 26 => ("ModuleCheckModel", "frameWith", "[I", true)
  | 27 => ("ModuleCheckModel", "frameOpen", "[Z", true)
  | 28 => ("ModuleCheckModel", "frames", "I", false)
  | 29 => ("ModuleCheckModel", "localType", "[I", true)
  | 30 => ("ModuleCheckModel", "locals", "I", false)
  | _ => ("ModuleCheckModel", "good", "Z", false)
def tyX10 : Nat → FieldType := fun k => match k with
  | 0 => .object "ModuleCheckModel$Module"
  | 1 => .object "ModuleCheckModel$Module"
  | 2 => .boolean
  | 3 => .array .byte
  | 4 => .array .byte
  | 5 => .int
  | 6 => .int
  | 7 => .int
  | 8 => .int
  | 9 => .object "java/lang/IllegalStateException"
  | 10 => .int
  | 11 => .int
  | 12 => .int
  | 13 => .int
  | 14 => .int
  | 15 => .int
  | 16 => .long
  | 17 => .long
  | 18 => .boolean
  | 19 => .long
  | 20 => .array .int
  | 21 => .array .byte
  | 22 => .int
  | 23 => .array .int
  | 24 => .array .int
  | 25 => .array .int
  | 26 => .array .int
  | 27 => .array .boolean
  | 28 => .int
  | 29 => .array .int
  | 30 => .int
  | _ => .boolean
abbrev wsX100 : List Cond := u_ws RX10 TX10 32
theorem nmX10 : ∀ a, a < 32 → ∀ b, b < 32 → a ≠ b → (TX10 a).2.1 ≠ (TX10 b).2.1 := by decide +kernel
theorem tyX10_ok : ∀ k, k < 32 → parseFieldDescriptor (TX10 k).2.2.1 = some (tyX10 k) := by decide +kernel
abbrev cX10_init : ByteArray := prog_11_method_1_code
def yX10_init : MethodName := ⟨RX10, "<init>", "()V"⟩
abbrev cX10_word : ByteArray := prog_11_method_3_code
def yX10_word : MethodName := ⟨RX10, "word", "(I)V"⟩
abbrev cX10_feed : ByteArray := prog_11_method_4_code
def yX10_feed : MethodName := ⟨RX10, "feed", "(IIIII)I"⟩
abbrev cX10_end : ByteArray := prog_11_method_5_code
def yX10_end : MethodName := ⟨RX10, "end", "(I)Z"⟩
abbrev cX10_check : ByteArray := prog_11_method_6_code
def yX10_check : MethodName := ⟨RX10, "check", "()I"⟩
abbrev cX10_place : ByteArray := prog_11_method_7_code
def yX10_place : MethodName := ⟨RX10, "place", "()I"⟩
abbrev cX10_count : ByteArray := prog_11_method_8_code
def yX10_count : MethodName := ⟨RX10, "count", "(I)I"⟩
abbrev cX10_isOwn : ByteArray := prog_11_method_9_code
def yX10_isOwn : MethodName := ⟨RX10, "isOwn", "(I)Z"⟩
abbrev cX10_walked : ByteArray := prog_11_method_10_code
def yX10_walked : MethodName := ⟨RX10, "walked", "(II)I"⟩
abbrev cX10_instructions : ByteArray := prog_11_method_11_code
def yX10_instructions : MethodName := ⟨RX10, "instructions", "(I)I"⟩
abbrev cX10_code : ByteArray := prog_11_method_12_code
def yX10_code : MethodName := ⟨RX10, "code", "(II)I"⟩
abbrev cX10_locals : ByteArray := prog_11_method_13_code
def yX10_locals : MethodName := ⟨RX10, "locals", "(I)I"⟩
abbrev cX10_wrong : ByteArray := prog_11_method_14_code
def yX10_wrong : MethodName := ⟨RX10, "wrong", "(II)Ljava/lang/IllegalStateException;"⟩
abbrev cX10_octet : ByteArray := prog_11_method_15_code
def yX10_octet : MethodName := ⟨RX10, "octet", "()I"⟩
abbrev cX10_needOctet : ByteArray := prog_11_method_16_code
def yX10_needOctet : MethodName := ⟨RX10, "needOctet", "(I)V"⟩
abbrev cX10_u : ByteArray := prog_11_method_17_code
def yX10_u : MethodName := ⟨RX10, "u", "()J"⟩
abbrev cX10_signed : ByteArray := prog_11_method_18_code
def yX10_signed : MethodName := ⟨RX10, "signed", "(III)J"⟩
abbrev cX10_s : ByteArray := prog_11_method_19_code
def yX10_s : MethodName := ⟨RX10, "s", "()I"⟩
abbrev cX10_l : ByteArray := prog_11_method_20_code
def yX10_l : MethodName := ⟨RX10, "l", "()J"⟩
abbrev cX10_type : ByteArray := prog_11_method_21_code
def yX10_type : MethodName := ⟨RX10, "type", "()I"⟩
abbrev cX10_nameItem : ByteArray := prog_11_method_22_code
def yX10_nameItem : MethodName := ⟨RX10, "nameItem", "(Z)V"⟩
abbrev cX10_limits : ByteArray := prog_11_method_23_code
def yX10_limits : MethodName := ⟨RX10, "limits", "()V"⟩
abbrev cX10_constant : ByteArray := prog_11_method_24_code
def yX10_constant : MethodName := ⟨RX10, "constant", "()I"⟩
abbrev cX10_headerAt : ByteArray := prog_11_method_25_code
def yX10_headerAt : MethodName := ⟨RX10, "headerAt", "(I)I"⟩
abbrev cX10_read : ByteArray := prog_11_method_26_code
def yX10_read : MethodName := ⟨RX10, "read", "(LModuleCheckModel$Module;)V"⟩
abbrev cX10_orderOf : ByteArray := prog_11_method_27_code
def yX10_orderOf : MethodName := ⟨RX10, "orderOf", "(I)I"⟩
abbrev cX10_section : ByteArray := prog_11_method_28_code
def yX10_section : MethodName := ⟨RX10, "section", "(LModuleCheckModel$Module;I)V"⟩
abbrev cX10_signature : ByteArray := prog_11_method_29_code
def yX10_signature : MethodName := ⟨RX10, "signature", "(LModuleCheckModel$Module;)V"⟩
abbrev cX10_parameters : ByteArray := prog_11_method_30_code
def yX10_parameters : MethodName := ⟨RX10, "parameters", "(I)I"⟩
abbrev cX10_parameter : ByteArray := prog_11_method_31_code
def yX10_parameter : MethodName := ⟨RX10, "parameter", "(II)I"⟩
abbrev cX10_resultOf : ByteArray := prog_11_method_32_code
def yX10_resultOf : MethodName := ⟨RX10, "resultOf", "(I)I"⟩
abbrev cX10_importLine : ByteArray := prog_11_method_33_code
def yX10_importLine : MethodName := ⟨RX10, "importLine", "(LModuleCheckModel$Module;)V"⟩
abbrev cX10_flag : ByteArray := prog_11_method_34_code
def yX10_flag : MethodName := ⟨RX10, "flag", "()Z"⟩
abbrev cX10_ownLimits : ByteArray := prog_11_method_35_code
def yX10_ownLimits : MethodName := ⟨RX10, "ownLimits", "(LModuleCheckModel$Module;I)V"⟩
abbrev cX10_globalLine : ByteArray := prog_11_method_36_code
def yX10_globalLine : MethodName := ⟨RX10, "globalLine", "(LModuleCheckModel$Module;)V"⟩
abbrev cX10_exportLine : ByteArray := prog_11_method_37_code
def yX10_exportLine : MethodName := ⟨RX10, "exportLine", "(LModuleCheckModel$Module;)V"⟩
abbrev cX10_elementLine : ByteArray := prog_11_method_38_code
def yX10_elementLine : MethodName := ⟨RX10, "elementLine", "(LModuleCheckModel$Module;)V"⟩
abbrev cX10_dataLine : ByteArray := prog_11_method_39_code
def yX10_dataLine : MethodName := ⟨RX10, "dataLine", "(LModuleCheckModel$Module;)V"⟩
abbrev cX10_body : ByteArray := prog_11_method_40_code
def yX10_body : MethodName := ⟨RX10, "body", "(LModuleCheckModel$Module;)V"⟩
abbrev cX10_follows : ByteArray := prog_11_method_41_code
def yX10_follows : MethodName := ⟨RX10, "follows", "(I)I"⟩
abbrev cX10_isLoad : ByteArray := prog_11_method_42_code
def yX10_isLoad : MethodName := ⟨RX10, "isLoad", "(I)Z"⟩
abbrev cX10_isStore : ByteArray := prog_11_method_43_code
def yX10_isStore : MethodName := ⟨RX10, "isStore", "(I)Z"⟩
abbrev cX10_operands : ByteArray := prog_11_method_44_code
def yX10_operands : MethodName := ⟨RX10, "operands", "(II)V"⟩
abbrev cX10_blockType : ByteArray := prog_11_method_45_code
def yX10_blockType : MethodName := ⟨RX10, "blockType", "()I"⟩
abbrev cX10_many : ByteArray := prog_11_method_46_code
def yX10_many : MethodName := ⟨RX10, "many", "(I)V"⟩
abbrev cX10_readCode : ByteArray := prog_11_method_47_code
def yX10_readCode : MethodName := ⟨RX10, "readCode", "()V"⟩
abbrev cX10_functionsOf : ByteArray := prog_11_method_48_code
def yX10_functionsOf : MethodName := ⟨RX10, "functionsOf", "(LModuleCheckModel$Module;)I"⟩
abbrev cX10_globalsOf : ByteArray := prog_11_method_49_code
def yX10_globalsOf : MethodName := ⟨RX10, "globalsOf", "(LModuleCheckModel$Module;)I"⟩
abbrev cX10_importOf : ByteArray := prog_11_method_50_code
def yX10_importOf : MethodName := ⟨RX10, "importOf", "(LModuleCheckModel$Module;II)I"⟩
abbrev cX10_sigOf : ByteArray := prog_11_method_51_code
def yX10_sigOf : MethodName := ⟨RX10, "sigOf", "(LModuleCheckModel$Module;I)I"⟩
abbrev cX10_typeOf : ByteArray := prog_11_method_52_code
def yX10_typeOf : MethodName := ⟨RX10, "typeOf", "(LModuleCheckModel$Module;I)I"⟩
abbrev cX10_isChanged : ByteArray := prog_11_method_53_code
def yX10_isChanged : MethodName := ⟨RX10, "isChanged", "(LModuleCheckModel$Module;I)Z"⟩
abbrev cX10_must : ByteArray := prog_11_method_54_code
def yX10_must : MethodName := ⟨RX10, "must", "(ZI)V"⟩
abbrev cX10_areRight : ByteArray := prog_11_method_55_code
def yX10_areRight : MethodName := ⟨RX10, "areRight", "(IJJ)Z"⟩
abbrev cX10_means : ByteArray := prog_11_method_56_code
def yX10_means : MethodName := ⟨RX10, "means", "(LModuleCheckModel$Module;)V"⟩
abbrev cX10_one : ByteArray := prog_11_method_57_code
def yX10_one : MethodName := ⟨RX10, "one", "(LModuleCheckModel$Module;II)V"⟩
abbrev cX10_isConstant : ByteArray := prog_11_method_58_code
def yX10_isConstant : MethodName := ⟨RX10, "isConstant", "(LModuleCheckModel$Module;II)Z"⟩
abbrev cX10_exported : ByteArray := prog_11_method_59_code
def yX10_exported : MethodName := ⟨RX10, "exported", "(LModuleCheckModel$Module;I)V"⟩
abbrev cX10_isSame : ByteArray := prog_11_method_60_code
def yX10_isSame : MethodName := ⟨RX10, "isSame", "(IIII)Z"⟩
abbrev cX10_openFrame : ByteArray := prog_11_method_61_code
def yX10_openFrame : MethodName := ⟨RX10, "openFrame", "(III)V"⟩
abbrev cX10_gives : ByteArray := prog_11_method_62_code
def yX10_gives : MethodName := ⟨RX10, "gives", "(I)V"⟩
abbrev cX10_takes : ByteArray := prog_11_method_63_code
def yX10_takes : MethodName := ⟨RX10, "takes", "(I)I"⟩
abbrev cX10_rest : ByteArray := prog_11_method_64_code
def yX10_rest : MethodName := ⟨RX10, "rest", "()V"⟩
abbrev cX10_readLocals : ByteArray := prog_11_method_65_code
def yX10_readLocals : MethodName := ⟨RX10, "readLocals", "(II)V"⟩
abbrev cX10_checkBody : ByteArray := prog_11_method_66_code
def yX10_checkBody : MethodName := ⟨RX10, "checkBody", "(LModuleCheckModel$Module;I)V"⟩
abbrev cX10_need : ByteArray := prog_11_method_67_code
def yX10_need : MethodName := ⟨RX10, "need", "(Z)V"⟩
abbrev cX10_label : ByteArray := prog_11_method_68_code
def yX10_label : MethodName := ⟨RX10, "label", "(J)I"⟩
abbrev cX10_calls : ByteArray := prog_11_method_69_code
def yX10_calls : MethodName := ⟨RX10, "calls", "(I)V"⟩
abbrev cX10_turns : ByteArray := prog_11_method_70_code
def yX10_turns : MethodName := ⟨RX10, "turns", "(III)V"⟩
abbrev cX10_width : ByteArray := prog_11_method_71_code
def yX10_width : MethodName := ⟨RX10, "width", "(I)I"⟩
abbrev cX10_valueType : ByteArray := prog_11_method_72_code
def yX10_valueType : MethodName := ⟨RX10, "valueType", "(I)I"⟩
abbrev cX10_checkOne : ByteArray := prog_11_method_73_code
def yX10_checkOne : MethodName := ⟨RX10, "checkOne", "(LModuleCheckModel$Module;II)V"⟩
abbrev cX10_closes : ByteArray := prog_11_method_74_code
def yX10_closes : MethodName := ⟨RX10, "closes", "()V"⟩
abbrev cX10_labelRow : ByteArray := prog_11_method_75_code
def yX10_labelRow : MethodName := ⟨RX10, "labelRow", "()V"⟩
abbrev cX10_access : ByteArray := prog_11_method_76_code
def yX10_access : MethodName := ⟨RX10, "access", "(LModuleCheckModel$Module;I)V"⟩
abbrev cX10_numbers : ByteArray := prog_11_method_77_code
def yX10_numbers : MethodName := ⟨RX10, "numbers", "(I)V"⟩
abbrev cX10_checkMany : ByteArray := prog_11_method_78_code
def yX10_checkMany : MethodName := ⟨RX10, "checkMany", "(LModuleCheckModel$Module;)V"⟩
def RL : String := "ModuleCheckLaw"
abbrev cL_law : ByteArray := code
def yL_law : MethodName := ⟨RL, "law", "([I)Z"⟩
def zWS : List Cond := lw_tbl.filter goodWord
def zNest : Cond → Bool
  | .fieldLinkNest .. => true
  | .methodLinkNest .. => true
  | _ => false
def zNW : List Cond := lw_tbl.filter zNest
theorem zmT {w : Cond} (h : w ∈ tables_1) : w ∈ lw_tbl := List.mem_append_right _ h
theorem zmT1 {w : Cond} (k : Nat) (h : tables_1_1[k]? = some w) : w ∈ lw_tbl := zmT (List.mem_append_left _ (List.mem_of_getElem? h))
theorem zWS1 {w : Cond} (k : Nat) (h : tables_1_1[k]? = some w) (hg : goodWord w = true) : w ∈ zWS := List.mem_filter.mpr ⟨zmT1 k h, hg⟩
theorem zNW1 {w : Cond} (k : Nat) (h : tables_1_1[k]? = some w) (hg : zNest w = true) : w ∈ zNW := List.mem_filter.mpr ⟨zmT1 k h, hg⟩
theorem zmT2 {w : Cond} (k : Nat) (h : tables_1_2[k]? = some w) : w ∈ lw_tbl := zmT (List.mem_append_right _ (List.mem_append_left _ (List.mem_of_getElem? h)))
theorem zWS2 {w : Cond} (k : Nat) (h : tables_1_2[k]? = some w) (hg : goodWord w = true) : w ∈ zWS := List.mem_filter.mpr ⟨zmT2 k h, hg⟩
theorem zNW2 {w : Cond} (k : Nat) (h : tables_1_2[k]? = some w) (hg : zNest w = true) : w ∈ zNW := List.mem_filter.mpr ⟨zmT2 k h, hg⟩
theorem zmT3 {w : Cond} (k : Nat) (h : tables_1_3[k]? = some w) : w ∈ lw_tbl := zmT (List.mem_append_right _ (List.mem_append_right _ (List.mem_append_left _ (List.mem_of_getElem? h))))
theorem zWS3 {w : Cond} (k : Nat) (h : tables_1_3[k]? = some w) (hg : goodWord w = true) : w ∈ zWS := List.mem_filter.mpr ⟨zmT3 k h, hg⟩
theorem zNW3 {w : Cond} (k : Nat) (h : tables_1_3[k]? = some w) (hg : zNest w = true) : w ∈ zNW := List.mem_filter.mpr ⟨zmT3 k h, hg⟩
theorem zmT4 {w : Cond} (k : Nat) (h : tables_1_4[k]? = some w) : w ∈ lw_tbl := zmT (List.mem_append_right _ (List.mem_append_right _ (List.mem_append_right _ (List.mem_append_left _ (List.mem_of_getElem? h)))))
theorem zWS4 {w : Cond} (k : Nat) (h : tables_1_4[k]? = some w) (hg : goodWord w = true) : w ∈ zWS := List.mem_filter.mpr ⟨zmT4 k h, hg⟩
theorem zNW4 {w : Cond} (k : Nat) (h : tables_1_4[k]? = some w) (hg : zNest w = true) : w ∈ zNW := List.mem_filter.mpr ⟨zmT4 k h, hg⟩
theorem zmT5 {w : Cond} (k : Nat) (h : tables_1_5[k]? = some w) : w ∈ lw_tbl := zmT (List.mem_append_right _ (List.mem_append_right _ (List.mem_append_right _ (List.mem_append_right _ (List.mem_append_left _ (List.mem_of_getElem? h))))))
theorem zWS5 {w : Cond} (k : Nat) (h : tables_1_5[k]? = some w) (hg : goodWord w = true) : w ∈ zWS := List.mem_filter.mpr ⟨zmT5 k h, hg⟩
theorem zNW5 {w : Cond} (k : Nat) (h : tables_1_5[k]? = some w) (hg : zNest w = true) : w ∈ zNW := List.mem_filter.mpr ⟨zmT5 k h, hg⟩
theorem zmT6 {w : Cond} (k : Nat) (h : tables_1_6[k]? = some w) : w ∈ lw_tbl := zmT (List.mem_append_right _ (List.mem_append_right _ (List.mem_append_right _ (List.mem_append_right _ (List.mem_append_right _ (List.mem_append_left _ (List.mem_of_getElem? h)))))))
theorem zWS6 {w : Cond} (k : Nat) (h : tables_1_6[k]? = some w) (hg : goodWord w = true) : w ∈ zWS := List.mem_filter.mpr ⟨zmT6 k h, hg⟩
theorem zNW6 {w : Cond} (k : Nat) (h : tables_1_6[k]? = some w) (hg : zNest w = true) : w ∈ zNW := List.mem_filter.mpr ⟨zmT6 k h, hg⟩
theorem zmT7 {w : Cond} (k : Nat) (h : tables_1_7[k]? = some w) : w ∈ lw_tbl := zmT (List.mem_append_right _ (List.mem_append_right _ (List.mem_append_right _ (List.mem_append_right _ (List.mem_append_right _ (List.mem_append_right _ (List.mem_of_getElem? h)))))))
theorem zWS7 {w : Cond} (k : Nat) (h : tables_1_7[k]? = some w) (hg : goodWord w = true) : w ∈ zWS := List.mem_filter.mpr ⟨zmT7 k h, hg⟩
theorem zNW7 {w : Cond} (k : Nat) (h : tables_1_7[k]? = some w) (hg : zNest w = true) : w ∈ zNW := List.mem_filter.mpr ⟨zmT7 k h, hg⟩
theorem zSL1 {y : MethodName} (k n : Nat) (h : lw_privs_1[k]? = some (y, n)) : Cond.selects y.cls y y ∈ zWS := List.mem_filter.mpr ⟨List.mem_append_left _ (List.mem_map.mpr ⟨(y, n), List.mem_append_left _ (List.mem_of_getElem? h), rfl⟩), rfl⟩
theorem zSL2 {y : MethodName} (k n : Nat) (h : lw_privs_2[k]? = some (y, n)) : Cond.selects y.cls y y ∈ zWS := List.mem_filter.mpr ⟨List.mem_append_left _ (List.mem_map.mpr ⟨(y, n), List.mem_append_right _ (List.mem_append_left _ (List.mem_of_getElem? h)), rfl⟩), rfl⟩
theorem zSL3 {y : MethodName} (k n : Nat) (h : lw_privs_3[k]? = some (y, n)) : Cond.selects y.cls y y ∈ zWS := List.mem_filter.mpr ⟨List.mem_append_left _ (List.mem_map.mpr ⟨(y, n), List.mem_append_right _ (List.mem_append_right _ (List.mem_append_left _ (List.mem_of_getElem? h))), rfl⟩), rfl⟩
theorem zSL4 {y : MethodName} (k n : Nat) (h : lw_privs_4[k]? = some (y, n)) : Cond.selects y.cls y y ∈ zWS := List.mem_filter.mpr ⟨List.mem_append_left _ (List.mem_map.mpr ⟨(y, n), List.mem_append_right _ (List.mem_append_right _ (List.mem_append_right _ (List.mem_append_left _ (List.mem_of_getElem? h)))), rfl⟩), rfl⟩
theorem zSL5 {y : MethodName} (k n : Nat) (h : lw_privs_5[k]? = some (y, n)) : Cond.selects y.cls y y ∈ zWS := List.mem_filter.mpr ⟨List.mem_append_left _ (List.mem_map.mpr ⟨(y, n), List.mem_append_right _ (List.mem_append_right _ (List.mem_append_right _ (List.mem_append_right _ (List.mem_append_left _ (List.mem_of_getElem? h))))), rfl⟩), rfl⟩
theorem zSL6 {y : MethodName} (k n : Nat) (h : lw_privs_6[k]? = some (y, n)) : Cond.selects y.cls y y ∈ zWS := List.mem_filter.mpr ⟨List.mem_append_left _ (List.mem_map.mpr ⟨(y, n), List.mem_append_right _ (List.mem_append_right _ (List.mem_append_right _ (List.mem_append_right _ (List.mem_append_right _ (List.mem_append_left _ (List.mem_of_getElem? h)))))), rfl⟩), rfl⟩
theorem zSL7 {y : MethodName} (k n : Nat) (h : lw_privs_7[k]? = some (y, n)) : Cond.selects y.cls y y ∈ zWS := List.mem_filter.mpr ⟨List.mem_append_left _ (List.mem_map.mpr ⟨(y, n), List.mem_append_right _ (List.mem_append_right _ (List.mem_append_right _ (List.mem_append_right _ (List.mem_append_right _ (List.mem_append_right _ (List.mem_append_left _ (List.mem_of_getElem? h))))))), rfl⟩), rfl⟩
theorem zSL8 {y : MethodName} (k n : Nat) (h : lw_privs_8[k]? = some (y, n)) : Cond.selects y.cls y y ∈ zWS := List.mem_filter.mpr ⟨List.mem_append_left _ (List.mem_map.mpr ⟨(y, n), List.mem_append_right _ (List.mem_append_right _ (List.mem_append_right _ (List.mem_append_right _ (List.mem_append_right _ (List.mem_append_right _ (List.mem_append_right _ (List.mem_append_left _ (List.mem_of_getElem? h)))))))), rfl⟩), rfl⟩
theorem zSL9 {y : MethodName} (k n : Nat) (h : lw_privs_9[k]? = some (y, n)) : Cond.selects y.cls y y ∈ zWS := List.mem_filter.mpr ⟨List.mem_append_left _ (List.mem_map.mpr ⟨(y, n), List.mem_append_right _ (List.mem_append_right _ (List.mem_append_right _ (List.mem_append_right _ (List.mem_append_right _ (List.mem_append_right _ (List.mem_append_right _ (List.mem_append_right _ (List.mem_append_left _ (List.mem_of_getElem? h))))))))), rfl⟩), rfl⟩
theorem zSL10 {y : MethodName} (k n : Nat) (h : lw_privs_10[k]? = some (y, n)) : Cond.selects y.cls y y ∈ zWS := List.mem_filter.mpr ⟨List.mem_append_left _ (List.mem_map.mpr ⟨(y, n), List.mem_append_right _ (List.mem_append_right _ (List.mem_append_right _ (List.mem_append_right _ (List.mem_append_right _ (List.mem_append_right _ (List.mem_append_right _ (List.mem_append_right _ (List.mem_append_right _ (List.mem_of_getElem? h))))))))), rfl⟩), rfl⟩
