-- ===== PART A: goes FIRST, ahead of the names: the tables' words, and 'selects' of the private methods out of them =====
/-- a private method of a class that the tables say can be made, by its rows of tables_1 -/
def lw_okq (q : MethodName × Nat) : Prop := (q.1.cls ≠ "java/lang/invoke/MethodHandle" ∧ q.1.cls ≠ "java/lang/invoke/VarHandle") ∧ Cond.instantiable q.1.cls q.2 ∈ tables_1 ∧ Cond.privateMethod q.1 ∈ tables_1 ∧ Cond.instanceMethod q.1 ∈ tables_1
theorem lw_p0 : lw_okq (⟨"LeafFormula", "refuse", "(I)I"⟩, 12) := ⟨⟨by decide +kernel, by decide +kernel⟩, List.mem_of_getElem? (i := 28) (by decide +kernel), List.mem_of_getElem? (i := 319) (by decide +kernel), List.mem_of_getElem? (i := 320) (by decide +kernel)⟩
theorem lw_p1 : lw_okq (⟨"LeafFormula", "answer", "(I)I"⟩, 12) := ⟨⟨by decide +kernel, by decide +kernel⟩, List.mem_of_getElem? (i := 28) (by decide +kernel), List.mem_of_getElem? (i := 327) (by decide +kernel), List.mem_of_getElem? (i := 328) (by decide +kernel)⟩
theorem lw_p2 : lw_okq (⟨"LeafFormula$Reader", "begin", "()V"⟩, 6) := ⟨⟨by decide +kernel, by decide +kernel⟩, List.mem_of_getElem? (i := 86) (by decide +kernel), List.mem_of_getElem? (i := 347) (by decide +kernel), List.mem_of_getElem? (i := 348) (by decide +kernel)⟩
theorem lw_p3 : lw_okq (⟨"LeafFormula$Tape", "widthAt", "(I)I"⟩, 5) := ⟨⟨by decide +kernel, by decide +kernel⟩, List.mem_of_getElem? (i := 36) (by decide +kernel), List.mem_of_getElem? (i := 369) (by decide +kernel), List.mem_of_getElem? (i := 370) (by decide +kernel)⟩
theorem lw_p4 : lw_okq (⟨"LeafFormula$Tape", "byteAt", "(I)I"⟩, 5) := ⟨⟨by decide +kernel, by decide +kernel⟩, List.mem_of_getElem? (i := 36) (by decide +kernel), List.mem_of_getElem? (i := 373) (by decide +kernel), List.mem_of_getElem? (i := 374) (by decide +kernel)⟩
theorem lw_p5 : lw_okq (⟨"LeafFormula$Tape", "addPiece", "(II)V"⟩, 5) := ⟨⟨by decide +kernel, by decide +kernel⟩, List.mem_of_getElem? (i := 36) (by decide +kernel), List.mem_of_getElem? (i := 383) (by decide +kernel), List.mem_of_getElem? (i := 384) (by decide +kernel)⟩
theorem lw_p6 : lw_okq (⟨"LeafFormula$Tape", "signOfWord", "(II)I"⟩, 5) := ⟨⟨by decide +kernel, by decide +kernel⟩, List.mem_of_getElem? (i := 36) (by decide +kernel), List.mem_of_getElem? (i := 390) (by decide +kernel), List.mem_of_getElem? (i := 391) (by decide +kernel)⟩
theorem lw_p7 : lw_okq (⟨"LeafFormula$Tape", "valueOfNumber", "(II)I"⟩, 5) := ⟨⟨by decide +kernel, by decide +kernel⟩, List.mem_of_getElem? (i := 36) (by decide +kernel), List.mem_of_getElem? (i := 479) (by decide +kernel), List.mem_of_getElem? (i := 480) (by decide +kernel)⟩
theorem lw_p8 : lw_okq (⟨"LeafFormula$Reader", "readsGroup", "()Z"⟩, 6) := ⟨⟨by decide +kernel, by decide +kernel⟩, List.mem_of_getElem? (i := 86) (by decide +kernel), List.mem_of_getElem? (i := 488) (by decide +kernel), List.mem_of_getElem? (i := 489) (by decide +kernel)⟩
theorem lw_p9 : lw_okq (⟨"LeafFormula$Reader", "takes", "(I)Z"⟩, 6) := ⟨⟨by decide +kernel, by decide +kernel⟩, List.mem_of_getElem? (i := 86) (by decide +kernel), List.mem_of_getElem? (i := 492) (by decide +kernel), List.mem_of_getElem? (i := 493) (by decide +kernel)⟩
theorem lw_p10 : lw_okq (⟨"LeafFormula$Reader", "skips", "(I)Z"⟩, 6) := ⟨⟨by decide +kernel, by decide +kernel⟩, List.mem_of_getElem? (i := 86) (by decide +kernel), List.mem_of_getElem? (i := 501) (by decide +kernel), List.mem_of_getElem? (i := 502) (by decide +kernel)⟩
theorem lw_p11 : lw_okq (⟨"LeafFormula$Reader", "readsChangeList", "()Z"⟩, 6) := ⟨⟨by decide +kernel, by decide +kernel⟩, List.mem_of_getElem? (i := 86) (by decide +kernel), List.mem_of_getElem? (i := 505) (by decide +kernel), List.mem_of_getElem? (i := 506) (by decide +kernel)⟩
theorem lw_p12 : lw_okq (⟨"LeafFormula$Reader", "readsChange", "()Z"⟩, 6) := ⟨⟨by decide +kernel, by decide +kernel⟩, List.mem_of_getElem? (i := 86) (by decide +kernel), List.mem_of_getElem? (i := 509) (by decide +kernel), List.mem_of_getElem? (i := 510) (by decide +kernel)⟩
theorem lw_p13 : lw_okq (⟨"LeafFormula", "draftFormula", "()I"⟩, 12) := ⟨⟨by decide +kernel, by decide +kernel⟩, List.mem_of_getElem? (i := 28) (by decide +kernel), List.mem_of_getElem? (i := 517) (by decide +kernel), List.mem_of_getElem? (i := 518) (by decide +kernel)⟩
theorem lw_p14 : lw_okq (⟨"LeafFormula$Plan", "addGathering", "(II)V"⟩, 6) := ⟨⟨by decide +kernel, by decide +kernel⟩, List.mem_of_getElem? (i := 181) (by decide +kernel), List.mem_of_getElem? (i := 549) (by decide +kernel), List.mem_of_getElem? (i := 550) (by decide +kernel)⟩
theorem lw_p15 : lw_okq (⟨"LeafFormula", "refusalOfDraft", "()I"⟩, 12) := ⟨⟨by decide +kernel, by decide +kernel⟩, List.mem_of_getElem? (i := 28) (by decide +kernel), List.mem_of_getElem? (i := 568) (by decide +kernel), List.mem_of_getElem? (i := 569) (by decide +kernel)⟩
def lw_privs_1 : List (MethodName × Nat) := [(⟨"LeafFormula", "refuse", "(I)I"⟩, 12), (⟨"LeafFormula", "answer", "(I)I"⟩, 12), (⟨"LeafFormula$Reader", "begin", "()V"⟩, 6), (⟨"LeafFormula$Tape", "widthAt", "(I)I"⟩, 5), (⟨"LeafFormula$Tape", "byteAt", "(I)I"⟩, 5), (⟨"LeafFormula$Tape", "addPiece", "(II)V"⟩, 5), (⟨"LeafFormula$Tape", "signOfWord", "(II)I"⟩, 5), (⟨"LeafFormula$Tape", "valueOfNumber", "(II)I"⟩, 5), (⟨"LeafFormula$Reader", "readsGroup", "()Z"⟩, 6), (⟨"LeafFormula$Reader", "takes", "(I)Z"⟩, 6), (⟨"LeafFormula$Reader", "skips", "(I)Z"⟩, 6), (⟨"LeafFormula$Reader", "readsChangeList", "()Z"⟩, 6), (⟨"LeafFormula$Reader", "readsChange", "()Z"⟩, 6), (⟨"LeafFormula", "draftFormula", "()I"⟩, 12), (⟨"LeafFormula$Plan", "addGathering", "(II)V"⟩, 6), (⟨"LeafFormula", "refusalOfDraft", "()I"⟩, 12)]
theorem lw_r1 : ∀ q ∈ lw_privs_1, lw_okq q := List.forall_mem_cons.mpr ⟨lw_p0, List.forall_mem_cons.mpr ⟨lw_p1, List.forall_mem_cons.mpr ⟨lw_p2, List.forall_mem_cons.mpr ⟨lw_p3, List.forall_mem_cons.mpr ⟨lw_p4, List.forall_mem_cons.mpr ⟨lw_p5, List.forall_mem_cons.mpr ⟨lw_p6, List.forall_mem_cons.mpr ⟨lw_p7, List.forall_mem_cons.mpr ⟨lw_p8, List.forall_mem_cons.mpr ⟨lw_p9, List.forall_mem_cons.mpr ⟨lw_p10, List.forall_mem_cons.mpr ⟨lw_p11, List.forall_mem_cons.mpr ⟨lw_p12, List.forall_mem_cons.mpr ⟨lw_p13, List.forall_mem_cons.mpr ⟨lw_p14, List.forall_mem_cons.mpr ⟨lw_p15, fun _ h => absurd h List.not_mem_nil⟩⟩⟩⟩⟩⟩⟩⟩⟩⟩⟩⟩⟩⟩⟩⟩
theorem lw_p16 : lw_okq (⟨"LeafFormula", "closeBook", "(I)I"⟩, 12) := ⟨⟨by decide +kernel, by decide +kernel⟩, List.mem_of_getElem? (i := 28) (by decide +kernel), List.mem_of_getElem? (i := 580) (by decide +kernel), List.mem_of_getElem? (i := 581) (by decide +kernel)⟩
theorem lw_p17 : lw_okq (⟨"LeafFormula$Scribe", "writeGroup", "(LLeafFormula$Plan;II)V"⟩, 1) := ⟨⟨by decide +kernel, by decide +kernel⟩, List.mem_of_getElem? (i := 228) (by decide +kernel), List.mem_of_getElem? (i := 653) (by decide +kernel), List.mem_of_getElem? (i := 654) (by decide +kernel)⟩
theorem lw_p18 : lw_okq (⟨"LeafFormula$Scribe", "writeSign", "(I)V"⟩, 1) := ⟨⟨by decide +kernel, by decide +kernel⟩, List.mem_of_getElem? (i := 228) (by decide +kernel), List.mem_of_getElem? (i := 701) (by decide +kernel), List.mem_of_getElem? (i := 702) (by decide +kernel)⟩
theorem lw_p19 : lw_okq (⟨"LeafFormula$Scribe", "writeChangesOf", "(LLeafFormula$Plan;II)V"⟩, 1) := ⟨⟨by decide +kernel, by decide +kernel⟩, List.mem_of_getElem? (i := 228) (by decide +kernel), List.mem_of_getElem? (i := 782) (by decide +kernel), List.mem_of_getElem? (i := 783) (by decide +kernel)⟩
theorem lw_p20 : lw_okq (⟨"LeafFormula$Book", "setOut", "(I)V"⟩, 7) := ⟨⟨by decide +kernel, by decide +kernel⟩, List.mem_of_getElem? (i := 583) (by decide +kernel), List.mem_of_getElem? (i := 855) (by decide +kernel), List.mem_of_getElem? (i := 856) (by decide +kernel)⟩
theorem lw_p21 : lw_okq (⟨"LeafFormula$Book", "addLeaf", "(IIII)V"⟩, 7) := ⟨⟨by decide +kernel, by decide +kernel⟩, List.mem_of_getElem? (i := 583) (by decide +kernel), List.mem_of_getElem? (i := 875) (by decide +kernel), List.mem_of_getElem? (i := 876) (by decide +kernel)⟩
theorem lw_p22 : lw_okq (⟨"LeafFormula", "bookAt", "(I)LLeafFormula$Book;"⟩, 12) := ⟨⟨by decide +kernel, by decide +kernel⟩, List.mem_of_getElem? (i := 28) (by decide +kernel), List.mem_of_getElem? (i := 911) (by decide +kernel), List.mem_of_getElem? (i := 912) (by decide +kernel)⟩
theorem lw_p23 : lw_okq (⟨"LeafFormula", "draftChanges", "(LLeafFormula$Book;)I"⟩, 12) := ⟨⟨by decide +kernel, by decide +kernel⟩, List.mem_of_getElem? (i := 28) (by decide +kernel), List.mem_of_getElem? (i := 919) (by decide +kernel), List.mem_of_getElem? (i := 920) (by decide +kernel)⟩
theorem lw_p24 : lw_okq (⟨"LeafFormula$Reader", "readsOneName", "(I)Z"⟩, 6) := ⟨⟨by decide +kernel, by decide +kernel⟩, List.mem_of_getElem? (i := 86) (by decide +kernel), List.mem_of_getElem? (i := 934) (by decide +kernel), List.mem_of_getElem? (i := 935) (by decide +kernel)⟩
theorem lw_p25 : lw_okq (⟨"LeafFormula", "draftRow", "(LLeafFormula$Book;)I"⟩, 12) := ⟨⟨by decide +kernel, by decide +kernel⟩, List.mem_of_getElem? (i := 28) (by decide +kernel), List.mem_of_getElem? (i := 938) (by decide +kernel), List.mem_of_getElem? (i := 939) (by decide +kernel)⟩
theorem lw_p26 : lw_okq (⟨"LeafFormula$Book", "placeOfSlot", "(II)I"⟩, 7) := ⟨⟨by decide +kernel, by decide +kernel⟩, List.mem_of_getElem? (i := 583) (by decide +kernel), List.mem_of_getElem? (i := 951) (by decide +kernel), List.mem_of_getElem? (i := 952) (by decide +kernel)⟩
theorem lw_p27 : lw_okq (⟨"LeafFormula", "keepCopy", "(ILLeafFormula$Book;)I"⟩, 12) := ⟨⟨by decide +kernel, by decide +kernel⟩, List.mem_of_getElem? (i := 28) (by decide +kernel), List.mem_of_getElem? (i := 968) (by decide +kernel), List.mem_of_getElem? (i := 969) (by decide +kernel)⟩
theorem lw_p28 : lw_okq (⟨"LeafFormula$Collator", "countEntries", "(LLeafFormula$Row;)V"⟩, 3) := ⟨⟨by decide +kernel, by decide +kernel⟩, List.mem_of_getElem? (i := 212) (by decide +kernel), List.mem_of_getElem? (i := 1031) (by decide +kernel), List.mem_of_getElem? (i := 1032) (by decide +kernel)⟩
theorem lw_p29 : lw_okq (⟨"LeafFormula$Collator", "markAt", "(I)I"⟩, 3) := ⟨⟨by decide +kernel, by decide +kernel⟩, List.mem_of_getElem? (i := 212) (by decide +kernel), List.mem_of_getElem? (i := 1037) (by decide +kernel), List.mem_of_getElem? (i := 1038) (by decide +kernel)⟩
theorem lw_p30 : lw_okq (⟨"LeafFormula$Collator", "setMark", "(II)V"⟩, 3) := ⟨⟨by decide +kernel, by decide +kernel⟩, List.mem_of_getElem? (i := 212) (by decide +kernel), List.mem_of_getElem? (i := 1041) (by decide +kernel), List.mem_of_getElem? (i := 1042) (by decide +kernel)⟩
theorem lw_p31 : lw_okq (⟨"LeafFormula$Collator", "measureReach", "(LLeafFormula$Row;)I"⟩, 3) := ⟨⟨by decide +kernel, by decide +kernel⟩, List.mem_of_getElem? (i := 212) (by decide +kernel), List.mem_of_getElem? (i := 1056) (by decide +kernel), List.mem_of_getElem? (i := 1057) (by decide +kernel)⟩
def lw_privs_2 : List (MethodName × Nat) := [(⟨"LeafFormula", "closeBook", "(I)I"⟩, 12), (⟨"LeafFormula$Scribe", "writeGroup", "(LLeafFormula$Plan;II)V"⟩, 1), (⟨"LeafFormula$Scribe", "writeSign", "(I)V"⟩, 1), (⟨"LeafFormula$Scribe", "writeChangesOf", "(LLeafFormula$Plan;II)V"⟩, 1), (⟨"LeafFormula$Book", "setOut", "(I)V"⟩, 7), (⟨"LeafFormula$Book", "addLeaf", "(IIII)V"⟩, 7), (⟨"LeafFormula", "bookAt", "(I)LLeafFormula$Book;"⟩, 12), (⟨"LeafFormula", "draftChanges", "(LLeafFormula$Book;)I"⟩, 12), (⟨"LeafFormula$Reader", "readsOneName", "(I)Z"⟩, 6), (⟨"LeafFormula", "draftRow", "(LLeafFormula$Book;)I"⟩, 12), (⟨"LeafFormula$Book", "placeOfSlot", "(II)I"⟩, 7), (⟨"LeafFormula", "keepCopy", "(ILLeafFormula$Book;)I"⟩, 12), (⟨"LeafFormula$Collator", "countEntries", "(LLeafFormula$Row;)V"⟩, 3), (⟨"LeafFormula$Collator", "markAt", "(I)I"⟩, 3), (⟨"LeafFormula$Collator", "setMark", "(II)V"⟩, 3), (⟨"LeafFormula$Collator", "measureReach", "(LLeafFormula$Row;)I"⟩, 3)]
theorem lw_r2 : ∀ q ∈ lw_privs_2, lw_okq q := List.forall_mem_cons.mpr ⟨lw_p16, List.forall_mem_cons.mpr ⟨lw_p17, List.forall_mem_cons.mpr ⟨lw_p18, List.forall_mem_cons.mpr ⟨lw_p19, List.forall_mem_cons.mpr ⟨lw_p20, List.forall_mem_cons.mpr ⟨lw_p21, List.forall_mem_cons.mpr ⟨lw_p22, List.forall_mem_cons.mpr ⟨lw_p23, List.forall_mem_cons.mpr ⟨lw_p24, List.forall_mem_cons.mpr ⟨lw_p25, List.forall_mem_cons.mpr ⟨lw_p26, List.forall_mem_cons.mpr ⟨lw_p27, List.forall_mem_cons.mpr ⟨lw_p28, List.forall_mem_cons.mpr ⟨lw_p29, List.forall_mem_cons.mpr ⟨lw_p30, List.forall_mem_cons.mpr ⟨lw_p31, fun _ h => absurd h List.not_mem_nil⟩⟩⟩⟩⟩⟩⟩⟩⟩⟩⟩⟩⟩⟩⟩⟩
theorem lw_p32 : lw_okq (⟨"LeafFormula$Collator", "listStrays", "(LLeafFormula$Copy;I)V"⟩, 3) := ⟨⟨by decide +kernel, by decide +kernel⟩, List.mem_of_getElem? (i := 212) (by decide +kernel), List.mem_of_getElem? (i := 1062) (by decide +kernel), List.mem_of_getElem? (i := 1063) (by decide +kernel)⟩
theorem lw_p33 : lw_okq (⟨"LeafFormula$Scribe", "writeRuns", "(Ljava/lang/String;LLeafFormula$Book;LLeafFormula$Row;)V"⟩, 1) := ⟨⟨by decide +kernel, by decide +kernel⟩, List.mem_of_getElem? (i := 228) (by decide +kernel), List.mem_of_getElem? (i := 1071) (by decide +kernel), List.mem_of_getElem? (i := 1072) (by decide +kernel)⟩
theorem lw_p34 : lw_okq (⟨"LeafFormula$Scribe", "writeHead", "(Ljava/lang/String;)V"⟩, 1) := ⟨⟨by decide +kernel, by decide +kernel⟩, List.mem_of_getElem? (i := 228) (by decide +kernel), List.mem_of_getElem? (i := 1075) (by decide +kernel), List.mem_of_getElem? (i := 1076) (by decide +kernel)⟩
theorem lw_p35 : lw_okq (⟨"LeafFormula$Scribe", "writeName", "(LLeafFormula$Book;I)V"⟩, 1) := ⟨⟨by decide +kernel, by decide +kernel⟩, List.mem_of_getElem? (i := 228) (by decide +kernel), List.mem_of_getElem? (i := 1082) (by decide +kernel), List.mem_of_getElem? (i := 1083) (by decide +kernel)⟩
theorem lw_p36 : lw_okq (⟨"LeafFormula$Scribe", "writeMoved", "(LLeafFormula$Copy;)V"⟩, 1) := ⟨⟨by decide +kernel, by decide +kernel⟩, List.mem_of_getElem? (i := 228) (by decide +kernel), List.mem_of_getElem? (i := 1088) (by decide +kernel), List.mem_of_getElem? (i := 1089) (by decide +kernel)⟩
theorem lw_p37 : lw_okq (⟨"LeafFormula$Book", "leavesOf", "(I)I"⟩, 7) := ⟨⟨by decide +kernel, by decide +kernel⟩, List.mem_of_getElem? (i := 583) (by decide +kernel), List.mem_of_getElem? (i := 1126) (by decide +kernel), List.mem_of_getElem? (i := 1127) (by decide +kernel)⟩
theorem lw_p38 : lw_okq (⟨"LeafFormula$Book", "cutOf", "(I)I"⟩, 7) := ⟨⟨by decide +kernel, by decide +kernel⟩, List.mem_of_getElem? (i := 583) (by decide +kernel), List.mem_of_getElem? (i := 1130) (by decide +kernel), List.mem_of_getElem? (i := 1131) (by decide +kernel)⟩
theorem lw_p39 : lw_okq (⟨"LeafFormula", "bookWithLeaf", "(II)LLeafFormula$Book;"⟩, 12) := ⟨⟨by decide +kernel, by decide +kernel⟩, List.mem_of_getElem? (i := 28) (by decide +kernel), List.mem_of_getElem? (i := 1143) (by decide +kernel), List.mem_of_getElem? (i := 1144) (by decide +kernel)⟩
theorem lw_p40 : lw_okq (⟨"LeafFormula", "byteOf", "(Ljava/lang/String;I)I"⟩, 12) := ⟨⟨by decide +kernel, by decide +kernel⟩, List.mem_of_getElem? (i := 28) (by decide +kernel), List.mem_of_getElem? (i := 1156) (by decide +kernel), List.mem_of_getElem? (i := 1157) (by decide +kernel)⟩
theorem lw_p41 : lw_okq (⟨"LeafFormula", "copyAt", "(I)LLeafFormula$Copy;"⟩, 12) := ⟨⟨by decide +kernel, by decide +kernel⟩, List.mem_of_getElem? (i := 28) (by decide +kernel), List.mem_of_getElem? (i := 1223) (by decide +kernel), List.mem_of_getElem? (i := 1224) (by decide +kernel)⟩
theorem lw_p42 : lw_okq (⟨"LeafFormula", "numberOf", "(LLeafFormula$Row;I)I"⟩, 12) := ⟨⟨by decide +kernel, by decide +kernel⟩, List.mem_of_getElem? (i := 28) (by decide +kernel), List.mem_of_getElem? (i := 1235) (by decide +kernel), List.mem_of_getElem? (i := 1236) (by decide +kernel)⟩
theorem lw_p43 : lw_okq (⟨"LeafFormula$Collator", "markBoth", "(LLeafFormula$Copy;LLeafFormula$Copy;)V"⟩, 3) := ⟨⟨by decide +kernel, by decide +kernel⟩, List.mem_of_getElem? (i := 212) (by decide +kernel), List.mem_of_getElem? (i := 1256) (by decide +kernel), List.mem_of_getElem? (i := 1257) (by decide +kernel)⟩
theorem lw_p44 : lw_okq (⟨"LeafFormulaModel", "no", "(I)I"⟩, 49) := ⟨⟨by decide +kernel, by decide +kernel⟩, List.mem_of_getElem? (i := 1273) (by decide +kernel), List.mem_of_getElem? (i := 1432) (by decide +kernel), List.mem_of_getElem? (i := 1433) (by decide +kernel)⟩
theorem lw_p45 : lw_okq (⟨"LeafFormulaModel", "fine", "(I)I"⟩, 49) := ⟨⟨by decide +kernel, by decide +kernel⟩, List.mem_of_getElem? (i := 1273) (by decide +kernel), List.mem_of_getElem? (i := 1436) (by decide +kernel), List.mem_of_getElem? (i := 1437) (by decide +kernel)⟩
theorem lw_p46 : lw_okq (⟨"LeafFormulaModel", "begins", "()V"⟩, 49) := ⟨⟨by decide +kernel, by decide +kernel⟩, List.mem_of_getElem? (i := 1273) (by decide +kernel), List.mem_of_getElem? (i := 1451) (by decide +kernel), List.mem_of_getElem? (i := 1452) (by decide +kernel)⟩
theorem lw_p47 : lw_okq (⟨"LeafFormulaModel", "next", "()V"⟩, 49) := ⟨⟨by decide +kernel, by decide +kernel⟩, List.mem_of_getElem? (i := 1273) (by decide +kernel), List.mem_of_getElem? (i := 1455) (by decide +kernel), List.mem_of_getElem? (i := 1456) (by decide +kernel)⟩
def lw_privs_3 : List (MethodName × Nat) := [(⟨"LeafFormula$Collator", "listStrays", "(LLeafFormula$Copy;I)V"⟩, 3), (⟨"LeafFormula$Scribe", "writeRuns", "(Ljava/lang/String;LLeafFormula$Book;LLeafFormula$Row;)V"⟩, 1), (⟨"LeafFormula$Scribe", "writeHead", "(Ljava/lang/String;)V"⟩, 1), (⟨"LeafFormula$Scribe", "writeName", "(LLeafFormula$Book;I)V"⟩, 1), (⟨"LeafFormula$Scribe", "writeMoved", "(LLeafFormula$Copy;)V"⟩, 1), (⟨"LeafFormula$Book", "leavesOf", "(I)I"⟩, 7), (⟨"LeafFormula$Book", "cutOf", "(I)I"⟩, 7), (⟨"LeafFormula", "bookWithLeaf", "(II)LLeafFormula$Book;"⟩, 12), (⟨"LeafFormula", "byteOf", "(Ljava/lang/String;I)I"⟩, 12), (⟨"LeafFormula", "copyAt", "(I)LLeafFormula$Copy;"⟩, 12), (⟨"LeafFormula", "numberOf", "(LLeafFormula$Row;I)I"⟩, 12), (⟨"LeafFormula$Collator", "markBoth", "(LLeafFormula$Copy;LLeafFormula$Copy;)V"⟩, 3), (⟨"LeafFormulaModel", "no", "(I)I"⟩, 49), (⟨"LeafFormulaModel", "fine", "(I)I"⟩, 49), (⟨"LeafFormulaModel", "begins", "()V"⟩, 49), (⟨"LeafFormulaModel", "next", "()V"⟩, 49)]
theorem lw_r3 : ∀ q ∈ lw_privs_3, lw_okq q := List.forall_mem_cons.mpr ⟨lw_p32, List.forall_mem_cons.mpr ⟨lw_p33, List.forall_mem_cons.mpr ⟨lw_p34, List.forall_mem_cons.mpr ⟨lw_p35, List.forall_mem_cons.mpr ⟨lw_p36, List.forall_mem_cons.mpr ⟨lw_p37, List.forall_mem_cons.mpr ⟨lw_p38, List.forall_mem_cons.mpr ⟨lw_p39, List.forall_mem_cons.mpr ⟨lw_p40, List.forall_mem_cons.mpr ⟨lw_p41, List.forall_mem_cons.mpr ⟨lw_p42, List.forall_mem_cons.mpr ⟨lw_p43, List.forall_mem_cons.mpr ⟨lw_p44, List.forall_mem_cons.mpr ⟨lw_p45, List.forall_mem_cons.mpr ⟨lw_p46, List.forall_mem_cons.mpr ⟨lw_p47, fun _ h => absurd h List.not_mem_nil⟩⟩⟩⟩⟩⟩⟩⟩⟩⟩⟩⟩⟩⟩⟩⟩
theorem lw_p48 : lw_okq (⟨"LeafFormulaModel", "signHere", "()I"⟩, 49) := ⟨⟨by decide +kernel, by decide +kernel⟩, List.mem_of_getElem? (i := 1273) (by decide +kernel), List.mem_of_getElem? (i := 1459) (by decide +kernel), List.mem_of_getElem? (i := 1460) (by decide +kernel)⟩
theorem lw_p49 : lw_okq (⟨"LeafFormulaModel", "isSpelled", "(Ljava/lang/String;)Z"⟩, 49) := ⟨⟨by decide +kernel, by decide +kernel⟩, List.mem_of_getElem? (i := 1273) (by decide +kernel), List.mem_of_getElem? (i := 1464) (by decide +kernel), List.mem_of_getElem? (i := 1465) (by decide +kernel)⟩
theorem lw_p50 : lw_okq (⟨"LeafFormulaModel", "readGroup", "()V"⟩, 49) := ⟨⟨by decide +kernel, by decide +kernel⟩, List.mem_of_getElem? (i := 1273) (by decide +kernel), List.mem_of_getElem? (i := 1473) (by decide +kernel), List.mem_of_getElem? (i := 1474) (by decide +kernel)⟩
theorem lw_p51 : lw_okq (⟨"LeafFormulaModel", "take", "(I)I"⟩, 49) := ⟨⟨by decide +kernel, by decide +kernel⟩, List.mem_of_getElem? (i := 1273) (by decide +kernel), List.mem_of_getElem? (i := 1477) (by decide +kernel), List.mem_of_getElem? (i := 1478) (by decide +kernel)⟩
theorem lw_p52 : lw_okq (⟨"LeafFormulaModel", "goes", "(I)Z"⟩, 49) := ⟨⟨by decide +kernel, by decide +kernel⟩, List.mem_of_getElem? (i := 1273) (by decide +kernel), List.mem_of_getElem? (i := 1481) (by decide +kernel), List.mem_of_getElem? (i := 1482) (by decide +kernel)⟩
theorem lw_p53 : lw_okq (⟨"LeafFormulaModel", "isMark", "(I)Z"⟩, 49) := ⟨⟨by decide +kernel, by decide +kernel⟩, List.mem_of_getElem? (i := 1273) (by decide +kernel), List.mem_of_getElem? (i := 1485) (by decide +kernel), List.mem_of_getElem? (i := 1486) (by decide +kernel)⟩
theorem lw_p54 : lw_okq (⟨"LeafFormulaModel", "readChanges", "()V"⟩, 49) := ⟨⟨by decide +kernel, by decide +kernel⟩, List.mem_of_getElem? (i := 1273) (by decide +kernel), List.mem_of_getElem? (i := 1489) (by decide +kernel), List.mem_of_getElem? (i := 1490) (by decide +kernel)⟩
theorem lw_p55 : lw_okq (⟨"LeafFormulaModel", "readChange", "()V"⟩, 49) := ⟨⟨by decide +kernel, by decide +kernel⟩, List.mem_of_getElem? (i := 1273) (by decide +kernel), List.mem_of_getElem? (i := 1493) (by decide +kernel), List.mem_of_getElem? (i := 1494) (by decide +kernel)⟩
theorem lw_p56 : lw_okq (⟨"LeafFormulaModel", "must", "(I)V"⟩, 49) := ⟨⟨by decide +kernel, by decide +kernel⟩, List.mem_of_getElem? (i := 1273) (by decide +kernel), List.mem_of_getElem? (i := 1497) (by decide +kernel), List.mem_of_getElem? (i := 1498) (by decide +kernel)⟩
theorem lw_p57 : lw_okq (⟨"LeafFormulaModel", "ends", "()Z"⟩, 49) := ⟨⟨by decide +kernel, by decide +kernel⟩, List.mem_of_getElem? (i := 1273) (by decide +kernel), List.mem_of_getElem? (i := 1501) (by decide +kernel), List.mem_of_getElem? (i := 1502) (by decide +kernel)⟩
theorem lw_p58 : lw_okq (⟨"LeafFormulaModel", "faultOfAll", "()I"⟩, 49) := ⟨⟨by decide +kernel, by decide +kernel⟩, List.mem_of_getElem? (i := 1273) (by decide +kernel), List.mem_of_getElem? (i := 1505) (by decide +kernel), List.mem_of_getElem? (i := 1506) (by decide +kernel)⟩
theorem lw_p59 : lw_okq (⟨"LeafFormulaModel", "faultOfGroup", "(IIZ)I"⟩, 49) := ⟨⟨by decide +kernel, by decide +kernel⟩, List.mem_of_getElem? (i := 1273) (by decide +kernel), List.mem_of_getElem? (i := 1509) (by decide +kernel), List.mem_of_getElem? (i := 1510) (by decide +kernel)⟩
theorem lw_p60 : lw_okq (⟨"LeafFormulaModel", "isFewPut", "(II)Z"⟩, 49) := ⟨⟨by decide +kernel, by decide +kernel⟩, List.mem_of_getElem? (i := 1273) (by decide +kernel), List.mem_of_getElem? (i := 1516) (by decide +kernel), List.mem_of_getElem? (i := 1517) (by decide +kernel)⟩
theorem lw_p61 : lw_okq (⟨"LeafFormulaModel", "isTwice", "(II)Z"⟩, 49) := ⟨⟨by decide +kernel, by decide +kernel⟩, List.mem_of_getElem? (i := 1273) (by decide +kernel), List.mem_of_getElem? (i := 1520) (by decide +kernel), List.mem_of_getElem? (i := 1521) (by decide +kernel)⟩
theorem lw_p62 : lw_okq (⟨"LeafFormulaModel", "add", "(III)V"⟩, 49) := ⟨⟨by decide +kernel, by decide +kernel⟩, List.mem_of_getElem? (i := 1273) (by decide +kernel), List.mem_of_getElem? (i := 1524) (by decide +kernel), List.mem_of_getElem? (i := 1525) (by decide +kernel)⟩
theorem lw_p63 : lw_okq (⟨"LeafFormulaModel", "apply", "(II)V"⟩, 49) := ⟨⟨by decide +kernel, by decide +kernel⟩, List.mem_of_getElem? (i := 1273) (by decide +kernel), List.mem_of_getElem? (i := 1531) (by decide +kernel), List.mem_of_getElem? (i := 1532) (by decide +kernel)⟩
def lw_privs_4 : List (MethodName × Nat) := [(⟨"LeafFormulaModel", "signHere", "()I"⟩, 49), (⟨"LeafFormulaModel", "isSpelled", "(Ljava/lang/String;)Z"⟩, 49), (⟨"LeafFormulaModel", "readGroup", "()V"⟩, 49), (⟨"LeafFormulaModel", "take", "(I)I"⟩, 49), (⟨"LeafFormulaModel", "goes", "(I)Z"⟩, 49), (⟨"LeafFormulaModel", "isMark", "(I)Z"⟩, 49), (⟨"LeafFormulaModel", "readChanges", "()V"⟩, 49), (⟨"LeafFormulaModel", "readChange", "()V"⟩, 49), (⟨"LeafFormulaModel", "must", "(I)V"⟩, 49), (⟨"LeafFormulaModel", "ends", "()Z"⟩, 49), (⟨"LeafFormulaModel", "faultOfAll", "()I"⟩, 49), (⟨"LeafFormulaModel", "faultOfGroup", "(IIZ)I"⟩, 49), (⟨"LeafFormulaModel", "isFewPut", "(II)Z"⟩, 49), (⟨"LeafFormulaModel", "isTwice", "(II)Z"⟩, 49), (⟨"LeafFormulaModel", "add", "(III)V"⟩, 49), (⟨"LeafFormulaModel", "apply", "(II)V"⟩, 49)]
theorem lw_r4 : ∀ q ∈ lw_privs_4, lw_okq q := List.forall_mem_cons.mpr ⟨lw_p48, List.forall_mem_cons.mpr ⟨lw_p49, List.forall_mem_cons.mpr ⟨lw_p50, List.forall_mem_cons.mpr ⟨lw_p51, List.forall_mem_cons.mpr ⟨lw_p52, List.forall_mem_cons.mpr ⟨lw_p53, List.forall_mem_cons.mpr ⟨lw_p54, List.forall_mem_cons.mpr ⟨lw_p55, List.forall_mem_cons.mpr ⟨lw_p56, List.forall_mem_cons.mpr ⟨lw_p57, List.forall_mem_cons.mpr ⟨lw_p58, List.forall_mem_cons.mpr ⟨lw_p59, List.forall_mem_cons.mpr ⟨lw_p60, List.forall_mem_cons.mpr ⟨lw_p61, List.forall_mem_cons.mpr ⟨lw_p62, List.forall_mem_cons.mpr ⟨lw_p63, fun _ h => absurd h List.not_mem_nil⟩⟩⟩⟩⟩⟩⟩⟩⟩⟩⟩⟩⟩⟩⟩⟩
theorem lw_p64 : lw_okq (⟨"LeafFormulaModel", "gatheringOf", "(II)I"⟩, 49) := ⟨⟨by decide +kernel, by decide +kernel⟩, List.mem_of_getElem? (i := 1273) (by decide +kernel), List.mem_of_getElem? (i := 1535) (by decide +kernel), List.mem_of_getElem? (i := 1536) (by decide +kernel)⟩
theorem lw_p65 : lw_okq (⟨"LeafFormulaModel", "isMade", "(I)I"⟩, 49) := ⟨⟨by decide +kernel, by decide +kernel⟩, List.mem_of_getElem? (i := 1273) (by decide +kernel), List.mem_of_getElem? (i := 1539) (by decide +kernel), List.mem_of_getElem? (i := 1540) (by decide +kernel)⟩
theorem lw_p66 : lw_okq (⟨"LeafFormulaModel", "total", "(I)I"⟩, 49) := ⟨⟨by decide +kernel, by decide +kernel⟩, List.mem_of_getElem? (i := 1273) (by decide +kernel), List.mem_of_getElem? (i := 1543) (by decide +kernel), List.mem_of_getElem? (i := 1544) (by decide +kernel)⟩
theorem lw_p67 : lw_okq (⟨"LeafFormulaModel", "layOut", "(I)V"⟩, 49) := ⟨⟨by decide +kernel, by decide +kernel⟩, List.mem_of_getElem? (i := 1273) (by decide +kernel), List.mem_of_getElem? (i := 1547) (by decide +kernel), List.mem_of_getElem? (i := 1548) (by decide +kernel)⟩
theorem lw_p68 : lw_okq (⟨"LeafFormulaModel", "isBook", "(I)Z"⟩, 49) := ⟨⟨by decide +kernel, by decide +kernel⟩, List.mem_of_getElem? (i := 1273) (by decide +kernel), List.mem_of_getElem? (i := 1555) (by decide +kernel), List.mem_of_getElem? (i := 1556) (by decide +kernel)⟩
theorem lw_p69 : lw_okq (⟨"LeafFormulaModel", "faultOfChanges", "(I)I"⟩, 49) := ⟨⟨by decide +kernel, by decide +kernel⟩, List.mem_of_getElem? (i := 1273) (by decide +kernel), List.mem_of_getElem? (i := 1559) (by decide +kernel), List.mem_of_getElem? (i := 1560) (by decide +kernel)⟩
theorem lw_p70 : lw_okq (⟨"LeafFormulaModel", "readName", "()V"⟩, 49) := ⟨⟨by decide +kernel, by decide +kernel⟩, List.mem_of_getElem? (i := 1273) (by decide +kernel), List.mem_of_getElem? (i := 1567) (by decide +kernel), List.mem_of_getElem? (i := 1568) (by decide +kernel)⟩
theorem lw_p71 : lw_okq (⟨"LeafFormulaModel", "named", "(I)I"⟩, 49) := ⟨⟨by decide +kernel, by decide +kernel⟩, List.mem_of_getElem? (i := 1273) (by decide +kernel), List.mem_of_getElem? (i := 1571) (by decide +kernel), List.mem_of_getElem? (i := 1572) (by decide +kernel)⟩
theorem lw_p72 : lw_okq (⟨"LeafFormulaModel", "placeOf", "(IIII)I"⟩, 49) := ⟨⟨by decide +kernel, by decide +kernel⟩, List.mem_of_getElem? (i := 1273) (by decide +kernel), List.mem_of_getElem? (i := 1575) (by decide +kernel), List.mem_of_getElem? (i := 1576) (by decide +kernel)⟩
theorem lw_p73 : lw_okq (⟨"LeafFormulaModel", "isLeaf", "(II)Z"⟩, 49) := ⟨⟨by decide +kernel, by decide +kernel⟩, List.mem_of_getElem? (i := 1273) (by decide +kernel), List.mem_of_getElem? (i := 1611) (by decide +kernel), List.mem_of_getElem? (i := 1612) (by decide +kernel)⟩
theorem lw_p74 : lw_okq (⟨"LeafFormulaModel", "isPlain", "(II)Z"⟩, 49) := ⟨⟨by decide +kernel, by decide +kernel⟩, List.mem_of_getElem? (i := 1273) (by decide +kernel), List.mem_of_getElem? (i := 1615) (by decide +kernel), List.mem_of_getElem? (i := 1616) (by decide +kernel)⟩
theorem lw_p75 : lw_okq (⟨"LeafFormulaModel", "conjugate", "(II)I"⟩, 49) := ⟨⟨by decide +kernel, by decide +kernel⟩, List.mem_of_getElem? (i := 1273) (by decide +kernel), List.mem_of_getElem? (i := 1619) (by decide +kernel), List.mem_of_getElem? (i := 1620) (by decide +kernel)⟩
theorem lw_p76 : lw_okq (⟨"LeafFormulaModel", "writeBook", "(I)V"⟩, 49) := ⟨⟨by decide +kernel, by decide +kernel⟩, List.mem_of_getElem? (i := 1273) (by decide +kernel), List.mem_of_getElem? (i := 1627) (by decide +kernel), List.mem_of_getElem? (i := 1628) (by decide +kernel)⟩
theorem lw_p77 : lw_okq (⟨"LeafFormulaModel", "write", "(I)V"⟩, 49) := ⟨⟨by decide +kernel, by decide +kernel⟩, List.mem_of_getElem? (i := 1273) (by decide +kernel), List.mem_of_getElem? (i := 1634) (by decide +kernel), List.mem_of_getElem? (i := 1635) (by decide +kernel)⟩
theorem lw_p78 : lw_okq (⟨"LeafFormulaModel", "writeSign", "(I)V"⟩, 49) := ⟨⟨by decide +kernel, by decide +kernel⟩, List.mem_of_getElem? (i := 1273) (by decide +kernel), List.mem_of_getElem? (i := 1638) (by decide +kernel), List.mem_of_getElem? (i := 1639) (by decide +kernel)⟩
theorem lw_p79 : lw_okq (⟨"LeafFormulaModel", "writeWord", "(Ljava/lang/String;)V"⟩, 49) := ⟨⟨by decide +kernel, by decide +kernel⟩, List.mem_of_getElem? (i := 1273) (by decide +kernel), List.mem_of_getElem? (i := 1642) (by decide +kernel), List.mem_of_getElem? (i := 1643) (by decide +kernel)⟩
def lw_privs_5 : List (MethodName × Nat) := [(⟨"LeafFormulaModel", "gatheringOf", "(II)I"⟩, 49), (⟨"LeafFormulaModel", "isMade", "(I)I"⟩, 49), (⟨"LeafFormulaModel", "total", "(I)I"⟩, 49), (⟨"LeafFormulaModel", "layOut", "(I)V"⟩, 49), (⟨"LeafFormulaModel", "isBook", "(I)Z"⟩, 49), (⟨"LeafFormulaModel", "faultOfChanges", "(I)I"⟩, 49), (⟨"LeafFormulaModel", "readName", "()V"⟩, 49), (⟨"LeafFormulaModel", "named", "(I)I"⟩, 49), (⟨"LeafFormulaModel", "placeOf", "(IIII)I"⟩, 49), (⟨"LeafFormulaModel", "isLeaf", "(II)Z"⟩, 49), (⟨"LeafFormulaModel", "isPlain", "(II)Z"⟩, 49), (⟨"LeafFormulaModel", "conjugate", "(II)I"⟩, 49), (⟨"LeafFormulaModel", "writeBook", "(I)V"⟩, 49), (⟨"LeafFormulaModel", "write", "(I)V"⟩, 49), (⟨"LeafFormulaModel", "writeSign", "(I)V"⟩, 49), (⟨"LeafFormulaModel", "writeWord", "(Ljava/lang/String;)V"⟩, 49)]
theorem lw_r5 : ∀ q ∈ lw_privs_5, lw_okq q := List.forall_mem_cons.mpr ⟨lw_p64, List.forall_mem_cons.mpr ⟨lw_p65, List.forall_mem_cons.mpr ⟨lw_p66, List.forall_mem_cons.mpr ⟨lw_p67, List.forall_mem_cons.mpr ⟨lw_p68, List.forall_mem_cons.mpr ⟨lw_p69, List.forall_mem_cons.mpr ⟨lw_p70, List.forall_mem_cons.mpr ⟨lw_p71, List.forall_mem_cons.mpr ⟨lw_p72, List.forall_mem_cons.mpr ⟨lw_p73, List.forall_mem_cons.mpr ⟨lw_p74, List.forall_mem_cons.mpr ⟨lw_p75, List.forall_mem_cons.mpr ⟨lw_p76, List.forall_mem_cons.mpr ⟨lw_p77, List.forall_mem_cons.mpr ⟨lw_p78, List.forall_mem_cons.mpr ⟨lw_p79, fun _ h => absurd h List.not_mem_nil⟩⟩⟩⟩⟩⟩⟩⟩⟩⟩⟩⟩⟩⟩⟩⟩
theorem lw_p80 : lw_okq (⟨"LeafFormulaModel", "writeNumber", "(I)V"⟩, 49) := ⟨⟨by decide +kernel, by decide +kernel⟩, List.mem_of_getElem? (i := 1273) (by decide +kernel), List.mem_of_getElem? (i := 1646) (by decide +kernel), List.mem_of_getElem? (i := 1647) (by decide +kernel)⟩
theorem lw_p81 : lw_okq (⟨"LeafFormulaModel", "writeChanges", "(III)V"⟩, 49) := ⟨⟨by decide +kernel, by decide +kernel⟩, List.mem_of_getElem? (i := 1273) (by decide +kernel), List.mem_of_getElem? (i := 1650) (by decide +kernel), List.mem_of_getElem? (i := 1651) (by decide +kernel)⟩
theorem lw_p82 : lw_okq (⟨"LeafFormulaModel", "tell", "(I)I"⟩, 49) := ⟨⟨by decide +kernel, by decide +kernel⟩, List.mem_of_getElem? (i := 1273) (by decide +kernel), List.mem_of_getElem? (i := 1654) (by decide +kernel), List.mem_of_getElem? (i := 1655) (by decide +kernel)⟩
theorem lw_p83 : lw_okq (⟨"LeafFormulaModel", "writeName", "(II)V"⟩, 49) := ⟨⟨by decide +kernel, by decide +kernel⟩, List.mem_of_getElem? (i := 1273) (by decide +kernel), List.mem_of_getElem? (i := 1662) (by decide +kernel), List.mem_of_getElem? (i := 1663) (by decide +kernel)⟩
theorem lw_p84 : lw_okq (⟨"LeafFormulaModel", "isCopy", "(I)Z"⟩, 49) := ⟨⟨by decide +kernel, by decide +kernel⟩, List.mem_of_getElem? (i := 1273) (by decide +kernel), List.mem_of_getElem? (i := 1699) (by decide +kernel), List.mem_of_getElem? (i := 1700) (by decide +kernel)⟩
theorem lw_p85 : lw_okq (⟨"LeafFormulaModel", "look", "(I)V"⟩, 49) := ⟨⟨by decide +kernel, by decide +kernel⟩, List.mem_of_getElem? (i := 1273) (by decide +kernel), List.mem_of_getElem? (i := 1703) (by decide +kernel), List.mem_of_getElem? (i := 1704) (by decide +kernel)⟩
theorem lw_p86 : lw_okq (⟨"LeafFormulaModel", "countTold", "(II)I"⟩, 49) := ⟨⟨by decide +kernel, by decide +kernel⟩, List.mem_of_getElem? (i := 1273) (by decide +kernel), List.mem_of_getElem? (i := 1708) (by decide +kernel), List.mem_of_getElem? (i := 1709) (by decide +kernel)⟩
theorem lw_p87 : lw_okq (⟨"LeafFormulaModel", "many", "(II)I"⟩, 49) := ⟨⟨by decide +kernel, by decide +kernel⟩, List.mem_of_getElem? (i := 1273) (by decide +kernel), List.mem_of_getElem? (i := 1712) (by decide +kernel), List.mem_of_getElem? (i := 1713) (by decide +kernel)⟩
theorem lw_p88 : lw_okq (⟨"LeafFormulaModel", "isTold", "(III)Z"⟩, 49) := ⟨⟨by decide +kernel, by decide +kernel⟩, List.mem_of_getElem? (i := 1273) (by decide +kernel), List.mem_of_getElem? (i := 1716) (by decide +kernel), List.mem_of_getElem? (i := 1717) (by decide +kernel)⟩
theorem lw_p89 : lw_okq (⟨"LeafFormulaModel", "writeNote", "(I)V"⟩, 49) := ⟨⟨by decide +kernel, by decide +kernel⟩, List.mem_of_getElem? (i := 1273) (by decide +kernel), List.mem_of_getElem? (i := 1732) (by decide +kernel), List.mem_of_getElem? (i := 1733) (by decide +kernel)⟩
theorem lw_p90 : lw_okq (⟨"LeafFormulaModel", "writeRuns", "(II)V"⟩, 49) := ⟨⟨by decide +kernel, by decide +kernel⟩, List.mem_of_getElem? (i := 1273) (by decide +kernel), List.mem_of_getElem? (i := 1737) (by decide +kernel), List.mem_of_getElem? (i := 1738) (by decide +kernel)⟩
theorem lw_p91 : lw_okq (⟨"LeafFormulaModel", "twoWhy", "(II)I"⟩, 49) := ⟨⟨by decide +kernel, by decide +kernel⟩, List.mem_of_getElem? (i := 1273) (by decide +kernel), List.mem_of_getElem? (i := 1750) (by decide +kernel), List.mem_of_getElem? (i := 1751) (by decide +kernel)⟩
theorem lw_p92 : lw_okq (⟨"LeafFormulaModel", "mark", "(I[Z)V"⟩, 49) := ⟨⟨by decide +kernel, by decide +kernel⟩, List.mem_of_getElem? (i := 1273) (by decide +kernel), List.mem_of_getElem? (i := 1754) (by decide +kernel), List.mem_of_getElem? (i := 1755) (by decide +kernel)⟩
def lw_privs_6 : List (MethodName × Nat) := [(⟨"LeafFormulaModel", "writeNumber", "(I)V"⟩, 49), (⟨"LeafFormulaModel", "writeChanges", "(III)V"⟩, 49), (⟨"LeafFormulaModel", "tell", "(I)I"⟩, 49), (⟨"LeafFormulaModel", "writeName", "(II)V"⟩, 49), (⟨"LeafFormulaModel", "isCopy", "(I)Z"⟩, 49), (⟨"LeafFormulaModel", "look", "(I)V"⟩, 49), (⟨"LeafFormulaModel", "countTold", "(II)I"⟩, 49), (⟨"LeafFormulaModel", "many", "(II)I"⟩, 49), (⟨"LeafFormulaModel", "isTold", "(III)Z"⟩, 49), (⟨"LeafFormulaModel", "writeNote", "(I)V"⟩, 49), (⟨"LeafFormulaModel", "writeRuns", "(II)V"⟩, 49), (⟨"LeafFormulaModel", "twoWhy", "(II)I"⟩, 49), (⟨"LeafFormulaModel", "mark", "(I[Z)V"⟩, 49)]
theorem lw_r6 : ∀ q ∈ lw_privs_6, lw_okq q := List.forall_mem_cons.mpr ⟨lw_p80, List.forall_mem_cons.mpr ⟨lw_p81, List.forall_mem_cons.mpr ⟨lw_p82, List.forall_mem_cons.mpr ⟨lw_p83, List.forall_mem_cons.mpr ⟨lw_p84, List.forall_mem_cons.mpr ⟨lw_p85, List.forall_mem_cons.mpr ⟨lw_p86, List.forall_mem_cons.mpr ⟨lw_p87, List.forall_mem_cons.mpr ⟨lw_p88, List.forall_mem_cons.mpr ⟨lw_p89, List.forall_mem_cons.mpr ⟨lw_p90, List.forall_mem_cons.mpr ⟨lw_p91, List.forall_mem_cons.mpr ⟨lw_p92, fun _ h => absurd h List.not_mem_nil⟩⟩⟩⟩⟩⟩⟩⟩⟩⟩⟩⟩⟩
def lw_privs : List (MethodName × Nat) := lw_privs_1 ++ (lw_privs_2 ++ (lw_privs_3 ++ (lw_privs_4 ++ (lw_privs_5 ++ (lw_privs_6)))))
def lw_tbl : List Cond := k2_sels lw_privs ++ tables_1
theorem lw_privs_ok : ∀ q ∈ lw_privs, lw_okq q := by
  show ∀ q ∈ lw_privs_1 ++ (lw_privs_2 ++ (lw_privs_3 ++ (lw_privs_4 ++ (lw_privs_5 ++ (lw_privs_6))))), lw_okq q
  exact List.forall_mem_append.mpr ⟨lw_r1, List.forall_mem_append.mpr ⟨lw_r2, List.forall_mem_append.mpr ⟨lw_r3, List.forall_mem_append.mpr ⟨lw_r4, List.forall_mem_append.mpr ⟨lw_r5, lw_r6⟩⟩⟩⟩⟩
-- ===== end of PART A; then your names; then what follows =====
def RX0 : String := "LeafFormula$Book"
def TX0 : u_T := fun k => match k with
  | 0 => ("LeafFormula$Book", "plan", "LLeafFormula$Plan;", true)
  | 1 => ("LeafFormula$Book", "leavesAhead", "[I", true)
  | 2 => ("LeafFormula$Book", "gatheringOf", "LLeafFormula$Row;", true)
  | 3 => ("LeafFormula$Book", "numberOf", "LLeafFormula$Row;", true)
  | 4 => ("LeafFormula$Book", "kindOf", "LLeafFormula$Row;", true)
  | 5 => ("LeafFormula$Book", "insertedOf", "LLeafFormula$Row;", true)
  | _ => ("LeafFormula$Book", "written", "Ljava/lang/String;", true)
def tyX0 : Nat → FieldType := fun k => match k with
  | 0 => .object "LeafFormula$Plan"
  | 1 => .array .int
  | 2 => .object "LeafFormula$Row"
  | 3 => .object "LeafFormula$Row"
  | 4 => .object "LeafFormula$Row"
  | 5 => .object "LeafFormula$Row"
  | _ => .object "java/lang/String"
theorem nmX0 : ∀ a, a < 7 → ∀ b, b < 7 → a ≠ b → (TX0 a).2.1 ≠ (TX0 b).2.1 := by decide +kernel
theorem tyX0_ok : ∀ k, k < 7 → parseFieldDescriptor (TX0 k).2.2.1 = some (tyX0 k) := by decide +kernel
abbrev cX0_init : ByteArray := prog_2_method_1_code
def yX0_init : MethodName := ⟨RX0, "<init>", "(LLeafFormula$Plan;Ljava/lang/String;)V"⟩
abbrev cX0_setOut : ByteArray := prog_2_method_2_code
def yX0_setOut : MethodName := ⟨RX0, "setOut", "(I)V"⟩
abbrev cX0_addLeaf : ByteArray := prog_2_method_3_code
def yX0_addLeaf : MethodName := ⟨RX0, "addLeaf", "(IIII)V"⟩
abbrev cX0_leafCount : ByteArray := prog_2_method_4_code
def yX0_leafCount : MethodName := ⟨RX0, "leafCount", "()I"⟩
abbrev cX0_aboutGathering : ByteArray := prog_2_method_5_code
def yX0_aboutGathering : MethodName := ⟨RX0, "aboutGathering", "(II)I"⟩
abbrev cX0_cutOf : ByteArray := prog_2_method_6_code
def yX0_cutOf : MethodName := ⟨RX0, "cutOf", "(I)I"⟩
abbrev cX0_leavesOf : ByteArray := prog_2_method_7_code
def yX0_leavesOf : MethodName := ⟨RX0, "leavesOf", "(I)I"⟩
abbrev cX0_aboutLeaf : ByteArray := prog_2_method_8_code
def yX0_aboutLeaf : MethodName := ⟨RX0, "aboutLeaf", "(II)I"⟩
abbrev cX0_signAt : ByteArray := prog_2_method_9_code
def yX0_signAt : MethodName := ⟨RX0, "signAt", "(I)I"⟩
abbrev cX0_conjugateOf : ByteArray := prog_2_method_10_code
def yX0_conjugateOf : MethodName := ⟨RX0, "conjugateOf", "(I)I"⟩
abbrev cX0_placeOf : ByteArray := prog_2_method_11_code
def yX0_placeOf : MethodName := ⟨RX0, "placeOf", "(LLeafFormula$NamedLeaves;I)I"⟩
abbrev cX0_placeOfSlot : ByteArray := prog_2_method_12_code
def yX0_placeOfSlot : MethodName := ⟨RX0, "placeOfSlot", "(II)I"⟩
abbrev cX0_listsEntries : ByteArray := prog_2_method_13_code
def yX0_listsEntries : MethodName := ⟨RX0, "listsEntries", "(LLeafFormula$NamedLeaves;LLeafFormula$Row;)Z"⟩
abbrev cX0_sheetsAhead : ByteArray := prog_2_method_14_code
def yX0_sheetsAhead : MethodName := ⟨RX0, "sheetsAhead", "(II)I"⟩
abbrev cX0_sheetOf : ByteArray := prog_2_method_15_code
def yX0_sheetOf : MethodName := ⟨RX0, "sheetOf", "(II)I"⟩
abbrev cX0_numberOnSheet : ByteArray := prog_2_method_16_code
def yX0_numberOnSheet : MethodName := ⟨RX0, "numberOnSheet", "(II)I"⟩
abbrev cX0_formeOf : ByteArray := prog_2_method_17_code
def yX0_formeOf : MethodName := ⟨RX0, "formeOf", "(III)I"⟩
abbrev cX0_sheetInGathering : ByteArray := prog_2_method_18_code
def yX0_sheetInGathering : MethodName := ⟨RX0, "sheetInGathering", "(III)I"⟩
def RX1 : String := "LeafFormula$Collator"
def TX1 : u_T := fun k => match k with
  | 0 => ("LeafFormula$Collator", "marks", "[I", true)
  | 1 => ("LeafFormula$Collator", "reach", "[I", true)
  | _ => ("LeafFormula$Collator", "begins", "[I", true)
def tyX1 : Nat → FieldType := fun k => match k with
  | 0 => .array .int
  | 1 => .array .int
  | _ => .array .int
theorem nmX1 : ∀ a, a < 3 → ∀ b, b < 3 → a ≠ b → (TX1 a).2.1 ≠ (TX1 b).2.1 := by decide +kernel
theorem tyX1_ok : ∀ k, k < 3 → parseFieldDescriptor (TX1 k).2.2.1 = some (tyX1 k) := by decide +kernel
abbrev cX1_init : ByteArray := prog_3_method_1_code
def yX1_init : MethodName := ⟨RX1, "<init>", "()V"⟩
abbrev cX1_collate : ByteArray := prog_3_method_2_code
def yX1_collate : MethodName := ⟨RX1, "collate", "(LLeafFormula$Copy;)V"⟩
abbrev cX1_countApart : ByteArray := prog_3_method_3_code
def yX1_countApart : MethodName := ⟨RX1, "countApart", "(LLeafFormula$Copy;LLeafFormula$Copy;)I"⟩
abbrev cX1_listTogether : ByteArray := prog_3_method_4_code
def yX1_listTogether : MethodName := ⟨RX1, "listTogether", "(LLeafFormula$Copy;LLeafFormula$Copy;LLeafFormula$Row;)V"⟩
abbrev cX1_markAt : ByteArray := prog_3_method_5_code
def yX1_markAt : MethodName := ⟨RX1, "markAt", "(I)I"⟩
abbrev cX1_countEntries : ByteArray := prog_3_method_6_code
def yX1_countEntries : MethodName := ⟨RX1, "countEntries", "(LLeafFormula$Row;)V"⟩
abbrev cX1_markBoth : ByteArray := prog_3_method_7_code
def yX1_markBoth : MethodName := ⟨RX1, "markBoth", "(LLeafFormula$Copy;LLeafFormula$Copy;)V"⟩
abbrev cX1_setMark : ByteArray := prog_3_method_8_code
def yX1_setMark : MethodName := ⟨RX1, "setMark", "(II)V"⟩
abbrev cX1_measureReach : ByteArray := prog_3_method_9_code
def yX1_measureReach : MethodName := ⟨RX1, "measureReach", "(LLeafFormula$Row;)I"⟩
abbrev cX1_listStrays : ByteArray := prog_3_method_10_code
def yX1_listStrays : MethodName := ⟨RX1, "listStrays", "(LLeafFormula$Copy;I)V"⟩
def RX2 : String := "LeafFormula$Copy"
def TX2 : u_T := fun k => match k with
  | 0 => ("LeafFormula$Copy", "bookNumber", "I", true)
  | 1 => ("LeafFormula$Copy", "source", "LLeafFormula$Book;", true)
  | 2 => ("LeafFormula$Copy", "entries", "LLeafFormula$Row;", true)
  | 3 => ("LeafFormula$Copy", "missing", "LLeafFormula$Row;", true)
  | 4 => ("LeafFormula$Copy", "doubled", "LLeafFormula$Row;", true)
  | 5 => ("LeafFormula$Copy", "strays", "LLeafFormula$Row;", true)
  | 6 => ("LeafFormula$Copy", "loose", "LLeafFormula$Row;", true)
  | _ => ("LeafFormula$Copy", "noteText", "Ljava/lang/String;", false)
def tyX2 : Nat → FieldType := fun k => match k with
  | 0 => .int
  | 1 => .object "LeafFormula$Book"
  | 2 => .object "LeafFormula$Row"
  | 3 => .object "LeafFormula$Row"
  | 4 => .object "LeafFormula$Row"
  | 5 => .object "LeafFormula$Row"
  | 6 => .object "LeafFormula$Row"
  | _ => .object "java/lang/String"
theorem nmX2 : ∀ a, a < 8 → ∀ b, b < 8 → a ≠ b → (TX2 a).2.1 ≠ (TX2 b).2.1 := by decide +kernel
theorem tyX2_ok : ∀ k, k < 8 → parseFieldDescriptor (TX2 k).2.2.1 = some (tyX2 k) := by decide +kernel
abbrev cX2_init : ByteArray := prog_4_method_1_code
def yX2_init : MethodName := ⟨RX2, "<init>", "(ILLeafFormula$Book;LLeafFormula$Row;)V"⟩
abbrev cX2_rowOf : ByteArray := prog_4_method_2_code
def yX2_rowOf : MethodName := ⟨RX2, "rowOf", "(I)LLeafFormula$Row;"⟩
def RX3 : String := "LeafFormula$Faults"
def TX3 : u_T := fun k => match k with
  | _ => ("", "", "", false)
def tyX3 : Nat → FieldType := fun k => match k with
  | _ => .int
theorem nmX3 : ∀ a, a < 0 → ∀ b, b < 0 → a ≠ b → (TX3 a).2.1 ≠ (TX3 b).2.1 := by decide +kernel
theorem tyX3_ok : ∀ k, k < 0 → parseFieldDescriptor (TX3 k).2.2.1 = some (tyX3 k) := by decide +kernel
abbrev cX3_ofFormula : ByteArray := prog_5_method_2_code
def yX3_ofFormula : MethodName := ⟨RX3, "ofFormula", "(LLeafFormula$Reader;LLeafFormula$Plan;)I"⟩
abbrev cX3_ofGroup : ByteArray := prog_5_method_3_code
def yX3_ofGroup : MethodName := ⟨RX3, "ofGroup", "(LLeafFormula$Reader;IILLeafFormula$Plan;)I"⟩
abbrev cX3_isSize : ByteArray := prog_5_method_4_code
def yX3_isSize : MethodName := ⟨RX3, "isSize", "(I)Z"⟩
abbrev cX3_ofSigns : ByteArray := prog_5_method_5_code
def yX3_ofSigns : MethodName := ⟨RX3, "ofSigns", "(LLeafFormula$NamedLeaves;IIII)Z"⟩
abbrev cX3_ofChanges : ByteArray := prog_5_method_6_code
def yX3_ofChanges : MethodName := ⟨RX3, "ofChanges", "(LLeafFormula$NamedLeaves;IILLeafFormula$Plan;)I"⟩
abbrev cX3_ofRow : ByteArray := prog_5_method_7_code
def yX3_ofRow : MethodName := ⟨RX3, "ofRow", "(LLeafFormula$NamedLeaves;LLeafFormula$Book;)I"⟩
def RX4 : String := "LeafFormula$Groups"
def TX4 : u_T := fun k => match k with
  | 0 => ("LeafFormula$Groups", "first", "LLeafFormula$Row;", true)
  | 1 => ("LeafFormula$Groups", "last", "LLeafFormula$Row;", true)
  | 2 => ("LeafFormula$Groups", "odd", "LLeafFormula$Row;", true)
  | 3 => ("LeafFormula$Groups", "even", "LLeafFormula$Row;", true)
  | _ => ("LeafFormula$Groups", "changesEnd", "LLeafFormula$Row;", true)
def tyX4 : Nat → FieldType := fun k => match k with
  | 0 => .object "LeafFormula$Row"
  | 1 => .object "LeafFormula$Row"
  | 2 => .object "LeafFormula$Row"
  | 3 => .object "LeafFormula$Row"
  | _ => .object "LeafFormula$Row"
theorem nmX4 : ∀ a, a < 5 → ∀ b, b < 5 → a ≠ b → (TX4 a).2.1 ≠ (TX4 b).2.1 := by decide +kernel
theorem tyX4_ok : ∀ k, k < 5 → parseFieldDescriptor (TX4 k).2.2.1 = some (tyX4 k) := by decide +kernel
abbrev cX4_init : ByteArray := prog_6_method_1_code
def yX4_init : MethodName := ⟨RX4, "<init>", "()V"⟩
abbrev cX4_clear : ByteArray := prog_6_method_2_code
def yX4_clear : MethodName := ⟨RX4, "clear", "()V"⟩
def RX5 : String := "LeafFormula$NamedLeaves"
def TX5 : u_T := fun k => match k with
  | 0 => ("LeafFormula$NamedLeaves", "mark", "LLeafFormula$Row;", true)
  | 1 => ("LeafFormula$NamedLeaves", "sign", "LLeafFormula$Row;", true)
  | 2 => ("LeafFormula$NamedLeaves", "number", "LLeafFormula$Row;", true)
  | _ => ("LeafFormula$NamedLeaves", "inserted", "LLeafFormula$Row;", true)
def tyX5 : Nat → FieldType := fun k => match k with
  | 0 => .object "LeafFormula$Row"
  | 1 => .object "LeafFormula$Row"
  | 2 => .object "LeafFormula$Row"
  | _ => .object "LeafFormula$Row"
theorem nmX5 : ∀ a, a < 4 → ∀ b, b < 4 → a ≠ b → (TX5 a).2.1 ≠ (TX5 b).2.1 := by decide +kernel
theorem tyX5_ok : ∀ k, k < 4 → parseFieldDescriptor (TX5 k).2.2.1 = some (tyX5 k) := by decide +kernel
abbrev cX5_init : ByteArray := prog_7_method_1_code
def yX5_init : MethodName := ⟨RX5, "<init>", "()V"⟩
abbrev cX5_clear : ByteArray := prog_7_method_2_code
def yX5_clear : MethodName := ⟨RX5, "clear", "()V"⟩
abbrev cX5_amount : ByteArray := prog_7_method_3_code
def yX5_amount : MethodName := ⟨RX5, "amount", "()I"⟩
abbrev cX5_isJoined : ByteArray := prog_7_method_4_code
def yX5_isJoined : MethodName := ⟨RX5, "isJoined", "(I)Z"⟩
def RX6 : String := "LeafFormula$Plan"
def TX6 : u_T := fun k => match k with
  | 0 => ("LeafFormula$Plan", "signs", "[I", true)
  | 1 => ("LeafFormula$Plan", "sizes", "[I", true)
  | 2 => ("LeafFormula$Plan", "fates", "[B", true)
  | 3 => ("LeafFormula$Plan", "insertions", "[B", true)
  | 4 => ("LeafFormula$Plan", "gatheringCount", "I", false)
  | _ => ("LeafFormula$Plan", "highest", "I", false)
def tyX6 : Nat → FieldType := fun k => match k with
  | 0 => .array .int
  | 1 => .array .int
  | 2 => .array .byte
  | 3 => .array .byte
  | 4 => .int
  | _ => .int
theorem nmX6 : ∀ a, a < 6 → ∀ b, b < 6 → a ≠ b → (TX6 a).2.1 ≠ (TX6 b).2.1 := by decide +kernel
theorem tyX6_ok : ∀ k, k < 6 → parseFieldDescriptor (TX6 k).2.2.1 = some (tyX6 k) := by decide +kernel
abbrev cX6_init : ByteArray := prog_8_method_1_code
def yX6_init : MethodName := ⟨RX6, "<init>", "()V"⟩
abbrev cX6_clear : ByteArray := prog_8_method_2_code
def yX6_clear : MethodName := ⟨RX6, "clear", "()V"⟩
abbrev cX6_copyFrom : ByteArray := prog_8_method_3_code
def yX6_copyFrom : MethodName := ⟨RX6, "copyFrom", "(LLeafFormula$Plan;)V"⟩
abbrev cX6_addGroup : ByteArray := prog_8_method_4_code
def yX6_addGroup : MethodName := ⟨RX6, "addGroup", "(IIII)V"⟩
abbrev cX6_addGathering : ByteArray := prog_8_method_5_code
def yX6_addGathering : MethodName := ⟨RX6, "addGathering", "(II)V"⟩
abbrev cX6_takesChange : ByteArray := prog_8_method_6_code
def yX6_takesChange : MethodName := ⟨RX6, "takesChange", "(III)Z"⟩
abbrev cX6_signOf : ByteArray := prog_8_method_7_code
def yX6_signOf : MethodName := ⟨RX6, "signOf", "(I)I"⟩
abbrev cX6_sizeOf : ByteArray := prog_8_method_8_code
def yX6_sizeOf : MethodName := ⟨RX6, "sizeOf", "(I)I"⟩
abbrev cX6_slotOf : ByteArray := prog_8_method_9_code
def yX6_slotOf : MethodName := ⟨RX6, "slotOf", "(II)I"⟩
abbrev cX6_isCut : ByteArray := prog_8_method_10_code
def yX6_isCut : MethodName := ⟨RX6, "isCut", "(I)Z"⟩
abbrev cX6_isReplaced : ByteArray := prog_8_method_11_code
def yX6_isReplaced : MethodName := ⟨RX6, "isReplaced", "(I)Z"⟩
abbrev cX6_fateOf : ByteArray := prog_8_method_12_code
def yX6_fateOf : MethodName := ⟨RX6, "fateOf", "(I)I"⟩
abbrev cX6_insertedAt : ByteArray := prog_8_method_13_code
def yX6_insertedAt : MethodName := ⟨RX6, "insertedAt", "(I)I"⟩
abbrev cX6_leavesInAll : ByteArray := prog_8_method_14_code
def yX6_leavesInAll : MethodName := ⟨RX6, "leavesInAll", "()I"⟩
def RX7 : String := "LeafFormula$Reader"
def TX7 : u_T := fun k => match k with
  | 0 => ("LeafFormula$Reader", "tape", "LLeafFormula$Tape;", true)
  | 1 => ("LeafFormula$Reader", "groups", "LLeafFormula$Groups;", true)
  | 2 => ("LeafFormula$Reader", "leaves", "LLeafFormula$NamedLeaves;", true)
  | 3 => ("LeafFormula$Reader", "at", "I", false)
  | 4 => ("LeafFormula$Reader", "taken", "I", false)
  | _ => ("LeafFormula$Reader", "wrongAt", "I", false)
def tyX7 : Nat → FieldType := fun k => match k with
  | 0 => .object "LeafFormula$Tape"
  | 1 => .object "LeafFormula$Groups"
  | 2 => .object "LeafFormula$NamedLeaves"
  | 3 => .int
  | 4 => .int
  | _ => .int
theorem nmX7 : ∀ a, a < 6 → ∀ b, b < 6 → a ≠ b → (TX7 a).2.1 ≠ (TX7 b).2.1 := by decide +kernel
theorem tyX7_ok : ∀ k, k < 6 → parseFieldDescriptor (TX7 k).2.2.1 = some (tyX7 k) := by decide +kernel
abbrev cX7_init : ByteArray := prog_9_method_1_code
def yX7_init : MethodName := ⟨RX7, "<init>", "(LLeafFormula$Tape;)V"⟩
abbrev cX7_readsFormula : ByteArray := prog_9_method_2_code
def yX7_readsFormula : MethodName := ⟨RX7, "readsFormula", "()Z"⟩
abbrev cX7_readsChanges : ByteArray := prog_9_method_3_code
def yX7_readsChanges : MethodName := ⟨RX7, "readsChanges", "()Z"⟩
abbrev cX7_readsRow : ByteArray := prog_9_method_4_code
def yX7_readsRow : MethodName := ⟨RX7, "readsRow", "()Z"⟩
abbrev cX7_readsName : ByteArray := prog_9_method_5_code
def yX7_readsName : MethodName := ⟨RX7, "readsName", "()Z"⟩
abbrev cX7_begin : ByteArray := prog_9_method_6_code
def yX7_begin : MethodName := ⟨RX7, "begin", "()V"⟩
abbrev cX7_takes : ByteArray := prog_9_method_7_code
def yX7_takes : MethodName := ⟨RX7, "takes", "(I)Z"⟩
abbrev cX7_skips : ByteArray := prog_9_method_8_code
def yX7_skips : MethodName := ⟨RX7, "skips", "(I)Z"⟩
abbrev cX7_readsGroup : ByteArray := prog_9_method_9_code
def yX7_readsGroup : MethodName := ⟨RX7, "readsGroup", "()Z"⟩
abbrev cX7_readsChangeList : ByteArray := prog_9_method_10_code
def yX7_readsChangeList : MethodName := ⟨RX7, "readsChangeList", "()Z"⟩
abbrev cX7_readsChange : ByteArray := prog_9_method_11_code
def yX7_readsChange : MethodName := ⟨RX7, "readsChange", "()Z"⟩
abbrev cX7_readsOneName : ByteArray := prog_9_method_12_code
def yX7_readsOneName : MethodName := ⟨RX7, "readsOneName", "(I)Z"⟩
def RX8 : String := "LeafFormula$Row"
def TX8 : u_T := fun k => match k with
  | 0 => ("LeafFormula$Row", "numbers", "[I", true)
  | _ => ("LeafFormula$Row", "length", "I", false)
def tyX8 : Nat → FieldType := fun k => match k with
  | 0 => .array .int
  | _ => .int
theorem nmX8 : ∀ a, a < 2 → ∀ b, b < 2 → a ≠ b → (TX8 a).2.1 ≠ (TX8 b).2.1 := by decide +kernel
theorem tyX8_ok : ∀ k, k < 2 → parseFieldDescriptor (TX8 k).2.2.1 = some (tyX8 k) := by decide +kernel
abbrev cX8_init : ByteArray := prog_10_method_1_code
def yX8_init : MethodName := ⟨RX8, "<init>", "(I)V"⟩
abbrev cX8_add : ByteArray := prog_10_method_2_code
def yX8_add : MethodName := ⟨RX8, "add", "(I)Z"⟩
abbrev cX8_get : ByteArray := prog_10_method_3_code
def yX8_get : MethodName := ⟨RX8, "get", "(I)I"⟩
abbrev cX8_clear : ByteArray := prog_10_method_4_code
def yX8_clear : MethodName := ⟨RX8, "clear", "()V"⟩
abbrev cX8_copyFrom : ByteArray := prog_10_method_5_code
def yX8_copyFrom : MethodName := ⟨RX8, "copyFrom", "(LLeafFormula$Row;)V"⟩
def RX9 : String := "LeafFormula$Scribe"
def TX9 : u_T := fun k => match k with
  | _ => ("LeafFormula$Scribe", "text", "Ljava/lang/StringBuilder;", true)
def tyX9 : Nat → FieldType := fun k => match k with
  | _ => .object "java/lang/StringBuilder"
theorem nmX9 : ∀ a, a < 1 → ∀ b, b < 1 → a ≠ b → (TX9 a).2.1 ≠ (TX9 b).2.1 := by decide +kernel
theorem tyX9_ok : ∀ k, k < 1 → parseFieldDescriptor (TX9 k).2.2.1 = some (tyX9 k) := by decide +kernel
abbrev cX9_init : ByteArray := prog_11_method_1_code
def yX9_init : MethodName := ⟨RX9, "<init>", "()V"⟩
abbrev cX9_nameText : ByteArray := prog_11_method_2_code
def yX9_nameText : MethodName := ⟨RX9, "nameText", "(LLeafFormula$Book;I)Ljava/lang/String;"⟩
abbrev cX9_formulaText : ByteArray := prog_11_method_3_code
def yX9_formulaText : MethodName := ⟨RX9, "formulaText", "(LLeafFormula$Plan;)Ljava/lang/String;"⟩
abbrev cX9_noteText : ByteArray := prog_11_method_4_code
def yX9_noteText : MethodName := ⟨RX9, "noteText", "(LLeafFormula$Copy;)Ljava/lang/String;"⟩
abbrev cX9_goesOn : ByteArray := prog_11_method_5_code
def yX9_goesOn : MethodName := ⟨RX9, "goesOn", "(LLeafFormula$Plan;I)Z"⟩
abbrev cX9_writeGroup : ByteArray := prog_11_method_6_code
def yX9_writeGroup : MethodName := ⟨RX9, "writeGroup", "(LLeafFormula$Plan;II)V"⟩
abbrev cX9_writeChangesOf : ByteArray := prog_11_method_7_code
def yX9_writeChangesOf : MethodName := ⟨RX9, "writeChangesOf", "(LLeafFormula$Plan;II)V"⟩
abbrev cX9_writeRuns : ByteArray := prog_11_method_8_code
def yX9_writeRuns : MethodName := ⟨RX9, "writeRuns", "(Ljava/lang/String;LLeafFormula$Book;LLeafFormula$Row;)V"⟩
abbrev cX9_writeMoved : ByteArray := prog_11_method_9_code
def yX9_writeMoved : MethodName := ⟨RX9, "writeMoved", "(LLeafFormula$Copy;)V"⟩
abbrev cX9_writeHead : ByteArray := prog_11_method_10_code
def yX9_writeHead : MethodName := ⟨RX9, "writeHead", "(Ljava/lang/String;)V"⟩
abbrev cX9_writeName : ByteArray := prog_11_method_11_code
def yX9_writeName : MethodName := ⟨RX9, "writeName", "(LLeafFormula$Book;I)V"⟩
abbrev cX9_writeSign : ByteArray := prog_11_method_12_code
def yX9_writeSign : MethodName := ⟨RX9, "writeSign", "(I)V"⟩
def RX10 : String := "LeafFormula$Tape"
def TX10 : u_T := fun k => match k with
  | 0 => ("LeafFormula$Tape", "bytes", "[B", true)
  | 1 => ("LeafFormula$Tape", "kinds", "LLeafFormula$Row;", true)
  | 2 => ("LeafFormula$Tape", "starts", "LLeafFormula$Row;", true)
  | 3 => ("LeafFormula$Tape", "values", "LLeafFormula$Row;", true)
  | _ => ("LeafFormula$Tape", "length", "I", false)
def tyX10 : Nat → FieldType := fun k => match k with
  | 0 => .array .byte
  | 1 => .object "LeafFormula$Row"
  | 2 => .object "LeafFormula$Row"
  | 3 => .object "LeafFormula$Row"
  | _ => .int
theorem nmX10 : ∀ a, a < 5 → ∀ b, b < 5 → a ≠ b → (TX10 a).2.1 ≠ (TX10 b).2.1 := by decide +kernel
theorem tyX10_ok : ∀ k, k < 5 → parseFieldDescriptor (TX10 k).2.2.1 = some (tyX10 k) := by decide +kernel
abbrev cX10_init : ByteArray := prog_12_method_1_code
def yX10_init : MethodName := ⟨RX10, "<init>", "()V"⟩
abbrev cX10_hasRoom : ByteArray := prog_12_method_2_code
def yX10_hasRoom : MethodName := ⟨RX10, "hasRoom", "(I)Z"⟩
abbrev cX10_addWord : ByteArray := prog_12_method_3_code
def yX10_addWord : MethodName := ⟨RX10, "addWord", "(I)V"⟩
abbrev cX10_cutTo : ByteArray := prog_12_method_4_code
def yX10_cutTo : MethodName := ⟨RX10, "cutTo", "(I)V"⟩
abbrev cX10_cutIntoPieces : ByteArray := prog_12_method_5_code
def yX10_cutIntoPieces : MethodName := ⟨RX10, "cutIntoPieces", "()V"⟩
abbrev cX10_widthAt : ByteArray := prog_12_method_6_code
def yX10_widthAt : MethodName := ⟨RX10, "widthAt", "(I)I"⟩
abbrev cX10_addPiece : ByteArray := prog_12_method_7_code
def yX10_addPiece : MethodName := ⟨RX10, "addPiece", "(II)V"⟩
abbrev cX10_valueOfNumber : ByteArray := prog_12_method_8_code
def yX10_valueOfNumber : MethodName := ⟨RX10, "valueOfNumber", "(II)I"⟩
abbrev cX10_signOfWord : ByteArray := prog_12_method_9_code
def yX10_signOfWord : MethodName := ⟨RX10, "signOfWord", "(II)I"⟩
abbrev cX10_byteAt : ByteArray := prog_12_method_10_code
def yX10_byteAt : MethodName := ⟨RX10, "byteAt", "(I)I"⟩
abbrev cX10_isLetter : ByteArray := prog_12_method_11_code
def yX10_isLetter : MethodName := ⟨RX10, "isLetter", "(I)Z"⟩
abbrev cX10_isDigit : ByteArray := prog_12_method_12_code
def yX10_isDigit : MethodName := ⟨RX10, "isDigit", "(I)Z"⟩
abbrev cX10_isMark : ByteArray := prog_12_method_13_code
def yX10_isMark : MethodName := ⟨RX10, "isMark", "(I)Z"⟩
def RX11 : String := "LeafFormula"
def TX11 : u_T := fun k => match k with
  | 0 => ("LeafFormula", "tape", "LLeafFormula$Tape;", true)
  | 1 => ("LeafFormula", "reader", "LLeafFormula$Reader;", true)
  | 2 => ("LeafFormula", "draft", "LLeafFormula$Plan;", true)
  | 3 => ("LeafFormula", "row", "LLeafFormula$Row;", true)
  | 4 => ("LeafFormula", "collator", "LLeafFormula$Collator;", true)
  | 5 => ("LeafFormula", "scribe", "LLeafFormula$Scribe;", true)
  | 6 => ("LeafFormula", "books", "[LLeafFormula$Book;", true)
  | 7 => ("LeafFormula", "copies", "[LLeafFormula$Copy;", true)
  | 8 => ("LeafFormula", "bookCount", "I", false)
  | 9 => ("LeafFormula", "copyCount", "I", false)
  | 10 => ("LeafFormula", "latestFault", "I", false)
  | _ => ("LeafFormula", "latestStatus", "I", false)
def tyX11 : Nat → FieldType := fun k => match k with
  | 0 => .object "LeafFormula$Tape"
  | 1 => .object "LeafFormula$Reader"
  | 2 => .object "LeafFormula$Plan"
  | 3 => .object "LeafFormula$Row"
  | 4 => .object "LeafFormula$Collator"
  | 5 => .object "LeafFormula$Scribe"
  | 6 => .array (.object "LeafFormula$Book")
  | 7 => .array (.object "LeafFormula$Copy")
  | 8 => .int
  | 9 => .int
  | 10 => .int
  | _ => .int
theorem nmX11 : ∀ a, a < 12 → ∀ b, b < 12 → a ≠ b → (TX11 a).2.1 ≠ (TX11 b).2.1 := by decide +kernel
theorem tyX11_ok : ∀ k, k < 12 → parseFieldDescriptor (TX11 k).2.2.1 = some (tyX11 k) := by decide +kernel
abbrev cX11_init : ByteArray := prog_1_method_1_code
def yX11_init : MethodName := ⟨RX11, "<init>", "()V"⟩
abbrev cX11_feed : ByteArray := prog_1_method_2_code
def yX11_feed : MethodName := ⟨RX11, "feed", "(IIIII)I"⟩
abbrev cX11_end : ByteArray := prog_1_method_3_code
def yX11_end : MethodName := ⟨RX11, "end", "(I)I"⟩
abbrev cX11_book : ByteArray := prog_1_method_4_code
def yX11_book : MethodName := ⟨RX11, "book", "()I"⟩
abbrev cX11_change : ByteArray := prog_1_method_5_code
def yX11_change : MethodName := ⟨RX11, "change", "(I)I"⟩
abbrev cX11_copy : ByteArray := prog_1_method_6_code
def yX11_copy : MethodName := ⟨RX11, "copy", "(I)I"⟩
abbrev cX11_find : ByteArray := prog_1_method_7_code
def yX11_find : MethodName := ⟨RX11, "find", "(I)I"⟩
abbrev cX11_place : ByteArray := prog_1_method_8_code
def yX11_place : MethodName := ⟨RX11, "place", "()I"⟩
abbrev cX11_fault : ByteArray := prog_1_method_9_code
def yX11_fault : MethodName := ⟨RX11, "fault", "()I"⟩
abbrev cX11_count : ByteArray := prog_1_method_10_code
def yX11_count : MethodName := ⟨RX11, "count", "(I)I"⟩
abbrev cX11_gatherings : ByteArray := prog_1_method_11_code
def yX11_gatherings : MethodName := ⟨RX11, "gatherings", "(I)I"⟩
abbrev cX11_gathering : ByteArray := prog_1_method_12_code
def yX11_gathering : MethodName := ⟨RX11, "gathering", "(III)I"⟩
abbrev cX11_leaves : ByteArray := prog_1_method_13_code
def yX11_leaves : MethodName := ⟨RX11, "leaves", "(I)I"⟩
abbrev cX11_leaf : ByteArray := prog_1_method_14_code
def yX11_leaf : MethodName := ⟨RX11, "leaf", "(III)I"⟩
abbrev cX11_letter : ByteArray := prog_1_method_15_code
def yX11_letter : MethodName := ⟨RX11, "letter", "(II)I"⟩
abbrev cX11_name : ByteArray := prog_1_method_16_code
def yX11_name : MethodName := ⟨RX11, "name", "(III)I"⟩
abbrev cX11_same : ByteArray := prog_1_method_17_code
def yX11_same : MethodName := ⟨RX11, "same", "(II)I"⟩
abbrev cX11_sheets : ByteArray := prog_1_method_18_code
def yX11_sheets : MethodName := ⟨RX11, "sheets", "(II)I"⟩
abbrev cX11_sheet : ByteArray := prog_1_method_19_code
def yX11_sheet : MethodName := ⟨RX11, "sheet", "(IIII)I"⟩
abbrev cX11_forme : ByteArray := prog_1_method_20_code
def yX11_forme : MethodName := ⟨RX11, "forme", "(IIII)I"⟩
abbrev cX11_state : ByteArray := prog_1_method_21_code
def yX11_state : MethodName := ⟨RX11, "state", "(II)I"⟩
abbrev cX11_entry : ByteArray := prog_1_method_22_code
def yX11_entry : MethodName := ⟨RX11, "entry", "(II)I"⟩
abbrev cX11_told : ByteArray := prog_1_method_23_code
def yX11_told : MethodName := ⟨RX11, "told", "(III)I"⟩
abbrev cX11_note : ByteArray := prog_1_method_24_code
def yX11_note : MethodName := ⟨RX11, "note", "(II)I"⟩
abbrev cX11_apart : ByteArray := prog_1_method_25_code
def yX11_apart : MethodName := ⟨RX11, "apart", "(II)I"⟩
abbrev cX11_together : ByteArray := prog_1_method_26_code
def yX11_together : MethodName := ⟨RX11, "together", "(II)I"⟩
abbrev cX11_status : ByteArray := prog_1_method_27_code
def yX11_status : MethodName := ⟨RX11, "status", "()I"⟩
abbrev cX11_refuse : ByteArray := prog_1_method_28_code
def yX11_refuse : MethodName := ⟨RX11, "refuse", "(I)I"⟩
abbrev cX11_answer : ByteArray := prog_1_method_29_code
def yX11_answer : MethodName := ⟨RX11, "answer", "(I)I"⟩
abbrev cX11_byteOf : ByteArray := prog_1_method_30_code
def yX11_byteOf : MethodName := ⟨RX11, "byteOf", "(Ljava/lang/String;I)I"⟩
abbrev cX11_numberOf : ByteArray := prog_1_method_31_code
def yX11_numberOf : MethodName := ⟨RX11, "numberOf", "(LLeafFormula$Row;I)I"⟩
abbrev cX11_bookAt : ByteArray := prog_1_method_32_code
def yX11_bookAt : MethodName := ⟨RX11, "bookAt", "(I)LLeafFormula$Book;"⟩
abbrev cX11_bookWithLeaf : ByteArray := prog_1_method_33_code
def yX11_bookWithLeaf : MethodName := ⟨RX11, "bookWithLeaf", "(II)LLeafFormula$Book;"⟩
abbrev cX11_copyAt : ByteArray := prog_1_method_34_code
def yX11_copyAt : MethodName := ⟨RX11, "copyAt", "(I)LLeafFormula$Copy;"⟩
abbrev cX11_isFormat : ByteArray := prog_1_method_35_code
def yX11_isFormat : MethodName := ⟨RX11, "isFormat", "(I)Z"⟩
abbrev cX11_draftFormula : ByteArray := prog_1_method_36_code
def yX11_draftFormula : MethodName := ⟨RX11, "draftFormula", "()I"⟩
abbrev cX11_draftChanges : ByteArray := prog_1_method_37_code
def yX11_draftChanges : MethodName := ⟨RX11, "draftChanges", "(LLeafFormula$Book;)I"⟩
abbrev cX11_refusalOfDraft : ByteArray := prog_1_method_38_code
def yX11_refusalOfDraft : MethodName := ⟨RX11, "refusalOfDraft", "()I"⟩
abbrev cX11_closeBook : ByteArray := prog_1_method_39_code
def yX11_closeBook : MethodName := ⟨RX11, "closeBook", "(I)I"⟩
abbrev cX11_draftRow : ByteArray := prog_1_method_40_code
def yX11_draftRow : MethodName := ⟨RX11, "draftRow", "(LLeafFormula$Book;)I"⟩
abbrev cX11_keepCopy : ByteArray := prog_1_method_41_code
def yX11_keepCopy : MethodName := ⟨RX11, "keepCopy", "(ILLeafFormula$Book;)I"⟩
def RX12 : String := "LeafFormulaModel"
def TX12 : u_T := fun k => match k with
  | 0 => ("LeafFormulaModel", "tape", "[I", true)
  | 1 => ("LeafFormulaModel", "taped", "I", false)
  | 2 => ("LeafFormulaModel", "status", "I", false)
  | 3 => ("LeafFormulaModel", "wrongAt", "I", false)
  | 4 => ("LeafFormulaModel", "faultOf", "I", false)
  | 5 => ("LeafFormulaModel", "books", "I", false)
  | 6 => ("LeafFormulaModel", "gatherings", "[I", true)
  | 7 => ("LeafFormulaModel", "signOf", "[I", true)
  | 8 => ("LeafFormulaModel", "sizeOf", "[I", true)
  | 9 => ("LeafFormulaModel", "fate", "[I", true)
  | 10 => ("LeafFormulaModel", "more", "[I", true)
  | 11 => ("LeafFormulaModel", "leaves", "[I", true)
  | 12 => ("LeafFormulaModel", "leafIn", "[I", true)
  | 13 => ("LeafFormulaModel", "leafAt", "[I", true)
  | 14 => ("LeafFormulaModel", "leafOf", "[I", true)
  | 15 => ("LeafFormulaModel", "copies", "I", false)
  | 16 => ("LeafFormulaModel", "bookOf", "[I", true)
  | 17 => ("LeafFormulaModel", "entries", "[I", true)
  | 18 => ("LeafFormulaModel", "entry", "[I", true)
  | 19 => ("LeafFormulaModel", "at", "I", false)
  | 20 => ("LeafFormulaModel", "begin", "I", false)
  | 21 => ("LeafFormulaModel", "token", "I", false)
  | 22 => ("LeafFormulaModel", "value", "I", false)
  | 23 => ("LeafFormulaModel", "good", "Z", false)
  | 24 => ("LeafFormulaModel", "groups", "I", false)
  | 25 => ("LeafFormulaModel", "changes", "I", false)
  | 26 => ("LeafFormulaModel", "groupFirst", "[I", true)
  | 27 => ("LeafFormulaModel", "groupLast", "[I", true)
  | 28 => ("LeafFormulaModel", "groupIsRow", "[Z", true)
  | 29 => ("LeafFormulaModel", "groupN", "[I", true)
  | 30 => ("LeafFormulaModel", "groupM", "[I", true)
  | 31 => ("LeafFormulaModel", "groupChanges", "[I", true)
  | 32 => ("LeafFormulaModel", "changeWhat", "[I", true)
  | 33 => ("LeafFormulaModel", "changeSign", "[I", true)
  | 34 => ("LeafFormulaModel", "changeAt", "[I", true)
  | 35 => ("LeafFormulaModel", "changeBy", "[I", true)
  | 36 => ("LeafFormulaModel", "written", "[I", true)
  | 37 => ("LeafFormulaModel", "writes", "I", false)
  | 38 => ("LeafFormulaModel", "ahead", "[I", true)
  | 39 => ("LeafFormulaModel", "times", "[I", true)
  | 40 => ("LeafFormulaModel", "reach", "[I", true)
  | 41 => ("LeafFormulaModel", "isRest", "[Z", true)
  | 42 => ("LeafFormulaModel", "nameSign", "I", false)
  | 43 => ("LeafFormulaModel", "nameAt", "I", false)
  | 44 => ("LeafFormulaModel", "nameOf", "I", false)
  | 45 => ("LeafFormulaModel", "itemFrom", "[I", true)
  | 46 => ("LeafFormulaModel", "itemTo", "[I", true)
  | 47 => ("LeafFormulaModel", "hasOne", "[Z", true)
  | _ => ("LeafFormulaModel", "hasOther", "[Z", true)
def tyX12 : Nat → FieldType := fun k => match k with
  | 0 => .array .int
  | 1 => .int
  | 2 => .int
  | 3 => .int
  | 4 => .int
  | 5 => .int
  | 6 => .array .int
  | 7 => .array .int
  | 8 => .array .int
  | 9 => .array .int
  | 10 => .array .int
  | 11 => .array .int
  | 12 => .array .int
  | 13 => .array .int
  | 14 => .array .int
  | 15 => .int
  | 16 => .array .int
  | 17 => .array .int
  | 18 => .array .int
  | 19 => .int
  | 20 => .int
  | 21 => .int
  | 22 => .int
  | 23 => .boolean
  | 24 => .int
  | 25 => .int
  | 26 => .array .int
  | 27 => .array .int
  | 28 => .array .boolean
  | 29 => .array .int
  | 30 => .array .int
  | 31 => .array .int
  | 32 => .array .int
  | 33 => .array .int
  | 34 => .array .int
  | 35 => .array .int
  | 36 => .array .int
  | 37 => .int
  | 38 => .array .int
  | 39 => .array .int
  | 40 => .array .int
  | 41 => .array .boolean
  | 42 => .int
  | 43 => .int
  | 44 => .int
  | 45 => .array .int
  | 46 => .array .int
  | 47 => .array .boolean
  | _ => .array .boolean
theorem nmX12 : ∀ a, a < 49 → ∀ b, b < 49 → a ≠ b → (TX12 a).2.1 ≠ (TX12 b).2.1 := by decide +kernel
theorem tyX12_ok : ∀ k, k < 49 → parseFieldDescriptor (TX12 k).2.2.1 = some (tyX12 k) := by decide +kernel
abbrev cX12_fine : ByteArray := prog_14_method_1_code
def yX12_fine : MethodName := ⟨RX12, "fine", "(I)I"⟩
abbrev cX12_no : ByteArray := prog_14_method_2_code
def yX12_no : MethodName := ⟨RX12, "no", "(I)I"⟩
abbrev cX12_isIn : ByteArray := prog_14_method_3_code
def yX12_isIn : MethodName := ⟨RX12, "isIn", "(III)Z"⟩
abbrev cX12_isBook : ByteArray := prog_14_method_4_code
def yX12_isBook : MethodName := ⟨RX12, "isBook", "(I)Z"⟩
abbrev cX12_isCopy : ByteArray := prog_14_method_5_code
def yX12_isCopy : MethodName := ⟨RX12, "isCopy", "(I)Z"⟩
abbrev cX12_spot : ByteArray := prog_14_method_6_code
def yX12_spot : MethodName := ⟨RX12, "spot", "(III)I"⟩
abbrev cX12_gatheringOf : ByteArray := prog_14_method_7_code
def yX12_gatheringOf : MethodName := ⟨RX12, "gatheringOf", "(II)I"⟩
abbrev cX12_layOut : ByteArray := prog_14_method_8_code
def yX12_layOut : MethodName := ⟨RX12, "layOut", "(I)V"⟩
abbrev cX12_total : ByteArray := prog_14_method_9_code
def yX12_total : MethodName := ⟨RX12, "total", "(I)I"⟩
abbrev cX12_placeOf : ByteArray := prog_14_method_10_code
def yX12_placeOf : MethodName := ⟨RX12, "placeOf", "(IIII)I"⟩
abbrev cX12_isPlain : ByteArray := prog_14_method_11_code
def yX12_isPlain : MethodName := ⟨RX12, "isPlain", "(II)Z"⟩
abbrev cX12_conjugate : ByteArray := prog_14_method_12_code
def yX12_conjugate : MethodName := ⟨RX12, "conjugate", "(II)I"⟩
abbrev cX12_isSpelled : ByteArray := prog_14_method_13_code
def yX12_isSpelled : MethodName := ⟨RX12, "isSpelled", "(Ljava/lang/String;)Z"⟩
abbrev cX12_signHere : ByteArray := prog_14_method_14_code
def yX12_signHere : MethodName := ⟨RX12, "signHere", "()I"⟩
abbrev cX12_next : ByteArray := prog_14_method_15_code
def yX12_next : MethodName := ⟨RX12, "next", "()V"⟩
abbrev cX12_isMark : ByteArray := prog_14_method_16_code
def yX12_isMark : MethodName := ⟨RX12, "isMark", "(I)Z"⟩
abbrev cX12_take : ByteArray := prog_14_method_17_code
def yX12_take : MethodName := ⟨RX12, "take", "(I)I"⟩
abbrev cX12_must : ByteArray := prog_14_method_18_code
def yX12_must : MethodName := ⟨RX12, "must", "(I)V"⟩
abbrev cX12_goes : ByteArray := prog_14_method_19_code
def yX12_goes : MethodName := ⟨RX12, "goes", "(I)Z"⟩
abbrev cX12_begins : ByteArray := prog_14_method_20_code
def yX12_begins : MethodName := ⟨RX12, "begins", "()V"⟩
abbrev cX12_ends : ByteArray := prog_14_method_21_code
def yX12_ends : MethodName := ⟨RX12, "ends", "()Z"⟩
abbrev cX12_readChange : ByteArray := prog_14_method_22_code
def yX12_readChange : MethodName := ⟨RX12, "readChange", "()V"⟩
abbrev cX12_readChanges : ByteArray := prog_14_method_23_code
def yX12_readChanges : MethodName := ⟨RX12, "readChanges", "()V"⟩
abbrev cX12_readGroup : ByteArray := prog_14_method_24_code
def yX12_readGroup : MethodName := ⟨RX12, "readGroup", "()V"⟩
abbrev cX12_isSize : ByteArray := prog_14_method_25_code
def yX12_isSize : MethodName := ⟨RX12, "isSize", "(I)Z"⟩
abbrev cX12_isTwice : ByteArray := prog_14_method_26_code
def yX12_isTwice : MethodName := ⟨RX12, "isTwice", "(II)Z"⟩
abbrev cX12_isFewPut : ByteArray := prog_14_method_27_code
def yX12_isFewPut : MethodName := ⟨RX12, "isFewPut", "(II)Z"⟩
abbrev cX12_faultOfGroup : ByteArray := prog_14_method_28_code
def yX12_faultOfGroup : MethodName := ⟨RX12, "faultOfGroup", "(IIZ)I"⟩
abbrev cX12_faultOfAll : ByteArray := prog_14_method_29_code
def yX12_faultOfAll : MethodName := ⟨RX12, "faultOfAll", "()I"⟩
abbrev cX12_apply : ByteArray := prog_14_method_30_code
def yX12_apply : MethodName := ⟨RX12, "apply", "(II)V"⟩
abbrev cX12_isMade : ByteArray := prog_14_method_31_code
def yX12_isMade : MethodName := ⟨RX12, "isMade", "(I)I"⟩
abbrev cX12_add : ByteArray := prog_14_method_32_code
def yX12_add : MethodName := ⟨RX12, "add", "(III)V"⟩
abbrev cX12_write : ByteArray := prog_14_method_33_code
def yX12_write : MethodName := ⟨RX12, "write", "(I)V"⟩
abbrev cX12_writeNumber : ByteArray := prog_14_method_34_code
def yX12_writeNumber : MethodName := ⟨RX12, "writeNumber", "(I)V"⟩
abbrev cX12_writeWord : ByteArray := prog_14_method_35_code
def yX12_writeWord : MethodName := ⟨RX12, "writeWord", "(Ljava/lang/String;)V"⟩
abbrev cX12_writeSign : ByteArray := prog_14_method_36_code
def yX12_writeSign : MethodName := ⟨RX12, "writeSign", "(I)V"⟩
abbrev cX12_isLetters : ByteArray := prog_14_method_37_code
def yX12_isLetters : MethodName := ⟨RX12, "isLetters", "(I)Z"⟩
abbrev cX12_writeBook : ByteArray := prog_14_method_38_code
def yX12_writeBook : MethodName := ⟨RX12, "writeBook", "(I)V"⟩
abbrev cX12_writeChanges : ByteArray := prog_14_method_39_code
def yX12_writeChanges : MethodName := ⟨RX12, "writeChanges", "(III)V"⟩
abbrev cX12_writeName : ByteArray := prog_14_method_40_code
def yX12_writeName : MethodName := ⟨RX12, "writeName", "(II)V"⟩
abbrev cX12_tell : ByteArray := prog_14_method_41_code
def yX12_tell : MethodName := ⟨RX12, "tell", "(I)I"⟩
abbrev cX12_isFormat : ByteArray := prog_14_method_42_code
def yX12_isFormat : MethodName := ⟨RX12, "isFormat", "(I)Z"⟩
abbrev cX12_sheetOf : ByteArray := prog_14_method_43_code
def yX12_sheetOf : MethodName := ⟨RX12, "sheetOf", "(III)I"⟩
abbrev cX12_sheetsOf : ByteArray := prog_14_method_44_code
def yX12_sheetsOf : MethodName := ⟨RX12, "sheetsOf", "(II)I"⟩
abbrev cX12_numberOn : ByteArray := prog_14_method_45_code
def yX12_numberOn : MethodName := ⟨RX12, "numberOn", "(III)I"⟩
abbrev cX12_look : ByteArray := prog_14_method_46_code
def yX12_look : MethodName := ⟨RX12, "look", "(I)V"⟩
abbrev cX12_isTold : ByteArray := prog_14_method_47_code
def yX12_isTold : MethodName := ⟨RX12, "isTold", "(III)Z"⟩
abbrev cX12_many : ByteArray := prog_14_method_48_code
def yX12_many : MethodName := ⟨RX12, "many", "(II)I"⟩
abbrev cX12_writeRuns : ByteArray := prog_14_method_49_code
def yX12_writeRuns : MethodName := ⟨RX12, "writeRuns", "(II)V"⟩
abbrev cX12_countTold : ByteArray := prog_14_method_50_code
def yX12_countTold : MethodName := ⟨RX12, "countTold", "(II)I"⟩
abbrev cX12_writeNote : ByteArray := prog_14_method_51_code
def yX12_writeNote : MethodName := ⟨RX12, "writeNote", "(I)V"⟩
abbrev cX12_init : ByteArray := prog_14_method_52_code
def yX12_init : MethodName := ⟨RX12, "<init>", "()V"⟩
abbrev cX12_feed : ByteArray := prog_14_method_53_code
def yX12_feed : MethodName := ⟨RX12, "feed", "(IIIII)I"⟩
abbrev cX12_end : ByteArray := prog_14_method_54_code
def yX12_end : MethodName := ⟨RX12, "end", "(I)I"⟩
abbrev cX12_book : ByteArray := prog_14_method_55_code
def yX12_book : MethodName := ⟨RX12, "book", "()I"⟩
abbrev cX12_faultOfChanges : ByteArray := prog_14_method_56_code
def yX12_faultOfChanges : MethodName := ⟨RX12, "faultOfChanges", "(I)I"⟩
abbrev cX12_change : ByteArray := prog_14_method_57_code
def yX12_change : MethodName := ⟨RX12, "change", "(I)I"⟩
abbrev cX12_readName : ByteArray := prog_14_method_58_code
def yX12_readName : MethodName := ⟨RX12, "readName", "()V"⟩
abbrev cX12_named : ByteArray := prog_14_method_59_code
def yX12_named : MethodName := ⟨RX12, "named", "(I)I"⟩
abbrev cX12_copy : ByteArray := prog_14_method_60_code
def yX12_copy : MethodName := ⟨RX12, "copy", "(I)I"⟩
abbrev cX12_find : ByteArray := prog_14_method_61_code
def yX12_find : MethodName := ⟨RX12, "find", "(I)I"⟩
abbrev cX12_place : ByteArray := prog_14_method_62_code
def yX12_place : MethodName := ⟨RX12, "place", "()I"⟩
abbrev cX12_fault : ByteArray := prog_14_method_63_code
def yX12_fault : MethodName := ⟨RX12, "fault", "()I"⟩
abbrev cX12_count : ByteArray := prog_14_method_64_code
def yX12_count : MethodName := ⟨RX12, "count", "(I)I"⟩
abbrev cX12_gatherings : ByteArray := prog_14_method_65_code
def yX12_gatherings : MethodName := ⟨RX12, "gatherings", "(I)I"⟩
abbrev cX12_gathering : ByteArray := prog_14_method_66_code
def yX12_gathering : MethodName := ⟨RX12, "gathering", "(III)I"⟩
abbrev cX12_leaves : ByteArray := prog_14_method_67_code
def yX12_leaves : MethodName := ⟨RX12, "leaves", "(I)I"⟩
abbrev cX12_isLeaf : ByteArray := prog_14_method_68_code
def yX12_isLeaf : MethodName := ⟨RX12, "isLeaf", "(II)Z"⟩
abbrev cX12_leaf : ByteArray := prog_14_method_69_code
def yX12_leaf : MethodName := ⟨RX12, "leaf", "(III)I"⟩
abbrev cX12_letter : ByteArray := prog_14_method_70_code
def yX12_letter : MethodName := ⟨RX12, "letter", "(II)I"⟩
abbrev cX12_name : ByteArray := prog_14_method_71_code
def yX12_name : MethodName := ⟨RX12, "name", "(III)I"⟩
abbrev cX12_same : ByteArray := prog_14_method_72_code
def yX12_same : MethodName := ⟨RX12, "same", "(II)I"⟩
abbrev cX12_sheets : ByteArray := prog_14_method_73_code
def yX12_sheets : MethodName := ⟨RX12, "sheets", "(II)I"⟩
abbrev cX12_sheet : ByteArray := prog_14_method_74_code
def yX12_sheet : MethodName := ⟨RX12, "sheet", "(IIII)I"⟩
abbrev cX12_forme : ByteArray := prog_14_method_75_code
def yX12_forme : MethodName := ⟨RX12, "forme", "(IIII)I"⟩
abbrev cX12_state : ByteArray := prog_14_method_76_code
def yX12_state : MethodName := ⟨RX12, "state", "(II)I"⟩
abbrev cX12_entry : ByteArray := prog_14_method_77_code
def yX12_entry : MethodName := ⟨RX12, "entry", "(II)I"⟩
abbrev cX12_told : ByteArray := prog_14_method_78_code
def yX12_told : MethodName := ⟨RX12, "told", "(III)I"⟩
abbrev cX12_note : ByteArray := prog_14_method_79_code
def yX12_note : MethodName := ⟨RX12, "note", "(II)I"⟩
abbrev cX12_mark : ByteArray := prog_14_method_80_code
def yX12_mark : MethodName := ⟨RX12, "mark", "(I[Z)V"⟩
abbrev cX12_twoWhy : ByteArray := prog_14_method_81_code
def yX12_twoWhy : MethodName := ⟨RX12, "twoWhy", "(II)I"⟩
abbrev cX12_apart : ByteArray := prog_14_method_82_code
def yX12_apart : MethodName := ⟨RX12, "apart", "(II)I"⟩
abbrev cX12_together : ByteArray := prog_14_method_83_code
def yX12_together : MethodName := ⟨RX12, "together", "(II)I"⟩
abbrev cX12_status : ByteArray := prog_14_method_84_code
def yX12_status : MethodName := ⟨RX12, "status", "()I"⟩
def RJx145de : String := "java/io/Serializable"
def TJx145de : u_T := fun k => match k with
  | _ => ("", "", "", false)
def tyJx145de : Nat → FieldType := fun k => match k with
  | _ => .int
theorem nmJx145de : ∀ a, a < 0 → ∀ b, b < 0 → a ≠ b → (TJx145de a).2.1 ≠ (TJx145de b).2.1 := by decide +kernel
theorem tyJx145de_ok : ∀ k, k < 0 → parseFieldDescriptor (TJx145de k).2.2.1 = some (tyJx145de k) := by decide +kernel
def RJ5 : String := "java/lang/AbstractStringBuilder"
def TJ5 : u_T := fun k => match k with
  | _ => ("", "", "", false)
def tyJ5 : Nat → FieldType := fun k => match k with
  | _ => .int
theorem nmJ5 : ∀ a, a < 0 → ∀ b, b < 0 → a ≠ b → (TJ5 a).2.1 ≠ (TJ5 b).2.1 := by decide +kernel
theorem tyJ5_ok : ∀ k, k < 0 → parseFieldDescriptor (TJ5 k).2.2.1 = some (tyJ5 k) := by decide +kernel
abbrev cJ5_init_d00df : ByteArray := prog_15_method_2_code
def yJ5_init_d00df : MethodName := ⟨RJ5, "<init>", "(I)V"⟩
abbrev cJ5_length_8abf5 : ByteArray := prog_15_method_6_code
def yJ5_length_8abf5 : MethodName := ⟨RJ5, "length", "()I"⟩
abbrev cJ5_ensureCapacityInternal_d00df : ByteArray := prog_15_method_9_code
def yJ5_ensureCapacityInternal_d00df : MethodName := ⟨RJ5, "ensureCapacityInternal", "(I)V"⟩
abbrev cJ5_newCapacity_0f7a4 : ByteArray := prog_15_method_10_code
def yJ5_newCapacity_0f7a4 : MethodName := ⟨RJ5, "newCapacity", "(I)I"⟩
abbrev cJ5_inflate_da8c8 : ByteArray := prog_15_method_11_code
def yJ5_inflate_da8c8 : MethodName := ⟨RJ5, "inflate", "()V"⟩
abbrev cJ5_setLength_d00df : ByteArray := prog_15_method_13_code
def yJ5_setLength_d00df : MethodName := ⟨RJ5, "setLength", "(I)V"⟩
abbrev cJ5_append_cf1ce : ByteArray := prog_15_method_22_code
def yJ5_append_cf1ce : MethodName := ⟨RJ5, "append", "(Ljava/lang/String;)Ljava/lang/AbstractStringBuilder;"⟩
abbrev cJ5_appendNull_278bc : ByteArray := prog_15_method_26_code
def yJ5_appendNull_278bc : MethodName := ⟨RJ5, "appendNull", "()Ljava/lang/AbstractStringBuilder;"⟩
abbrev cJ5_append_3fe6f : ByteArray := prog_15_method_31_code
def yJ5_append_3fe6f : MethodName := ⟨RJ5, "append", "(C)Ljava/lang/AbstractStringBuilder;"⟩
abbrev cJ5_append_c97b9 : ByteArray := prog_15_method_32_code
def yJ5_append_c97b9 : MethodName := ⟨RJ5, "append", "(I)Ljava/lang/AbstractStringBuilder;"⟩
abbrev cJ5_getValue_6d5f1 : ByteArray := prog_15_method_64_code
def yJ5_getValue_6d5f1 : MethodName := ⟨RJ5, "getValue", "()[B"⟩
abbrev cJ5_isLatin1_aae02 : ByteArray := prog_15_method_68_code
def yJ5_isLatin1_aae02 : MethodName := ⟨RJ5, "isLatin1", "()Z"⟩
abbrev cJ5_inflateIfNeededFor_a7421 : ByteArray := prog_15_method_71_code
def yJ5_inflateIfNeededFor_a7421 : MethodName := ⟨RJ5, "inflateIfNeededFor", "(Ljava/lang/String;)V"⟩
abbrev cJ5_putStringAt_47b60 : ByteArray := prog_15_method_73_code
def yJ5_putStringAt_47b60 : MethodName := ⟨RJ5, "putStringAt", "(ILjava/lang/String;)V"⟩
def RJx2cfe8 : String := "java/lang/Appendable"
def TJx2cfe8 : u_T := fun k => match k with
  | _ => ("", "", "", false)
def tyJx2cfe8 : Nat → FieldType := fun k => match k with
  | _ => .int
theorem nmJx2cfe8 : ∀ a, a < 0 → ∀ b, b < 0 → a ≠ b → (TJx2cfe8 a).2.1 ≠ (TJx2cfe8 b).2.1 := by decide +kernel
theorem tyJx2cfe8_ok : ∀ k, k < 0 → parseFieldDescriptor (TJx2cfe8 k).2.2.1 = some (tyJx2cfe8 k) := by decide +kernel
def RJx9f9b0 : String := "java/lang/CharSequence"
def TJx9f9b0 : u_T := fun k => match k with
  | _ => ("", "", "", false)
def tyJx9f9b0 : Nat → FieldType := fun k => match k with
  | _ => .int
theorem nmJx9f9b0 : ∀ a, a < 0 → ∀ b, b < 0 → a ≠ b → (TJx9f9b0 a).2.1 ≠ (TJx9f9b0 b).2.1 := by decide +kernel
theorem tyJx9f9b0_ok : ∀ k, k < 0 → parseFieldDescriptor (TJx9f9b0 k).2.2.1 = some (tyJx9f9b0 k) := by decide +kernel
def RJ11 : String := "java/lang/Character"
def TJ11 : u_T := fun k => match k with
  | _ => ("", "", "", false)
def tyJ11 : Nat → FieldType := fun k => match k with
  | _ => .int
theorem nmJ11 : ∀ a, a < 0 → ∀ b, b < 0 → a ≠ b → (TJ11 a).2.1 ≠ (TJ11 b).2.1 := by decide +kernel
theorem tyJ11_ok : ∀ k, k < 0 → parseFieldDescriptor (TJ11 k).2.2.1 = some (tyJ11 k) := by decide +kernel
abbrev cJ11_isValidCodePoint_9a6ad : ByteArray := prog_16_method_11_code
def yJ11_isValidCodePoint_9a6ad : MethodName := ⟨RJ11, "isValidCodePoint", "(I)Z"⟩
abbrev cJ11_highSurrogate_5068e : ByteArray := prog_16_method_28_code
def yJ11_highSurrogate_5068e : MethodName := ⟨RJ11, "highSurrogate", "(I)C"⟩
abbrev cJ11_lowSurrogate_5068e : ByteArray := prog_16_method_29_code
def yJ11_lowSurrogate_5068e : MethodName := ⟨RJ11, "lowSurrogate", "(I)C"⟩
def RJx8e188 : String := "java/lang/Cloneable"
def TJx8e188 : u_T := fun k => match k with
  | _ => ("", "", "", false)
def tyJx8e188 : Nat → FieldType := fun k => match k with
  | _ => .int
theorem nmJx8e188 : ∀ a, a < 0 → ∀ b, b < 0 → a ≠ b → (TJx8e188 a).2.1 ≠ (TJx8e188 b).2.1 := by decide +kernel
theorem tyJx8e188_ok : ∀ k, k < 0 → parseFieldDescriptor (TJx8e188 k).2.2.1 = some (tyJx8e188 k) := by decide +kernel
def RJxb160c : String := "java/lang/Comparable"
def TJxb160c : u_T := fun k => match k with
  | _ => ("", "", "", false)
def tyJxb160c : Nat → FieldType := fun k => match k with
  | _ => .int
theorem nmJxb160c : ∀ a, a < 0 → ∀ b, b < 0 → a ≠ b → (TJxb160c a).2.1 ≠ (TJxb160c b).2.1 := by decide +kernel
theorem tyJxb160c_ok : ∀ k, k < 0 → parseFieldDescriptor (TJxb160c k).2.2.1 = some (tyJxb160c k) := by decide +kernel
def RJ6 : String := "java/lang/Integer"
def TJ6 : u_T := fun k => match k with
  | _ => ("", "", "", false)
def tyJ6 : Nat → FieldType := fun k => match k with
  | _ => .int
theorem nmJ6 : ∀ a, a < 0 → ∀ b, b < 0 → a ≠ b → (TJ6 a).2.1 ≠ (TJ6 b).2.1 := by decide +kernel
theorem tyJ6_ok : ∀ k, k < 0 → parseFieldDescriptor (TJ6 k).2.2.1 = some (tyJ6 k) := by decide +kernel
abbrev cJ6_getChars_ba4f3 : ByteArray := prog_18_method_12_code
def yJ6_getChars_ba4f3 : MethodName := ⟨RJ6, "getChars", "(II[B)I"⟩
abbrev cJ6_stringSize_0f7a4 : ByteArray := prog_18_method_13_code
def yJ6_stringSize_0f7a4 : MethodName := ⟨RJ6, "stringSize", "(I)I"⟩
def RJ9 : String := "java/lang/Math"
def TJ9 : u_T := fun k => match k with
  | _ => ("", "", "", false)
def tyJ9 : Nat → FieldType := fun k => match k with
  | _ => .int
theorem nmJ9 : ∀ a, a < 0 → ∀ b, b < 0 → a ≠ b → (TJ9 a).2.1 ≠ (TJ9 b).2.1 := by decide +kernel
theorem tyJ9_ok : ∀ k, k < 0 → parseFieldDescriptor (TJ9 k).2.2.1 = some (tyJ9 k) := by decide +kernel
abbrev cJ9_max_7cf53 : ByteArray := prog_19_method_65_code
def yJ9_max_7cf53 : MethodName := ⟨RJ9, "max", "(II)I"⟩
abbrev cJ9_min_7cf53 : ByteArray := prog_19_method_69_code
def yJ9_min_7cf53 : MethodName := ⟨RJ9, "min", "(II)I"⟩
def RJxd2413 : String := "java/lang/Number"
def TJxd2413 : u_T := fun k => match k with
  | _ => ("", "", "", false)
def tyJxd2413 : Nat → FieldType := fun k => match k with
  | _ => .int
theorem nmJxd2413 : ∀ a, a < 0 → ∀ b, b < 0 → a ≠ b → (TJxd2413 a).2.1 ≠ (TJxd2413 b).2.1 := by decide +kernel
theorem tyJxd2413_ok : ∀ k, k < 0 → parseFieldDescriptor (TJxd2413 k).2.2.1 = some (tyJxd2413 k) := by decide +kernel
def RJ0 : String := "java/lang/String"
def TJ0 : u_T := fun k => match k with
  | 0 => ("java/lang/String", "value", "[B", true)
  | 1 => ("java/lang/String", "coder", "B", true)
  | 2 => ("java/lang/String", "hash", "I", false)
  | _ => ("java/lang/String", "hashIsZero", "Z", false)
def tyJ0 : Nat → FieldType := fun k => match k with
  | 0 => .array .byte
  | 1 => .byte
  | 2 => .int
  | _ => .boolean
theorem nmJ0 : ∀ a, a < 4 → ∀ b, b < 4 → a ≠ b → (TJ0 a).2.1 ≠ (TJ0 b).2.1 := by decide +kernel
theorem tyJ0_ok : ∀ k, k < 4 → parseFieldDescriptor (TJ0 k).2.2.1 = some (tyJ0 k) := by decide +kernel
abbrev cJ0_init_81219 : ByteArray := prog_21_method_53_code
def yJ0_init_81219 : MethodName := ⟨RJ0, "<init>", "(Ljava/lang/StringBuilder;)V"⟩
abbrev cJ0_length_8abf5 : ByteArray := prog_21_method_54_code
def yJ0_length_8abf5 : MethodName := ⟨RJ0, "length", "()I"⟩
abbrev cJ0_charAt_5068e : ByteArray := prog_21_method_56_code
def yJ0_charAt_5068e : MethodName := ⟨RJ0, "charAt", "(I)C"⟩
abbrev cJ0_equals_9ea2d : ByteArray := prog_21_method_66_code
def yJ0_equals_9ea2d : MethodName := ⟨RJ0, "equals", "(Ljava/lang/Object;)Z"⟩
abbrev cJ0_indexOf_0f7a4 : ByteArray := prog_21_method_79_code
def yJ0_indexOf_0f7a4 : MethodName := ⟨RJ0, "indexOf", "(I)I"⟩
abbrev cJ0_indexOf_7cf53 : ByteArray := prog_21_method_80_code
def yJ0_indexOf_7cf53 : MethodName := ⟨RJ0, "indexOf", "(II)I"⟩
abbrev cJ0_getBytes_840e7 : ByteArray := prog_21_method_147_code
def yJ0_getBytes_840e7 : MethodName := ⟨RJ0, "getBytes", "([BIB)V"⟩
abbrev cJ0_init_db425 : ByteArray := prog_21_method_150_code
def yJ0_init_db425 : MethodName := ⟨RJ0, "<init>", "(Ljava/lang/AbstractStringBuilder;Ljava/lang/Void;)V"⟩
abbrev cJ0_coder_7d493 : ByteArray := prog_21_method_152_code
def yJ0_coder_7d493 : MethodName := ⟨RJ0, "coder", "()B"⟩
abbrev cJ0_isLatin1_aae02 : ByteArray := prog_21_method_154_code
def yJ0_isLatin1_aae02 : MethodName := ⟨RJ0, "isLatin1", "()Z"⟩
abbrev cJ0_checkIndex_df160 : ByteArray := prog_21_method_155_code
def yJ0_checkIndex_df160 : MethodName := ⟨RJ0, "checkIndex", "(II)V"⟩
abbrev cJ0_checkBoundsOffCount_cabcc : ByteArray := prog_21_method_157_code
def yJ0_checkBoundsOffCount_cabcc : MethodName := ⟨RJ0, "checkBoundsOffCount", "(III)I"⟩
abbrev cJ0_checkBoundsBeginEnd_23922 : ByteArray := prog_21_method_158_code
def yJ0_checkBoundsBeginEnd_23922 : MethodName := ⟨RJ0, "checkBoundsBeginEnd", "(III)V"⟩
def RJ4 : String := "java/lang/StringBuilder"
def TJ4 : u_T := fun k => match k with
  | 0 => ("java/lang/AbstractStringBuilder", "value", "[B", false)
  | 1 => ("java/lang/AbstractStringBuilder", "coder", "B", false)
  | 2 => ("java/lang/AbstractStringBuilder", "maybeLatin1", "Z", false)
  | _ => ("java/lang/AbstractStringBuilder", "count", "I", false)
def tyJ4 : Nat → FieldType := fun k => match k with
  | 0 => .array .byte
  | 1 => .byte
  | 2 => .boolean
  | _ => .int
theorem nmJ4 : ∀ a, a < 4 → ∀ b, b < 4 → a ≠ b → (TJ4 a).2.1 ≠ (TJ4 b).2.1 := by decide +kernel
theorem tyJ4_ok : ∀ k, k < 4 → parseFieldDescriptor (TJ4 k).2.2.1 = some (tyJ4 k) := by decide +kernel
abbrev cJ4_init_da8c8 : ByteArray := prog_22_method_1_code
def yJ4_init_da8c8 : MethodName := ⟨RJ4, "<init>", "()V"⟩
abbrev cJ4_append_15ec4 : ByteArray := prog_22_method_7_code
def yJ4_append_15ec4 : MethodName := ⟨RJ4, "append", "(Ljava/lang/String;)Ljava/lang/StringBuilder;"⟩
abbrev cJ4_append_cf468 : ByteArray := prog_22_method_14_code
def yJ4_append_cf468 : MethodName := ⟨RJ4, "append", "(C)Ljava/lang/StringBuilder;"⟩
abbrev cJ4_append_bf812 : ByteArray := prog_22_method_15_code
def yJ4_append_bf812 : MethodName := ⟨RJ4, "append", "(I)Ljava/lang/StringBuilder;"⟩
abbrev cJ4_toString_0e30d : ByteArray := prog_22_method_42_code
def yJ4_toString_0e30d : MethodName := ⟨RJ4, "toString", "()Ljava/lang/String;"⟩
abbrev cJ4_setLength_d00df : ByteArray := prog_22_method_89_code
def yJ4_setLength_d00df : MethodName := ⟨RJ4, "setLength", "(I)V"⟩
abbrev cJ4_length_8abf5 : ByteArray := prog_22_method_93_code
def yJ4_length_8abf5 : MethodName := ⟨RJ4, "length", "()I"⟩
def RJ1 : String := "java/lang/StringLatin1"
def TJ1 : u_T := fun k => match k with
  | _ => ("", "", "", false)
def tyJ1 : Nat → FieldType := fun k => match k with
  | _ => .int
theorem nmJ1 : ∀ a, a < 0 → ∀ b, b < 0 → a ≠ b → (TJ1 a).2.1 ≠ (TJ1 b).2.1 := by decide +kernel
theorem tyJ1_ok : ∀ k, k < 0 → parseFieldDescriptor (TJ1 k).2.2.1 = some (tyJ1 k) := by decide +kernel
abbrev cJ1_charAt_3b067 : ByteArray := prog_23_method_2_code
def yJ1_charAt_3b067 : MethodName := ⟨RJ1, "charAt", "([BI)C"⟩
abbrev cJ1_canEncode_fc78d : ByteArray := prog_23_method_3_code
def yJ1_canEncode_fc78d : MethodName := ⟨RJ1, "canEncode", "(C)Z"⟩
abbrev cJ1_canEncode_9a6ad : ByteArray := prog_23_method_4_code
def yJ1_canEncode_9a6ad : MethodName := ⟨RJ1, "canEncode", "(I)Z"⟩
abbrev cJ1_equals_b5fdf : ByteArray := prog_23_method_13_code
def yJ1_equals_b5fdf : MethodName := ⟨RJ1, "equals", "([B[B)Z"⟩
abbrev cJ1_indexOf_4cfef : ByteArray := prog_23_method_22_code
def yJ1_indexOf_4cfef : MethodName := ⟨RJ1, "indexOf", "([BIII)I"⟩
abbrev cJ1_indexOfChar_4cfef : ByteArray := prog_23_method_23_code
def yJ1_indexOfChar_4cfef : MethodName := ⟨RJ1, "indexOfChar", "([BIII)I"⟩
abbrev cJ1_fillNull_b72d1 : ByteArray := prog_23_method_48_code
def yJ1_fillNull_b72d1 : MethodName := ⟨RJ1, "fillNull", "([BII)V"⟩
abbrev cJ1_inflate_0e8fd : ByteArray := prog_23_method_50_code
def yJ1_inflate_0e8fd : MethodName := ⟨RJ1, "inflate", "([BI[BII)V"⟩
def RJ2 : String := "java/lang/StringUTF16"
def TJ2 : u_T := fun k => match k with
  | _ => ("", "", "", false)
def tyJ2 : Nat → FieldType := fun k => match k with
  | _ => .int
theorem nmJ2 : ∀ a, a < 0 → ∀ b, b < 0 → a ≠ b → (TJ2 a).2.1 ≠ (TJ2 b).2.1 := by decide +kernel
theorem tyJ2_ok : ∀ k, k < 0 → parseFieldDescriptor (TJ2 k).2.2.1 = some (tyJ2 k) := by decide +kernel
abbrev cJ2_newBytesFor_77867 : ByteArray := prog_24_method_2_code
def yJ2_newBytesFor_77867 : MethodName := ⟨RJ2, "newBytesFor", "(I)[B"⟩
abbrev cJ2_newBytesLength_0f7a4 : ByteArray := prog_24_method_3_code
def yJ2_newBytesLength_0f7a4 : MethodName := ⟨RJ2, "newBytesLength", "(I)I"⟩
abbrev cJ2_putChar_b72d1 : ByteArray := prog_24_method_4_code
def yJ2_putChar_b72d1 : MethodName := ⟨RJ2, "putChar", "([BII)V"⟩
abbrev cJ2_getChar_3b067 : ByteArray := prog_24_method_5_code
def yJ2_getChar_3b067 : MethodName := ⟨RJ2, "getChar", "([BI)C"⟩
abbrev cJ2_length_9d52b : ByteArray := prog_24_method_6_code
def yJ2_length_9d52b : MethodName := ⟨RJ2, "length", "([B)I"⟩
abbrev cJ2_coderFromArrayLen_85cad : ByteArray := prog_24_method_15_code
def yJ2_coderFromArrayLen_85cad : MethodName := ⟨RJ2, "coderFromArrayLen", "([BI)B"⟩
abbrev cJ2_compress_39247 : ByteArray := prog_24_method_17_code
def yJ2_compress_39247 : MethodName := ⟨RJ2, "compress", "([BII)[B"⟩
abbrev cJ2_compress_5af95 : ByteArray := prog_24_method_22_code
def yJ2_compress_5af95 : MethodName := ⟨RJ2, "compress", "([BI[BII)I"⟩
abbrev cJ2_indexOf_4cfef : ByteArray := prog_24_method_40_code
def yJ2_indexOf_4cfef : MethodName := ⟨RJ2, "indexOf", "([BIII)I"⟩
abbrev cJ2_indexOfChar_4cfef : ByteArray := prog_24_method_47_code
def yJ2_indexOfChar_4cfef : MethodName := ⟨RJ2, "indexOfChar", "([BIII)I"⟩
abbrev cJ2_indexOfCharUnsafe_4cfef : ByteArray := prog_24_method_48_code
def yJ2_indexOfCharUnsafe_4cfef : MethodName := ⟨RJ2, "indexOfCharUnsafe", "([BIII)I"⟩
abbrev cJ2_indexOfSupplementary_4cfef : ByteArray := prog_24_method_49_code
def yJ2_indexOfSupplementary_4cfef : MethodName := ⟨RJ2, "indexOfSupplementary", "([BIII)I"⟩
abbrev cJ2_fillNull_b72d1 : ByteArray := prog_24_method_70_code
def yJ2_fillNull_b72d1 : MethodName := ⟨RJ2, "fillNull", "([BII)V"⟩
abbrev cJ2_putCharSB_b72d1 : ByteArray := prog_24_method_71_code
def yJ2_putCharSB_b72d1 : MethodName := ⟨RJ2, "putCharSB", "([BII)V"⟩
abbrev cJ2_getChars_46870 : ByteArray := prog_24_method_77_code
def yJ2_getChars_46870 : MethodName := ⟨RJ2, "getChars", "(III[B)I"⟩
abbrev cJ2_putCharsAt_cd4e5 : ByteArray := prog_24_method_81_code
def yJ2_putCharsAt_cd4e5 : MethodName := ⟨RJ2, "putCharsAt", "([BICCCC)I"⟩
abbrev cJ2_charAt_3b067 : ByteArray := prog_24_method_83_code
def yJ2_charAt_3b067 : MethodName := ⟨RJ2, "charAt", "([BI)C"⟩
abbrev cJ2_inflate_0e8fd : ByteArray := prog_24_method_86_code
def yJ2_inflate_0e8fd : MethodName := ⟨RJ2, "inflate", "([BI[BII)V"⟩
abbrev cJ2_getChars_ba4f3 : ByteArray := prog_24_method_89_code
def yJ2_getChars_ba4f3 : MethodName := ⟨RJ2, "getChars", "(II[B)I"⟩
abbrev cJ2_checkIndex_2214a : ByteArray := prog_24_method_91_code
def yJ2_checkIndex_2214a : MethodName := ⟨RJ2, "checkIndex", "(I[B)V"⟩
abbrev cJ2_checkBoundsBeginEnd_d044e : ByteArray := prog_24_method_93_code
def yJ2_checkBoundsBeginEnd_d044e : MethodName := ⟨RJ2, "checkBoundsBeginEnd", "(II[B)V"⟩
abbrev cJ2_checkBoundsOffCount_d044e : ByteArray := prog_24_method_94_code
def yJ2_checkBoundsOffCount_d044e : MethodName := ⟨RJ2, "checkBoundsOffCount", "(II[B)V"⟩
def RJ10 : String := "java/lang/System"
def TJ10 : u_T := fun k => match k with
  | _ => ("", "", "", false)
def tyJ10 : Nat → FieldType := fun k => match k with
  | _ => .int
theorem nmJ10 : ∀ a, a < 0 → ∀ b, b < 0 → a ≠ b → (TJ10 a).2.1 ≠ (TJ10 b).2.1 := by decide +kernel
theorem tyJ10_ok : ∀ k, k < 0 → parseFieldDescriptor (TJ10 k).2.2.1 = some (tyJ10 k) := by decide +kernel
def RJxfd54e : String := "java/lang/constant/Constable"
def TJxfd54e : u_T := fun k => match k with
  | _ => ("", "", "", false)
def tyJxfd54e : Nat → FieldType := fun k => match k with
  | _ => .int
theorem nmJxfd54e : ∀ a, a < 0 → ∀ b, b < 0 → a ≠ b → (TJxfd54e a).2.1 ≠ (TJxfd54e b).2.1 := by decide +kernel
theorem tyJxfd54e_ok : ∀ k, k < 0 → parseFieldDescriptor (TJxfd54e k).2.2.1 = some (tyJxfd54e k) := by decide +kernel
def RJx3cf43 : String := "java/lang/constant/ConstantDesc"
def TJx3cf43 : u_T := fun k => match k with
  | _ => ("", "", "", false)
def tyJx3cf43 : Nat → FieldType := fun k => match k with
  | _ => .int
theorem nmJx3cf43 : ∀ a, a < 0 → ∀ b, b < 0 → a ≠ b → (TJx3cf43 a).2.1 ≠ (TJx3cf43 b).2.1 := by decide +kernel
theorem tyJx3cf43_ok : ∀ k, k < 0 → parseFieldDescriptor (TJx3cf43 k).2.2.1 = some (tyJx3cf43 k) := by decide +kernel
def RJ7 : String := "java/util/Arrays"
def TJ7 : u_T := fun k => match k with
  | _ => ("", "", "", false)
def tyJ7 : Nat → FieldType := fun k => match k with
  | _ => .int
theorem nmJ7 : ∀ a, a < 0 → ∀ b, b < 0 → a ≠ b → (TJ7 a).2.1 ≠ (TJ7 b).2.1 := by decide +kernel
theorem tyJ7_ok : ∀ k, k < 0 → parseFieldDescriptor (TJ7 k).2.2.1 = some (tyJ7 k) := by decide +kernel
abbrev cJ7_rangeCheck_23922 : ByteArray := prog_26_method_30_code
def yJ7_rangeCheck_23922 : MethodName := ⟨RJ7, "rangeCheck", "(III)V"⟩
abbrev cJ7_fill_53178 : ByteArray := prog_26_method_103_code
def yJ7_fill_53178 : MethodName := ⟨RJ7, "fill", "([II)V"⟩
abbrev cJ7_fill_031fb : ByteArray := prog_26_method_109_code
def yJ7_fill_031fb : MethodName := ⟨RJ7, "fill", "([BB)V"⟩
abbrev cJ7_fill_eb02e : ByteArray := prog_26_method_110_code
def yJ7_fill_eb02e : MethodName := ⟨RJ7, "fill", "([BIIB)V"⟩
abbrev cJ7_copyOf_9075b : ByteArray := prog_26_method_121_code
def yJ7_copyOf_9075b : MethodName := ⟨RJ7, "copyOf", "([BI)[B"⟩
abbrev cJ7_checkLength_df160 : ByteArray := prog_26_method_131_code
def yJ7_checkLength_df160 : MethodName := ⟨RJ7, "checkLength", "(II)V"⟩
abbrev cJ7_copyOfRange_39247 : ByteArray := prog_26_method_132_code
def yJ7_copyOfRange_39247 : MethodName := ⟨RJ7, "copyOfRange", "([BII)[B"⟩
abbrev cJ7_copyOfRangeByte_39247 : ByteArray := prog_26_method_133_code
def yJ7_copyOfRangeByte_39247 : MethodName := ⟨RJ7, "copyOfRangeByte", "([BII)[B"⟩
def RJ8 : String := "jdk/internal/util/ArraysSupport"
def TJ8 : u_T := fun k => match k with
  | _ => ("", "", "", false)
def tyJ8 : Nat → FieldType := fun k => match k with
  | _ => .int
theorem nmJ8 : ∀ a, a < 0 → ∀ b, b < 0 → a ≠ b → (TJ8 a).2.1 ≠ (TJ8 b).2.1 := by decide +kernel
theorem tyJ8_ok : ∀ k, k < 0 → parseFieldDescriptor (TJ8 k).2.2.1 = some (tyJ8 k) := by decide +kernel
abbrev cJ8_newLength_cabcc : ByteArray := prog_27_method_27_code
def yJ8_newLength_cabcc : MethodName := ⟨RJ8, "newLength", "(III)I"⟩
abbrev cJ8_hugeLength_7cf53 : ByteArray := prog_27_method_28_code
def yJ8_hugeLength_7cf53 : MethodName := ⟨RJ8, "hugeLength", "(II)I"⟩
def RJ3 : String := "jdk/internal/util/Preconditions"
def TJ3 : u_T := fun k => match k with
  | _ => ("", "", "", false)
def tyJ3 : Nat → FieldType := fun k => match k with
  | _ => .int
theorem nmJ3 : ∀ a, a < 0 → ∀ b, b < 0 → a ≠ b → (TJ3 a).2.1 ≠ (TJ3 b).2.1 := by decide +kernel
theorem tyJ3_ok : ∀ k, k < 0 → parseFieldDescriptor (TJ3 k).2.2.1 = some (tyJ3 k) := by decide +kernel
abbrev cJ3_checkIndex_8e157 : ByteArray := prog_28_method_11_code
def yJ3_checkIndex_8e157 : MethodName := ⟨RJ3, "checkIndex", "(IILjava/util/function/BiFunction;)I"⟩
abbrev cJ3_checkFromToIndex_8c36e : ByteArray := prog_28_method_12_code
def yJ3_checkFromToIndex_8c36e : MethodName := ⟨RJ3, "checkFromToIndex", "(IIILjava/util/function/BiFunction;)I"⟩
abbrev cJ3_checkFromIndexSize_8c36e : ByteArray := prog_28_method_13_code
def yJ3_checkFromIndexSize_8c36e : MethodName := ⟨RJ3, "checkFromIndexSize", "(IIILjava/util/function/BiFunction;)I"⟩
def RL : String := "LeafFormulaLaw"
abbrev cL_law : ByteArray := code
def yL_law : MethodName := ⟨RL, "law", "([I)Z"⟩
abbrev vwCl : List vw_C := [(RJ0, TJ0, 4), (RJ4, TJ4, 4), (RX0, TX0, 7), (RX1, TX1, 3), (RX2, TX2, 8), (RX4, TX4, 5), (RX5, TX5, 4), (RX6, TX6, 6), (RX7, TX7, 6), (RX8, TX8, 2), (RX9, TX9, 1), (RX10, TX10, 5), (RX11, TX11, 12), (RX12, TX12, 49)]
