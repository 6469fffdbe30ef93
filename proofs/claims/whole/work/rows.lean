section
-- ===== PART A: goes FIRST, ahead of the names: the tables' words, and 'selects' of the private methods out of them =====
/-- a private method of a class that the tables say can be made, by its rows of tables_1 -/
def lw_okq (q : MethodName × Nat) : Prop := (q.1.cls ≠ "java/lang/invoke/MethodHandle" ∧ q.1.cls ≠ "java/lang/invoke/VarHandle") ∧ Cond.instantiable q.1.cls q.2 ∈ tables_1 ∧ Cond.privateMethod q.1 ∈ tables_1 ∧ Cond.instanceMethod q.1 ∈ tables_1
theorem lw_p0 : lw_okq (⟨"RelationStore$Reader", "readTuples", "(Z)Z"⟩, 4) := ⟨⟨by decide +kernel, by decide +kernel⟩, List.mem_of_getElem? (i := 34) (by decide +kernel), List.mem_of_getElem? (i := 233) (by decide +kernel), List.mem_of_getElem? (i := 234) (by decide +kernel)⟩
theorem lw_p1 : lw_okq (⟨"RelationStore$Reader", "readExpression", "(IZ)Z"⟩, 4) := ⟨⟨by decide +kernel, by decide +kernel⟩, List.mem_of_getElem? (i := 34) (by decide +kernel), List.mem_of_getElem? (i := 245) (by decide +kernel), List.mem_of_getElem? (i := 246) (by decide +kernel)⟩
theorem lw_p2 : lw_okq (⟨"RelationStore$Reader", "readPart", "(IZ)Z"⟩, 4) := ⟨⟨by decide +kernel, by decide +kernel⟩, List.mem_of_getElem? (i := 34) (by decide +kernel), List.mem_of_getElem? (i := 249) (by decide +kernel), List.mem_of_getElem? (i := 250) (by decide +kernel)⟩
theorem lw_p3 : lw_okq (⟨"RelationStore$Reader", "next", "()C"⟩, 4) := ⟨⟨by decide +kernel, by decide +kernel⟩, List.mem_of_getElem? (i := 34) (by decide +kernel), List.mem_of_getElem? (i := 253) (by decide +kernel), List.mem_of_getElem? (i := 254) (by decide +kernel)⟩
theorem lw_p4 : lw_okq (⟨"RelationStore$Reader", "readSame", "(Z)Z"⟩, 4) := ⟨⟨by decide +kernel, by decide +kernel⟩, List.mem_of_getElem? (i := 34) (by decide +kernel), List.mem_of_getElem? (i := 257) (by decide +kernel), List.mem_of_getElem? (i := 258) (by decide +kernel)⟩
theorem lw_p5 : lw_okq (⟨"RelationStore$Reader", "readName", "()I"⟩, 4) := ⟨⟨by decide +kernel, by decide +kernel⟩, List.mem_of_getElem? (i := 34) (by decide +kernel), List.mem_of_getElem? (i := 261) (by decide +kernel), List.mem_of_getElem? (i := 262) (by decide +kernel)⟩
theorem lw_p6 : lw_okq (⟨"RelationStore$Reader", "isOfOwnNamespace", "(I)Z"⟩, 4) := ⟨⟨by decide +kernel, by decide +kernel⟩, List.mem_of_getElem? (i := 34) (by decide +kernel), List.mem_of_getElem? (i := 265) (by decide +kernel), List.mem_of_getElem? (i := 266) (by decide +kernel)⟩
theorem lw_p7 : lw_okq (⟨"RelationStore$Reader", "readFrom", "(Z)Z"⟩, 4) := ⟨⟨by decide +kernel, by decide +kernel⟩, List.mem_of_getElem? (i := 34) (by decide +kernel), List.mem_of_getElem? (i := 269) (by decide +kernel), List.mem_of_getElem? (i := 270) (by decide +kernel)⟩
theorem lw_p8 : lw_okq (⟨"RelationStore", "forget", "()V"⟩, 6) := ⟨⟨by decide +kernel, by decide +kernel⟩, List.mem_of_getElem? (i := 18) (by decide +kernel), List.mem_of_getElem? (i := 280) (by decide +kernel), List.mem_of_getElem? (i := 281) (by decide +kernel)⟩
theorem lw_p9 : lw_okq (⟨"java/lang/Throwable", "fillInStackTrace", "(I)Ljava/lang/Throwable;"⟩, 6) := ⟨⟨by decide +kernel, by decide +kernel⟩, List.mem_of_getElem? (i := 343) (by decide +kernel), List.mem_of_getElem? (i := 341) (by decide +kernel), List.mem_of_getElem? (i := 342) (by decide +kernel)⟩
theorem lw_p10 : lw_okq (⟨"RelationStore$Configuration", "findReached", "()V"⟩, 5) := ⟨⟨by decide +kernel, by decide +kernel⟩, List.mem_of_getElem? (i := 26) (by decide +kernel), List.mem_of_getElem? (i := 391) (by decide +kernel), List.mem_of_getElem? (i := 392) (by decide +kernel)⟩
theorem lw_p11 : lw_okq (⟨"RelationStore$Configuration", "levelAbove", "(LRelationStore$Relation;)I"⟩, 5) := ⟨⟨by decide +kernel, by decide +kernel⟩, List.mem_of_getElem? (i := 26) (by decide +kernel), List.mem_of_getElem? (i := 417) (by decide +kernel), List.mem_of_getElem? (i := 418) (by decide +kernel)⟩
theorem lw_p12 : lw_okq (⟨"RelationStore$Configuration", "isListed", "(LRelationStore$Relation;III)Z"⟩, 5) := ⟨⟨by decide +kernel, by decide +kernel⟩, List.mem_of_getElem? (i := 26) (by decide +kernel), List.mem_of_getElem? (i := 442) (by decide +kernel), List.mem_of_getElem? (i := 443) (by decide +kernel)⟩
theorem lw_p13 : lw_okq (⟨"RelationStore", "refuseUnless", "(ZI)V"⟩, 6) := ⟨⟨by decide +kernel, by decide +kernel⟩, List.mem_of_getElem? (i := 18) (by decide +kernel), List.mem_of_getElem? (i := 479) (by decide +kernel), List.mem_of_getElem? (i := 480) (by decide +kernel)⟩
theorem lw_p14 : lw_okq (⟨"RelationStore", "versionOf", "(I)LRelationStore$Version;"⟩, 6) := ⟨⟨by decide +kernel, by decide +kernel⟩, List.mem_of_getElem? (i := 18) (by decide +kernel), List.mem_of_getElem? (i := 483) (by decide +kernel), List.mem_of_getElem? (i := 484) (by decide +kernel)⟩
theorem lw_p15 : lw_okq (⟨"RelationStore$Version", "apply", "(I)V"⟩, 5) := ⟨⟨by decide +kernel, by decide +kernel⟩, List.mem_of_getElem? (i := 154) (by decide +kernel), List.mem_of_getElem? (i := 498) (by decide +kernel), List.mem_of_getElem? (i := 499) (by decide +kernel)⟩
def lw_privs_1 : List (MethodName × Nat) := [(⟨"RelationStore$Reader", "readTuples", "(Z)Z"⟩, 4), (⟨"RelationStore$Reader", "readExpression", "(IZ)Z"⟩, 4), (⟨"RelationStore$Reader", "readPart", "(IZ)Z"⟩, 4), (⟨"RelationStore$Reader", "next", "()C"⟩, 4), (⟨"RelationStore$Reader", "readSame", "(Z)Z"⟩, 4), (⟨"RelationStore$Reader", "readName", "()I"⟩, 4), (⟨"RelationStore$Reader", "isOfOwnNamespace", "(I)Z"⟩, 4), (⟨"RelationStore$Reader", "readFrom", "(Z)Z"⟩, 4), (⟨"RelationStore", "forget", "()V"⟩, 6), (⟨"java/lang/Throwable", "fillInStackTrace", "(I)Ljava/lang/Throwable;"⟩, 6), (⟨"RelationStore$Configuration", "findReached", "()V"⟩, 5), (⟨"RelationStore$Configuration", "levelAbove", "(LRelationStore$Relation;)I"⟩, 5), (⟨"RelationStore$Configuration", "isListed", "(LRelationStore$Relation;III)Z"⟩, 5), (⟨"RelationStore", "refuseUnless", "(ZI)V"⟩, 6), (⟨"RelationStore", "versionOf", "(I)LRelationStore$Version;"⟩, 6), (⟨"RelationStore$Version", "apply", "(I)V"⟩, 5)]
theorem lw_r1 : ∀ q ∈ lw_privs_1, lw_okq q := List.forall_mem_cons.mpr ⟨lw_p0, List.forall_mem_cons.mpr ⟨lw_p1, List.forall_mem_cons.mpr ⟨lw_p2, List.forall_mem_cons.mpr ⟨lw_p3, List.forall_mem_cons.mpr ⟨lw_p4, List.forall_mem_cons.mpr ⟨lw_p5, List.forall_mem_cons.mpr ⟨lw_p6, List.forall_mem_cons.mpr ⟨lw_p7, List.forall_mem_cons.mpr ⟨lw_p8, List.forall_mem_cons.mpr ⟨lw_p9, List.forall_mem_cons.mpr ⟨lw_p10, List.forall_mem_cons.mpr ⟨lw_p11, List.forall_mem_cons.mpr ⟨lw_p12, List.forall_mem_cons.mpr ⟨lw_p13, List.forall_mem_cons.mpr ⟨lw_p14, List.forall_mem_cons.mpr ⟨lw_p15, fun _ h => absurd h List.not_mem_nil⟩⟩⟩⟩⟩⟩⟩⟩⟩⟩⟩⟩⟩⟩⟩⟩
theorem lw_p16 : lw_okq (⟨"RelationStore$Version", "settle", "(LRelationStore$Configuration;I)V"⟩, 5) := ⟨⟨by decide +kernel, by decide +kernel⟩, List.mem_of_getElem? (i := 154) (by decide +kernel), List.mem_of_getElem? (i := 542) (by decide +kernel), List.mem_of_getElem? (i := 543) (by decide +kernel)⟩
theorem lw_p17 : lw_okq (⟨"RelationStore$Version", "grow", "([LRelationStore$Relation;I)Z"⟩, 5) := ⟨⟨by decide +kernel, by decide +kernel⟩, List.mem_of_getElem? (i := 154) (by decide +kernel), List.mem_of_getElem? (i := 546) (by decide +kernel), List.mem_of_getElem? (i := 547) (by decide +kernel)⟩
theorem lw_p18 : lw_okq (⟨"RelationStore$Version", "workOut", "([LRelationStore$Relation;II)I"⟩, 5) := ⟨⟨by decide +kernel, by decide +kernel⟩, List.mem_of_getElem? (i := 154) (by decide +kernel), List.mem_of_getElem? (i := 550) (by decide +kernel), List.mem_of_getElem? (i := 551) (by decide +kernel)⟩
theorem lw_p19 : lw_okq (⟨"RelationStore$Version", "tupleMembers", "(I)I"⟩, 5) := ⟨⟨by decide +kernel, by decide +kernel⟩, List.mem_of_getElem? (i := 154) (by decide +kernel), List.mem_of_getElem? (i := 554) (by decide +kernel), List.mem_of_getElem? (i := 555) (by decide +kernel)⟩
theorem lw_p20 : lw_okq (⟨"RelationStore$Version", "objectMembers", "(III)I"⟩, 5) := ⟨⟨by decide +kernel, by decide +kernel⟩, List.mem_of_getElem? (i := 154) (by decide +kernel), List.mem_of_getElem? (i := 558) (by decide +kernel), List.mem_of_getElem? (i := 559) (by decide +kernel)⟩
theorem lw_p21 : lw_okq (⟨"RelationStoreModel", "isRelation", "(I)Z"⟩, 28) := ⟨⟨by decide +kernel, by decide +kernel⟩, List.mem_of_getElem? (i := 620) (by decide +kernel), List.mem_of_getElem? (i := 728) (by decide +kernel), List.mem_of_getElem? (i := 729) (by decide +kernel)⟩
theorem lw_p22 : lw_okq (⟨"RelationStoreModel", "isRule", "(I)Z"⟩, 28) := ⟨⟨by decide +kernel, by decide +kernel⟩, List.mem_of_getElem? (i := 620) (by decide +kernel), List.mem_of_getElem? (i := 732) (by decide +kernel), List.mem_of_getElem? (i := 733) (by decide +kernel)⟩
theorem lw_p23 : lw_okq (⟨"RelationStoreModel", "at", "(II)I"⟩, 28) := ⟨⟨by decide +kernel, by decide +kernel⟩, List.mem_of_getElem? (i := 620) (by decide +kernel), List.mem_of_getElem? (i := 736) (by decide +kernel), List.mem_of_getElem? (i := 737) (by decide +kernel)⟩
theorem lw_p24 : lw_okq (⟨"RelationStoreModel", "partAt", "(II)I"⟩, 28) := ⟨⟨by decide +kernel, by decide +kernel⟩, List.mem_of_getElem? (i := 620) (by decide +kernel), List.mem_of_getElem? (i := 740) (by decide +kernel), List.mem_of_getElem? (i := 741) (by decide +kernel)⟩
theorem lw_p25 : lw_okq (⟨"RelationStoreModel", "named", "(II)I"⟩, 28) := ⟨⟨by decide +kernel, by decide +kernel⟩, List.mem_of_getElem? (i := 620) (by decide +kernel), List.mem_of_getElem? (i := 744) (by decide +kernel), List.mem_of_getElem? (i := 745) (by decide +kernel)⟩
theorem lw_p26 : lw_okq (⟨"RelationStoreModel", "findNeeds", "(I)V"⟩, 28) := ⟨⟨by decide +kernel, by decide +kernel⟩, List.mem_of_getElem? (i := 620) (by decide +kernel), List.mem_of_getElem? (i := 755) (by decide +kernel), List.mem_of_getElem? (i := 756) (by decide +kernel)⟩
theorem lw_p27 : lw_okq (⟨"RelationStoreModel", "needOf", "(IIZ)V"⟩, 28) := ⟨⟨by decide +kernel, by decide +kernel⟩, List.mem_of_getElem? (i := 620) (by decide +kernel), List.mem_of_getElem? (i := 759) (by decide +kernel), List.mem_of_getElem? (i := 760) (by decide +kernel)⟩
theorem lw_p28 : lw_okq (⟨"RelationStoreModel", "need", "(IIZ)V"⟩, 28) := ⟨⟨by decide +kernel, by decide +kernel⟩, List.mem_of_getElem? (i := 620) (by decide +kernel), List.mem_of_getElem? (i := 763) (by decide +kernel), List.mem_of_getElem? (i := 764) (by decide +kernel)⟩
theorem lw_p29 : lw_okq (⟨"RelationStoreModel", "close", "()V"⟩, 28) := ⟨⟨by decide +kernel, by decide +kernel⟩, List.mem_of_getElem? (i := 620) (by decide +kernel), List.mem_of_getElem? (i := 767) (by decide +kernel), List.mem_of_getElem? (i := 768) (by decide +kernel)⟩
theorem lw_p30 : lw_okq (⟨"RelationStoreModel", "isCircular", "()Z"⟩, 28) := ⟨⟨by decide +kernel, by decide +kernel⟩, List.mem_of_getElem? (i := 620) (by decide +kernel), List.mem_of_getElem? (i := 771) (by decide +kernel), List.mem_of_getElem? (i := 772) (by decide +kernel)⟩
theorem lw_p31 : lw_okq (⟨"RelationStoreModel", "findLevels", "()V"⟩, 28) := ⟨⟨by decide +kernel, by decide +kernel⟩, List.mem_of_getElem? (i := 620) (by decide +kernel), List.mem_of_getElem? (i := 775) (by decide +kernel), List.mem_of_getElem? (i := 776) (by decide +kernel)⟩
def lw_privs_2 : List (MethodName × Nat) := [(⟨"RelationStore$Version", "settle", "(LRelationStore$Configuration;I)V"⟩, 5), (⟨"RelationStore$Version", "grow", "([LRelationStore$Relation;I)Z"⟩, 5), (⟨"RelationStore$Version", "workOut", "([LRelationStore$Relation;II)I"⟩, 5), (⟨"RelationStore$Version", "tupleMembers", "(I)I"⟩, 5), (⟨"RelationStore$Version", "objectMembers", "(III)I"⟩, 5), (⟨"RelationStoreModel", "isRelation", "(I)Z"⟩, 28), (⟨"RelationStoreModel", "isRule", "(I)Z"⟩, 28), (⟨"RelationStoreModel", "at", "(II)I"⟩, 28), (⟨"RelationStoreModel", "partAt", "(II)I"⟩, 28), (⟨"RelationStoreModel", "named", "(II)I"⟩, 28), (⟨"RelationStoreModel", "findNeeds", "(I)V"⟩, 28), (⟨"RelationStoreModel", "needOf", "(IIZ)V"⟩, 28), (⟨"RelationStoreModel", "need", "(IIZ)V"⟩, 28), (⟨"RelationStoreModel", "close", "()V"⟩, 28), (⟨"RelationStoreModel", "isCircular", "()Z"⟩, 28), (⟨"RelationStoreModel", "findLevels", "()V"⟩, 28)]
theorem lw_r2 : ∀ q ∈ lw_privs_2, lw_okq q := List.forall_mem_cons.mpr ⟨lw_p16, List.forall_mem_cons.mpr ⟨lw_p17, List.forall_mem_cons.mpr ⟨lw_p18, List.forall_mem_cons.mpr ⟨lw_p19, List.forall_mem_cons.mpr ⟨lw_p20, List.forall_mem_cons.mpr ⟨lw_p21, List.forall_mem_cons.mpr ⟨lw_p22, List.forall_mem_cons.mpr ⟨lw_p23, List.forall_mem_cons.mpr ⟨lw_p24, List.forall_mem_cons.mpr ⟨lw_p25, List.forall_mem_cons.mpr ⟨lw_p26, List.forall_mem_cons.mpr ⟨lw_p27, List.forall_mem_cons.mpr ⟨lw_p28, List.forall_mem_cons.mpr ⟨lw_p29, List.forall_mem_cons.mpr ⟨lw_p30, List.forall_mem_cons.mpr ⟨lw_p31, fun _ h => absurd h List.not_mem_nil⟩⟩⟩⟩⟩⟩⟩⟩⟩⟩⟩⟩⟩⟩⟩⟩
theorem lw_p32 : lw_okq (⟨"RelationStoreModel", "isTuple", "(IIIII)Z"⟩, 28) := ⟨⟨by decide +kernel, by decide +kernel⟩, List.mem_of_getElem? (i := 620) (by decide +kernel), List.mem_of_getElem? (i := 783) (by decide +kernel), List.mem_of_getElem? (i := 784) (by decide +kernel)⟩
theorem lw_p33 : lw_okq (⟨"RelationStoreModel", "isOf", "(II)Z"⟩, 28) := ⟨⟨by decide +kernel, by decide +kernel⟩, List.mem_of_getElem? (i := 620) (by decide +kernel), List.mem_of_getElem? (i := 787) (by decide +kernel), List.mem_of_getElem? (i := 788) (by decide +kernel)⟩
theorem lw_p34 : lw_okq (⟨"RelationStoreModel", "isFine", "(IZ)Z"⟩, 28) := ⟨⟨by decide +kernel, by decide +kernel⟩, List.mem_of_getElem? (i := 620) (by decide +kernel), List.mem_of_getElem? (i := 811) (by decide +kernel), List.mem_of_getElem? (i := 812) (by decide +kernel)⟩
theorem lw_p35 : lw_okq (⟨"RelationStoreModel", "fail", "(I)Z"⟩, 28) := ⟨⟨by decide +kernel, by decide +kernel⟩, List.mem_of_getElem? (i := 620) (by decide +kernel), List.mem_of_getElem? (i := 815) (by decide +kernel), List.mem_of_getElem? (i := 816) (by decide +kernel)⟩
theorem lw_p36 : lw_okq (⟨"RelationStoreModel", "play", "(I)V"⟩, 28) := ⟨⟨by decide +kernel, by decide +kernel⟩, List.mem_of_getElem? (i := 620) (by decide +kernel), List.mem_of_getElem? (i := 819) (by decide +kernel), List.mem_of_getElem? (i := 820) (by decide +kernel)⟩
theorem lw_p37 : lw_okq (⟨"RelationStoreModel", "same", "(II)Z"⟩, 28) := ⟨⟨by decide +kernel, by decide +kernel⟩, List.mem_of_getElem? (i := 620) (by decide +kernel), List.mem_of_getElem? (i := 823) (by decide +kernel), List.mem_of_getElem? (i := 824) (by decide +kernel)⟩
theorem lw_p38 : lw_okq (⟨"RelationStoreModel", "findMembers", "(I)V"⟩, 28) := ⟨⟨by decide +kernel, by decide +kernel⟩, List.mem_of_getElem? (i := 620) (by decide +kernel), List.mem_of_getElem? (i := 834) (by decide +kernel), List.mem_of_getElem? (i := 835) (by decide +kernel)⟩
theorem lw_p39 : lw_okq (⟨"RelationStoreModel", "worked", "(II)I"⟩, 28) := ⟨⟨by decide +kernel, by decide +kernel⟩, List.mem_of_getElem? (i := 620) (by decide +kernel), List.mem_of_getElem? (i := 838) (by decide +kernel), List.mem_of_getElem? (i := 839) (by decide +kernel)⟩
theorem lw_p40 : lw_okq (⟨"RelationStoreModel", "told", "(II)I"⟩, 28) := ⟨⟨by decide +kernel, by decide +kernel⟩, List.mem_of_getElem? (i := 620) (by decide +kernel), List.mem_of_getElem? (i := 842) (by decide +kernel), List.mem_of_getElem? (i := 843) (by decide +kernel)⟩
theorem lw_p41 : lw_okq (⟨"RelationStoreModel", "join", "(II)V"⟩, 28) := ⟨⟨by decide +kernel, by decide +kernel⟩, List.mem_of_getElem? (i := 620) (by decide +kernel), List.mem_of_getElem? (i := 846) (by decide +kernel), List.mem_of_getElem? (i := 847) (by decide +kernel)⟩
theorem lw_p42 : lw_okq (⟨"RelationStoreModel", "partOf", "(III)I"⟩, 28) := ⟨⟨by decide +kernel, by decide +kernel⟩, List.mem_of_getElem? (i := 620) (by decide +kernel), List.mem_of_getElem? (i := 850) (by decide +kernel), List.mem_of_getElem? (i := 851) (by decide +kernel)⟩
theorem lw_p43 : lw_okq (⟨"RelationStoreModel", "from", "(III)I"⟩, 28) := ⟨⟨by decide +kernel, by decide +kernel⟩, List.mem_of_getElem? (i := 620) (by decide +kernel), List.mem_of_getElem? (i := 854) (by decide +kernel), List.mem_of_getElem? (i := 855) (by decide +kernel)⟩
theorem lw_p44 : lw_okq (⟨"RelationStoreModel", "since", "(I)I"⟩, 28) := ⟨⟨by decide +kernel, by decide +kernel⟩, List.mem_of_getElem? (i := 620) (by decide +kernel), List.mem_of_getElem? (i := 874) (by decide +kernel), List.mem_of_getElem? (i := 875) (by decide +kernel)⟩
def lw_privs_3 : List (MethodName × Nat) := [(⟨"RelationStoreModel", "isTuple", "(IIIII)Z"⟩, 28), (⟨"RelationStoreModel", "isOf", "(II)Z"⟩, 28), (⟨"RelationStoreModel", "isFine", "(IZ)Z"⟩, 28), (⟨"RelationStoreModel", "fail", "(I)Z"⟩, 28), (⟨"RelationStoreModel", "play", "(I)V"⟩, 28), (⟨"RelationStoreModel", "same", "(II)Z"⟩, 28), (⟨"RelationStoreModel", "findMembers", "(I)V"⟩, 28), (⟨"RelationStoreModel", "worked", "(II)I"⟩, 28), (⟨"RelationStoreModel", "told", "(II)I"⟩, 28), (⟨"RelationStoreModel", "join", "(II)V"⟩, 28), (⟨"RelationStoreModel", "partOf", "(III)I"⟩, 28), (⟨"RelationStoreModel", "from", "(III)I"⟩, 28), (⟨"RelationStoreModel", "since", "(I)I"⟩, 28)]
theorem lw_r3 : ∀ q ∈ lw_privs_3, lw_okq q := List.forall_mem_cons.mpr ⟨lw_p32, List.forall_mem_cons.mpr ⟨lw_p33, List.forall_mem_cons.mpr ⟨lw_p34, List.forall_mem_cons.mpr ⟨lw_p35, List.forall_mem_cons.mpr ⟨lw_p36, List.forall_mem_cons.mpr ⟨lw_p37, List.forall_mem_cons.mpr ⟨lw_p38, List.forall_mem_cons.mpr ⟨lw_p39, List.forall_mem_cons.mpr ⟨lw_p40, List.forall_mem_cons.mpr ⟨lw_p41, List.forall_mem_cons.mpr ⟨lw_p42, List.forall_mem_cons.mpr ⟨lw_p43, List.forall_mem_cons.mpr ⟨lw_p44, fun _ h => absurd h List.not_mem_nil⟩⟩⟩⟩⟩⟩⟩⟩⟩⟩⟩⟩⟩
def lw_privs : List (MethodName × Nat) := lw_privs_1 ++ (lw_privs_2 ++ (lw_privs_3))
def lw_tbl : List Cond := k2_sels lw_privs ++ tables_1
theorem lw_privs_ok : ∀ q ∈ lw_privs, lw_okq q := by
  show ∀ q ∈ lw_privs_1 ++ (lw_privs_2 ++ (lw_privs_3)), lw_okq q
  exact List.forall_mem_append.mpr ⟨lw_r1, List.forall_mem_append.mpr ⟨lw_r2, lw_r3⟩⟩
end
section
abbrev R_Rs : String := "RelationStore"
abbrev R_Cf : String := "RelationStore$Configuration"
abbrev R_Lg : String := "RelationStore$Log"
abbrev R_Rd : String := "RelationStore$Reader"
abbrev R_Rl : String := "RelationStore$Relation"
abbrev R_Vs : String := "RelationStore$Version"
abbrev R_Md : String := "RelationStoreModel"
abbrev R_Lw : String := "RelationStoreLaw"
abbrev R_Ob : String := "java/lang/Object"
abbrev R_Ex : String := "java/lang/Exception"
abbrev R_Rx : String := "java/lang/RuntimeException"
abbrev R_Th : String := "java/lang/Throwable"
abbrev R_Ia : String := "java/lang/IllegalArgumentException"
abbrev R_Is : String := "java/lang/IllegalStateException"
abbrev R_Uo : String := "java/lang/UnsupportedOperationException"
abbrev R_Lo : String := "java/lang/Long"
abbrev R_Ma : String := "java/lang/Math"
abbrev R_Ar : String := "java/util/Arrays"
def T_Rs : u_T := fun k => match k with
  | 0 => ("RelationStore", "kept", "I", true)
  | 1 => ("RelationStore", "configuration", "LRelationStore$Configuration;", true)
  | 2 => ("RelationStore", "batch", "[I", true)
  | 3 => ("RelationStore", "batched", "I", false)
  | 4 => ("RelationStore", "log", "LRelationStore$Log;", true)
  | _ => ("RelationStore", "versions", "[LRelationStore$Version;", true)
def ty_Rs : Nat → FieldType := fun k => match k with
  | 0 => .int
  | 1 => (.object "RelationStore$Configuration")
  | 2 => (.array .int)
  | 3 => .int
  | 4 => (.object "RelationStore$Log")
  | _ => (.array (.object "RelationStore$Version"))
theorem nm_Rs : ∀ a, a < 6 → ∀ b, b < 6 → a ≠ b → (T_Rs a).2.1 ≠ (T_Rs b).2.1 := by decide +kernel
theorem tk_Rs : ∀ k, k < 6 → parseFieldDescriptor (T_Rs k).2.2.1 = some (ty_Rs k) := by decide +kernel
def T_Cf : u_T := fun k => match k with
  | 0 => ("RelationStore$Configuration", "relations", "[LRelationStore$Relation;", true)
  | 1 => ("RelationStore$Configuration", "count", "I", false)
  | 2 => ("RelationStore$Configuration", "accepted", "Z", false)
  | 3 => ("RelationStore$Configuration", "reader", "LRelationStore$Reader;", true)
  | _ => ("RelationStore$Configuration", "reached", "[I", true)
def ty_Cf : Nat → FieldType := fun k => match k with
  | 0 => (.array (.object "RelationStore$Relation"))
  | 1 => .int
  | 2 => .boolean
  | 3 => (.object "RelationStore$Reader")
  | _ => (.array .int)
theorem nm_Cf : ∀ a, a < 5 → ∀ b, b < 5 → a ≠ b → (T_Cf a).2.1 ≠ (T_Cf b).2.1 := by decide +kernel
theorem tk_Cf : ∀ k, k < 5 → parseFieldDescriptor (T_Cf k).2.2.1 = some (ty_Cf k) := by decide +kernel
def T_Lg : u_T := fun k => match k with
  | 0 => ("RelationStore$Log", "records", "[I", true)
  | 1 => ("RelationStore$Log", "length", "I", false)
  | _ => ("RelationStore$Log", "marks", "I", false)
def ty_Lg : Nat → FieldType := fun k => match k with
  | 0 => (.array .int)
  | 1 => .int
  | _ => .int
theorem nm_Lg : ∀ a, a < 3 → ∀ b, b < 3 → a ≠ b → (T_Lg a).2.1 ≠ (T_Lg b).2.1 := by decide +kernel
theorem tk_Lg : ∀ k, k < 3 → parseFieldDescriptor (T_Lg k).2.2.1 = some (ty_Lg k) := by decide +kernel
def T_Rd : u_T := fun k => match k with
  | 0 => ("RelationStore$Reader", "relations", "[LRelationStore$Relation;", false)
  | 1 => ("RelationStore$Reader", "count", "I", false)
  | 2 => ("RelationStore$Reader", "own", "LRelationStore$Relation;", false)
  | _ => ("RelationStore$Reader", "at", "I", false)
def ty_Rd : Nat → FieldType := fun k => match k with
  | 0 => (.array (.object "RelationStore$Relation"))
  | 1 => .int
  | 2 => (.object "RelationStore$Relation")
  | _ => .int
theorem nm_Rd : ∀ a, a < 4 → ∀ b, b < 4 → a ≠ b → (T_Rd a).2.1 ≠ (T_Rd b).2.1 := by decide +kernel
theorem tk_Rd : ∀ k, k < 4 → parseFieldDescriptor (T_Rd k).2.2.1 = some (ty_Rd k) := by decide +kernel
def T_Rl : u_T := fun k => match k with
  | 0 => ("RelationStore$Relation", "namespace", "I", false)
  | 1 => ("RelationStore$Relation", "users", "Z", false)
  | 2 => ("RelationStore$Relation", "objects", "I", false)
  | 3 => ("RelationStore$Relation", "usersets", "I", false)
  | 4 => ("RelationStore$Relation", "text", "[C", true)
  | 5 => ("RelationStore$Relation", "length", "I", false)
  | 6 => ("RelationStore$Relation", "kinds", "[C", true)
  | 7 => ("RelationStore$Relation", "firsts", "[I", true)
  | 8 => ("RelationStore$Relation", "seconds", "[I", true)
  | 9 => ("RelationStore$Relation", "steps", "I", false)
  | 10 => ("RelationStore$Relation", "needed", "I", false)
  | 11 => ("RelationStore$Relation", "barred", "I", false)
  | _ => ("RelationStore$Relation", "level", "I", false)
def ty_Rl : Nat → FieldType := fun k => match k with
  | 0 => .int
  | 1 => .boolean
  | 2 => .int
  | 3 => .int
  | 4 => (.array .char)
  | 5 => .int
  | 6 => (.array .char)
  | 7 => (.array .int)
  | 8 => (.array .int)
  | 9 => .int
  | 10 => .int
  | 11 => .int
  | _ => .int
theorem nm_Rl : ∀ a, a < 13 → ∀ b, b < 13 → a ≠ b → (T_Rl a).2.1 ≠ (T_Rl b).2.1 := by decide +kernel
theorem tk_Rl : ∀ k, k < 13 → parseFieldDescriptor (T_Rl k).2.2.1 = some (ty_Rl k) := by decide +kernel
def T_Vs : u_T := fun k => match k with
  | 0 => ("RelationStore$Version", "token", "I", false)
  | 1 => ("RelationStore$Version", "subjects", "[J", true)
  | 2 => ("RelationStore$Version", "members", "[I", true)
  | 3 => ("RelationStore$Version", "workedOut", "Z", false)
  | _ => ("RelationStore$Version", "stack", "[I", true)
def ty_Vs : Nat → FieldType := fun k => match k with
  | 0 => .int
  | 1 => (.array .long)
  | 2 => (.array .int)
  | 3 => .boolean
  | _ => (.array .int)
theorem nm_Vs : ∀ a, a < 5 → ∀ b, b < 5 → a ≠ b → (T_Vs a).2.1 ≠ (T_Vs b).2.1 := by decide +kernel
theorem tk_Vs : ∀ k, k < 5 → parseFieldDescriptor (T_Vs k).2.2.1 = some (ty_Vs k) := by decide +kernel
def T_Md : u_T := fun k => match k with
  | 0 => ("RelationStoreModel", "kept", "I", true)
  | 1 => ("RelationStoreModel", "code", "I", false)
  | 2 => ("RelationStoreModel", "relations", "I", false)
  | 3 => ("RelationStoreModel", "accepted", "Z", false)
  | 4 => ("RelationStoreModel", "space", "[I", true)
  | 5 => ("RelationStoreModel", "users", "[Z", true)
  | 6 => ("RelationStoreModel", "objects", "[I", true)
  | 7 => ("RelationStoreModel", "usersets", "[I", true)
  | 8 => ("RelationStoreModel", "text", "[I", true)
  | 9 => ("RelationStoreModel", "length", "[I", true)
  | 10 => ("RelationStoreModel", "needs", "[Z", true)
  | 11 => ("RelationStoreModel", "barred", "[Z", true)
  | 12 => ("RelationStoreModel", "far", "[Z", true)
  | 13 => ("RelationStoreModel", "level", "[I", true)
  | 14 => ("RelationStoreModel", "changes", "I", false)
  | 15 => ("RelationStoreModel", "log", "[I", true)
  | 16 => ("RelationStoreModel", "made", "[I", true)
  | 17 => ("RelationStoreModel", "records", "I", false)
  | 18 => ("RelationStoreModel", "latest", "I", false)
  | 19 => ("RelationStoreModel", "batch", "I", false)
  | 20 => ("RelationStoreModel", "waiting", "[I", true)
  | 21 => ("RelationStoreModel", "size", "I", false)
  | 22 => ("RelationStoreModel", "tuple", "[I", true)
  | 23 => ("RelationStoreModel", "members", "[I", true)
  | 24 => ("RelationStoreModel", "value", "[I", true)
  | 25 => ("RelationStoreModel", "sign", "[I", true)
  | 26 => ("RelationStoreModel", "under", "[Z", true)
  | _ => ("RelationStoreModel", "met", "[Z", true)
def ty_Md : Nat → FieldType := fun k => match k with
  | 0 => .int
  | 1 => .int
  | 2 => .int
  | 3 => .boolean
  | 4 => (.array .int)
  | 5 => (.array .boolean)
  | 6 => (.array .int)
  | 7 => (.array .int)
  | 8 => (.array .int)
  | 9 => (.array .int)
  | 10 => (.array .boolean)
  | 11 => (.array .boolean)
  | 12 => (.array .boolean)
  | 13 => (.array .int)
  | 14 => .int
  | 15 => (.array .int)
  | 16 => (.array .int)
  | 17 => .int
  | 18 => .int
  | 19 => .int
  | 20 => (.array .int)
  | 21 => .int
  | 22 => (.array .int)
  | 23 => (.array .int)
  | 24 => (.array .int)
  | 25 => (.array .int)
  | 26 => (.array .boolean)
  | _ => (.array .boolean)
theorem nm_Md : ∀ a, a < 28 → ∀ b, b < 28 → a ≠ b → (T_Md a).2.1 ≠ (T_Md b).2.1 := by decide +kernel
theorem tk_Md : ∀ k, k < 28 → parseFieldDescriptor (T_Md k).2.2.1 = some (ty_Md k) := by decide +kernel
abbrev cls : List vw_C := [(R_Rs, T_Rs, 6), (R_Cf, T_Cf, 5), (R_Lg, T_Lg, 3), (R_Rd, T_Rd, 4), (R_Rl, T_Rl, 13), (R_Vs, T_Vs, 5), (R_Md, T_Md, 28)]
abbrev y_Rs_init : MethodName := ⟨R_Rs, "<init>", "(I)V"⟩
abbrev b_Rs_init : ByteArray := prog_1_method_1_code
abbrev y_Ob_init : MethodName := ⟨R_Ob, "<init>", "()V"⟩
abbrev b_Ob_init : ByteArray := object_method_1_code
abbrev y_Cf_init : MethodName := ⟨R_Cf, "<init>", "()V"⟩
abbrev b_Cf_init : ByteArray := prog_2_method_1_code
abbrev y_Rd_init : MethodName := ⟨R_Rd, "<init>", "()V"⟩
abbrev b_Rd_init : ByteArray := prog_4_method_1_code
abbrev y_Rl_init : MethodName := ⟨R_Rl, "<init>", "()V"⟩
abbrev b_Rl_init : ByteArray := prog_5_method_1_code
abbrev y_Lg_init : MethodName := ⟨R_Lg, "<init>", "()V"⟩
abbrev b_Lg_init : ByteArray := prog_3_method_1_code
abbrev y_Vs_init : MethodName := ⟨R_Vs, "<init>", "()V"⟩
abbrev b_Vs_init : ByteArray := prog_6_method_1_code
abbrev y_Rs_relation : MethodName := ⟨R_Rs, "relation", "(IZII)I"⟩
abbrev b_Rs_relation : ByteArray := prog_1_method_2_code
abbrev y_Cf_add : MethodName := ⟨R_Cf, "add", "(IZII)I"⟩
abbrev b_Cf_add : ByteArray := prog_2_method_2_code
abbrev y_Rs_type : MethodName := ⟨R_Rs, "type", "(C)Z"⟩
abbrev b_Rs_type : ByteArray := prog_1_method_3_code
abbrev y_Cf_append : MethodName := ⟨R_Cf, "append", "(C)Z"⟩
abbrev b_Cf_append : ByteArray := prog_2_method_3_code
abbrev y_Rs_sound : MethodName := ⟨R_Rs, "sound", "(I)Z"⟩
abbrev b_Rs_sound : ByteArray := prog_1_method_4_code
abbrev y_Cf_isRule : MethodName := ⟨R_Cf, "isRule", "(I)Z"⟩
abbrev b_Cf_isRule : ByteArray := prog_2_method_9_code
abbrev y_Cf_isRelation : MethodName := ⟨R_Cf, "isRelation", "(I)Z"⟩
abbrev b_Cf_isRelation : ByteArray := prog_2_method_4_code
abbrev y_Rd_reads : MethodName := ⟨R_Rd, "reads", "([LRelationStore$Relation;ILRelationStore$Relation;)Z"⟩
abbrev b_Rd_reads : ByteArray := prog_4_method_2_code
abbrev y_Rl_forgetRule : MethodName := ⟨R_Rl, "forgetRule", "()V"⟩
abbrev b_Rl_forgetRule : ByteArray := prog_5_method_2_code
abbrev y_Rd_readTuples : MethodName := ⟨R_Rd, "readTuples", "(Z)Z"⟩
abbrev b_Rd_readTuples : ByteArray := prog_4_method_5_code
abbrev y_Rl_need : MethodName := ⟨R_Rl, "need", "(IZ)V"⟩
abbrev b_Rl_need : ByteArray := prog_5_method_4_code
abbrev y_Rl_addStep : MethodName := ⟨R_Rl, "addStep", "(CII)V"⟩
abbrev b_Rl_addStep : ByteArray := prog_5_method_3_code
abbrev y_Rd_readExpression : MethodName := ⟨R_Rd, "readExpression", "(IZ)Z"⟩
abbrev b_Rd_readExpression : ByteArray := prog_4_method_3_code
abbrev y_Rd_readPart : MethodName := ⟨R_Rd, "readPart", "(IZ)Z"⟩
abbrev b_Rd_readPart : ByteArray := prog_4_method_4_code
abbrev y_Rd_next : MethodName := ⟨R_Rd, "next", "()C"⟩
abbrev b_Rd_next : ByteArray := prog_4_method_10_code
abbrev y_Rd_readSame : MethodName := ⟨R_Rd, "readSame", "(Z)Z"⟩
abbrev b_Rd_readSame : ByteArray := prog_4_method_6_code
abbrev y_Rd_readName : MethodName := ⟨R_Rd, "readName", "()I"⟩
abbrev b_Rd_readName : ByteArray := prog_4_method_8_code
abbrev y_Rd_isOfOwnNamespace : MethodName := ⟨R_Rd, "isOfOwnNamespace", "(I)Z"⟩
abbrev b_Rd_isOfOwnNamespace : ByteArray := prog_4_method_9_code
abbrev y_Rd_readFrom : MethodName := ⟨R_Rd, "readFrom", "(Z)Z"⟩
abbrev b_Rd_readFrom : ByteArray := prog_4_method_7_code
abbrev y_Rd_isOperator : MethodName := ⟨R_Rd, "isOperator", "(C)Z"⟩
abbrev b_Rd_isOperator : ByteArray := prog_4_method_11_code
abbrev y_Rs_crash : MethodName := ⟨R_Rs, "crash", "()V"⟩
abbrev b_Rs_crash : ByteArray := prog_1_method_8_code
abbrev y_Rs_forget : MethodName := ⟨R_Rs, "forget", "()V"⟩
abbrev b_Rs_forget : ByteArray := prog_1_method_20_code
abbrev y_Rs_latest : MethodName := ⟨R_Rs, "latest", "()I"⟩
abbrev b_Rs_latest : ByteArray := prog_1_method_9_code
abbrev y_Rs_records : MethodName := ⟨R_Rs, "records", "()I"⟩
abbrev b_Rs_records : ByteArray := prog_1_method_10_code
abbrev y_Lw_cell : MethodName := ⟨R_Lw, "cell", "([II)I"⟩
abbrev b_Lw_cell : ByteArray := method_2_code
abbrev y_Lw_accept : MethodName := ⟨R_Lw, "accept", "(LRelationStore;[J)I"⟩
abbrev b_Lw_accept : ByteArray := method_3_code
abbrev y_Rs_accept : MethodName := ⟨R_Rs, "accept", "()I"⟩
abbrev b_Rs_accept : ByteArray := prog_1_method_5_code
abbrev y_Th_init : MethodName := ⟨R_Th, "<init>", "()V"⟩
abbrev b_Th_init : ByteArray := prog_15_method_1_code
abbrev y_Th_fillInStackTrace : MethodName := ⟨R_Th, "fillInStackTrace", "()Ljava/lang/Throwable;"⟩
abbrev b_Th_fillInStackTrace : ByteArray := prog_15_method_18_code
abbrev y_Uo_init : MethodName := ⟨R_Uo, "<init>", "()V"⟩
abbrev b_Uo_init : ByteArray := prog_16_method_1_code
abbrev y_Rx_init : MethodName := ⟨R_Rx, "<init>", "()V"⟩
abbrev b_Rx_init : ByteArray := prog_14_method_1_code
abbrev y_Ex_init : MethodName := ⟨R_Ex, "<init>", "()V"⟩
abbrev b_Ex_init : ByteArray := prog_9_method_1_code
abbrev y_Cf_allAreRules : MethodName := ⟨R_Cf, "allAreRules", "()Z"⟩
abbrev b_Cf_allAreRules : ByteArray := prog_2_method_10_code
abbrev y_Ia_init : MethodName := ⟨R_Ia, "<init>", "()V"⟩
abbrev b_Ia_init : ByteArray := prog_10_method_1_code
abbrev y_Cf_hasBarredRing : MethodName := ⟨R_Cf, "hasBarredRing", "()Z"⟩
abbrev b_Cf_hasBarredRing : ByteArray := prog_2_method_11_code
abbrev y_Cf_findReached : MethodName := ⟨R_Cf, "findReached", "()V"⟩
abbrev b_Cf_findReached : ByteArray := prog_2_method_12_code
abbrev y_Rs_hasBit : MethodName := ⟨R_Rs, "hasBit", "(II)Z"⟩
abbrev b_Rs_hasBit : ByteArray := prog_1_method_23_code
abbrev y_Is_init : MethodName := ⟨R_Is, "<init>", "()V"⟩
abbrev b_Is_init : ByteArray := prog_11_method_1_code
abbrev y_Cf_findLevels : MethodName := ⟨R_Cf, "findLevels", "()V"⟩
abbrev b_Cf_findLevels : ByteArray := prog_2_method_13_code
abbrev y_Cf_levelAbove : MethodName := ⟨R_Cf, "levelAbove", "(LRelationStore$Relation;)I"⟩
abbrev b_Cf_levelAbove : ByteArray := prog_2_method_14_code
abbrev y_Ma_max : MethodName := ⟨R_Ma, "max", "(II)I"⟩
abbrev b_Ma_max : ByteArray := prog_13_method_65_code
abbrev y_Lw_change : MethodName := ⟨R_Lw, "change", "(LRelationStore;ZIIIII[J)I"⟩
abbrev b_Lw_change : ByteArray := method_4_code
abbrev y_Rs_change : MethodName := ⟨R_Rs, "change", "(ZIIIII)I"⟩
abbrev b_Rs_change : ByteArray := prog_1_method_6_code
abbrev y_Cf_isTuple : MethodName := ⟨R_Cf, "isTuple", "(IIIII)Z"⟩
abbrev b_Cf_isTuple : ByteArray := prog_2_method_7_code
abbrev y_Cf_isNode : MethodName := ⟨R_Cf, "isNode", "(II)Z"⟩
abbrev b_Cf_isNode : ByteArray := prog_2_method_5_code
abbrev y_Rs_isObject : MethodName := ⟨R_Rs, "isObject", "(I)Z"⟩
abbrev b_Rs_isObject : ByteArray := prog_1_method_22_code
abbrev y_Cf_isListed : MethodName := ⟨R_Cf, "isListed", "(LRelationStore$Relation;III)Z"⟩
abbrev b_Cf_isListed : ByteArray := prog_2_method_8_code
abbrev y_Rs_isUser : MethodName := ⟨R_Rs, "isUser", "(I)Z"⟩
abbrev b_Rs_isUser : ByteArray := prog_1_method_21_code
abbrev y_Rs_packed : MethodName := ⟨R_Rs, "packed", "(ZIIIII)I"⟩
abbrev b_Rs_packed : ByteArray := prog_1_method_25_code
abbrev y_Lw_commit : MethodName := ⟨R_Lw, "commit", "(LRelationStore;I[J)I"⟩
abbrev b_Lw_commit : ByteArray := method_5_code
abbrev y_Rs_commit : MethodName := ⟨R_Rs, "commit", "(I)I"⟩
abbrev b_Rs_commit : ByteArray := prog_1_method_7_code
abbrev y_Lg_hasRoomFor : MethodName := ⟨R_Lg, "hasRoomFor", "(I)Z"⟩
abbrev b_Lg_hasRoomFor : ByteArray := prog_3_method_2_code
abbrev y_Lg_write : MethodName := ⟨R_Lg, "write", "(II)V"⟩
abbrev b_Lg_write : ByteArray := prog_3_method_3_code
abbrev y_Lg_mark : MethodName := ⟨R_Lg, "mark", "(I)V"⟩
abbrev b_Lg_mark : ByteArray := prog_3_method_4_code
abbrev y_Lw_tuples : MethodName := ⟨R_Lw, "tuples", "(LRelationStore;I[J)I"⟩
abbrev b_Lw_tuples : ByteArray := method_6_code
abbrev y_Rs_tuples : MethodName := ⟨R_Rs, "tuples", "(I)I"⟩
abbrev b_Rs_tuples : ByteArray := prog_1_method_11_code
abbrev y_Rs_refuseUnless : MethodName := ⟨R_Rs, "refuseUnless", "(ZI)V"⟩
abbrev b_Rs_refuseUnless : ByteArray := prog_1_method_18_code
abbrev y_Rs_versionOf : MethodName := ⟨R_Rs, "versionOf", "(I)LRelationStore$Version;"⟩
abbrev b_Rs_versionOf : ByteArray := prog_1_method_19_code
abbrev y_Vs_replay : MethodName := ⟨R_Vs, "replay", "(LRelationStore$Log;I)V"⟩
abbrev b_Vs_replay : ByteArray := prog_6_method_2_code
abbrev y_Ar_fillJJ : MethodName := ⟨R_Ar, "fill", "([JJ)V"⟩
abbrev b_Ar_fillJJ : ByteArray := prog_17_method_101_code
abbrev y_Lg_lengthAt : MethodName := ⟨R_Lg, "lengthAt", "(I)I"⟩
abbrev b_Lg_lengthAt : ByteArray := prog_3_method_5_code
abbrev y_Vs_apply : MethodName := ⟨R_Vs, "apply", "(I)V"⟩
abbrev b_Vs_apply : ByteArray := prog_6_method_3_code
abbrev y_Rs_field : MethodName := ⟨R_Rs, "field", "(II)I"⟩
abbrev b_Rs_field : ByteArray := prog_1_method_26_code
abbrev y_Rs_nodeOf : MethodName := ⟨R_Rs, "nodeOf", "(II)I"⟩
abbrev b_Rs_nodeOf : ByteArray := prog_1_method_24_code
abbrev y_Vs_subjectBit : MethodName := ⟨R_Vs, "subjectBit", "(III)I"⟩
abbrev b_Vs_subjectBit : ByteArray := prog_6_method_4_code
abbrev y_Vs_size : MethodName := ⟨R_Vs, "size", "()I"⟩
abbrev b_Vs_size : ByteArray := prog_6_method_5_code
abbrev y_Lo_bitCount : MethodName := ⟨R_Lo, "bitCount", "(J)I"⟩
abbrev b_Lo_bitCount : ByteArray := prog_12_method_50_code
abbrev y_Lw_check : MethodName := ⟨R_Lw, "check", "(LRelationStore;IIII[J)I"⟩
abbrev b_Lw_check : ByteArray := method_7_code
abbrev y_Rs_check : MethodName := ⟨R_Rs, "check", "(IIII)Z"⟩
abbrev b_Rs_check : ByteArray := prog_1_method_12_code
abbrev y_Cf_mayAsk : MethodName := ⟨R_Cf, "mayAsk", "(II)Z"⟩
abbrev b_Cf_mayAsk : ByteArray := prog_2_method_6_code
abbrev y_Vs_membersOf : MethodName := ⟨R_Vs, "membersOf", "(ILRelationStore$Configuration;)I"⟩
abbrev b_Vs_membersOf : ByteArray := prog_6_method_7_code
abbrev y_Ar_fillII : MethodName := ⟨R_Ar, "fill", "([II)V"⟩
abbrev b_Ar_fillII : ByteArray := prog_17_method_103_code
abbrev y_Vs_settle : MethodName := ⟨R_Vs, "settle", "(LRelationStore$Configuration;I)V"⟩
abbrev b_Vs_settle : ByteArray := prog_6_method_8_code
abbrev y_Vs_grow : MethodName := ⟨R_Vs, "grow", "([LRelationStore$Relation;I)Z"⟩
abbrev b_Vs_grow : ByteArray := prog_6_method_9_code
abbrev y_Vs_workOut : MethodName := ⟨R_Vs, "workOut", "([LRelationStore$Relation;II)I"⟩
abbrev b_Vs_workOut : ByteArray := prog_6_method_10_code
abbrev y_Vs_tupleMembers : MethodName := ⟨R_Vs, "tupleMembers", "(I)I"⟩
abbrev b_Vs_tupleMembers : ByteArray := prog_6_method_12_code
abbrev y_Vs_objectMembers : MethodName := ⟨R_Vs, "objectMembers", "(III)I"⟩
abbrev b_Vs_objectMembers : ByteArray := prog_6_method_13_code
abbrev y_Vs_joined : MethodName := ⟨R_Vs, "joined", "(CII)I"⟩
abbrev b_Vs_joined : ByteArray := prog_6_method_11_code
abbrev y_Lw_expand : MethodName := ⟨R_Lw, "expand", "(LRelationStore;III[J)I"⟩
abbrev b_Lw_expand : ByteArray := method_8_code
abbrev y_Rs_expand : MethodName := ⟨R_Rs, "expand", "(III)I"⟩
abbrev b_Rs_expand : ByteArray := prog_1_method_13_code
abbrev y_Lw_lookup : MethodName := ⟨R_Lw, "lookup", "(LRelationStore;III[J)I"⟩
abbrev b_Lw_lookup : ByteArray := method_9_code
abbrev y_Rs_lookup : MethodName := ⟨R_Rs, "lookup", "(III)I"⟩
abbrev b_Rs_lookup : ByteArray := prog_1_method_14_code
abbrev y_Lw_nested : MethodName := ⟨R_Lw, "nested", "(LRelationStore;IIIII[J)I"⟩
abbrev b_Lw_nested : ByteArray := method_10_code
abbrev y_Rs_nested : MethodName := ⟨R_Rs, "nested", "(IIIII)Z"⟩
abbrev b_Rs_nested : ByteArray := prog_1_method_15_code
abbrev y_Vs_leads : MethodName := ⟨R_Vs, "leads", "(II)Z"⟩
abbrev b_Vs_leads : ByteArray := prog_6_method_6_code
abbrev y_Lw_watch : MethodName := ⟨R_Lw, "watch", "(LRelationStore;I[J)I"⟩
abbrev b_Lw_watch : ByteArray := method_11_code
abbrev y_Rs_watch : MethodName := ⟨R_Rs, "watch", "(I)I"⟩
abbrev b_Rs_watch : ByteArray := prog_1_method_16_code
abbrev y_Lg_changesSince : MethodName := ⟨R_Lg, "changesSince", "(I)I"⟩
abbrev b_Lg_changesSince : ByteArray := prog_3_method_6_code
abbrev y_Lw_watched : MethodName := ⟨R_Lw, "watched", "(LRelationStore;III[J)I"⟩
abbrev b_Lw_watched : ByteArray := method_12_code
abbrev y_Rs_watched : MethodName := ⟨R_Rs, "watched", "(III)I"⟩
abbrev b_Rs_watched : ByteArray := prog_1_method_17_code
abbrev y_Lg_placeOf : MethodName := ⟨R_Lg, "placeOf", "(II)I"⟩
abbrev b_Lg_placeOf : ByteArray := prog_3_method_7_code
abbrev y_Lg_marksBefore : MethodName := ⟨R_Lg, "marksBefore", "(I)I"⟩
abbrev b_Lg_marksBefore : ByteArray := prog_3_method_8_code
abbrev y_Md_init : MethodName := ⟨R_Md, "<init>", "(I)V"⟩
abbrev b_Md_init : ByteArray := prog_8_method_1_code
abbrev y_Md_thrown : MethodName := ⟨R_Md, "thrown", "()I"⟩
abbrev b_Md_thrown : ByteArray := prog_8_method_2_code
abbrev y_Md_relation : MethodName := ⟨R_Md, "relation", "(IZII)I"⟩
abbrev b_Md_relation : ByteArray := prog_8_method_6_code
abbrev y_Md_type : MethodName := ⟨R_Md, "type", "(C)Z"⟩
abbrev b_Md_type : ByteArray := prog_8_method_7_code
abbrev y_Md_sound : MethodName := ⟨R_Md, "sound", "(I)Z"⟩
abbrev b_Md_sound : ByteArray := prog_8_method_13_code
abbrev y_Md_isRelation : MethodName := ⟨R_Md, "isRelation", "(I)Z"⟩
abbrev b_Md_isRelation : ByteArray := prog_8_method_4_code
abbrev y_Md_isRule : MethodName := ⟨R_Md, "isRule", "(I)Z"⟩
abbrev b_Md_isRule : ByteArray := prog_8_method_12_code
abbrev y_Md_at : MethodName := ⟨R_Md, "at", "(II)I"⟩
abbrev b_Md_at : ByteArray := prog_8_method_8_code
abbrev y_Md_partAt : MethodName := ⟨R_Md, "partAt", "(II)I"⟩
abbrev b_Md_partAt : ByteArray := prog_8_method_10_code
abbrev y_Md_named : MethodName := ⟨R_Md, "named", "(II)I"⟩
abbrev b_Md_named : ByteArray := prog_8_method_9_code
abbrev y_Md_isSign : MethodName := ⟨R_Md, "isSign", "(I)Z"⟩
abbrev b_Md_isSign : ByteArray := prog_8_method_11_code
abbrev y_Md_accept : MethodName := ⟨R_Md, "accept", "()I"⟩
abbrev b_Md_accept : ByteArray := prog_8_method_20_code
abbrev y_Md_findNeeds : MethodName := ⟨R_Md, "findNeeds", "(I)V"⟩
abbrev b_Md_findNeeds : ByteArray := prog_8_method_16_code
abbrev y_Md_needOf : MethodName := ⟨R_Md, "needOf", "(IIZ)V"⟩
abbrev b_Md_needOf : ByteArray := prog_8_method_15_code
abbrev y_Md_need : MethodName := ⟨R_Md, "need", "(IIZ)V"⟩
abbrev b_Md_need : ByteArray := prog_8_method_14_code
abbrev y_Md_close : MethodName := ⟨R_Md, "close", "()V"⟩
abbrev b_Md_close : ByteArray := prog_8_method_17_code
abbrev y_Md_isCircular : MethodName := ⟨R_Md, "isCircular", "()Z"⟩
abbrev b_Md_isCircular : ByteArray := prog_8_method_18_code
abbrev y_Md_findLevels : MethodName := ⟨R_Md, "findLevels", "()V"⟩
abbrev b_Md_findLevels : ByteArray := prog_8_method_19_code
abbrev y_Md_change : MethodName := ⟨R_Md, "change", "(ZIIIII)I"⟩
abbrev b_Md_change : ByteArray := prog_8_method_22_code
abbrev y_Md_isTuple : MethodName := ⟨R_Md, "isTuple", "(IIIII)Z"⟩
abbrev b_Md_isTuple : ByteArray := prog_8_method_21_code
abbrev y_Md_isOf : MethodName := ⟨R_Md, "isOf", "(II)Z"⟩
abbrev b_Md_isOf : ByteArray := prog_8_method_5_code
abbrev y_Md_commit : MethodName := ⟨R_Md, "commit", "(I)I"⟩
abbrev b_Md_commit : ByteArray := prog_8_method_23_code
abbrev y_Md_crash : MethodName := ⟨R_Md, "crash", "()V"⟩
abbrev b_Md_crash : ByteArray := prog_8_method_24_code
abbrev y_Md_latest : MethodName := ⟨R_Md, "latest", "()I"⟩
abbrev b_Md_latest : ByteArray := prog_8_method_25_code
abbrev y_Md_records : MethodName := ⟨R_Md, "records", "()I"⟩
abbrev b_Md_records : ByteArray := prog_8_method_26_code
abbrev y_Md_tuples : MethodName := ⟨R_Md, "tuples", "(I)I"⟩
abbrev b_Md_tuples : ByteArray := prog_8_method_30_code
abbrev y_Md_isFine : MethodName := ⟨R_Md, "isFine", "(IZ)Z"⟩
abbrev b_Md_isFine : ByteArray := prog_8_method_27_code
abbrev y_Md_fail : MethodName := ⟨R_Md, "fail", "(I)Z"⟩
abbrev b_Md_fail : ByteArray := prog_8_method_3_code
abbrev y_Md_play : MethodName := ⟨R_Md, "play", "(I)V"⟩
abbrev b_Md_play : ByteArray := prog_8_method_29_code
abbrev y_Md_same : MethodName := ⟨R_Md, "same", "(II)Z"⟩
abbrev b_Md_same : ByteArray := prog_8_method_28_code
abbrev y_Md_check : MethodName := ⟨R_Md, "check", "(IIII)Z"⟩
abbrev b_Md_check : ByteArray := prog_8_method_38_code
abbrev y_Md_isUser : MethodName := ⟨R_Md, "isUser", "(I)Z"⟩
abbrev b_Md_isUser : ByteArray := prog_8_method_37_code
abbrev y_Md_findMembers : MethodName := ⟨R_Md, "findMembers", "(I)V"⟩
abbrev b_Md_findMembers : ByteArray := prog_8_method_36_code
abbrev y_Md_worked : MethodName := ⟨R_Md, "worked", "(II)I"⟩
abbrev b_Md_worked : ByteArray := prog_8_method_35_code
abbrev y_Md_told : MethodName := ⟨R_Md, "told", "(II)I"⟩
abbrev b_Md_told : ByteArray := prog_8_method_31_code
abbrev y_Md_join : MethodName := ⟨R_Md, "join", "(II)V"⟩
abbrev b_Md_join : ByteArray := prog_8_method_34_code
abbrev y_Md_partOf : MethodName := ⟨R_Md, "partOf", "(III)I"⟩
abbrev b_Md_partOf : ByteArray := prog_8_method_33_code
abbrev y_Md_from : MethodName := ⟨R_Md, "from", "(III)I"⟩
abbrev b_Md_from : ByteArray := prog_8_method_32_code
abbrev y_Md_expand : MethodName := ⟨R_Md, "expand", "(III)I"⟩
abbrev b_Md_expand : ByteArray := prog_8_method_39_code
abbrev y_Md_lookup : MethodName := ⟨R_Md, "lookup", "(III)I"⟩
abbrev b_Md_lookup : ByteArray := prog_8_method_40_code
abbrev y_Md_nested : MethodName := ⟨R_Md, "nested", "(IIIII)Z"⟩
abbrev b_Md_nested : ByteArray := prog_8_method_41_code
abbrev y_Md_watch : MethodName := ⟨R_Md, "watch", "(I)I"⟩
abbrev b_Md_watch : ByteArray := prog_8_method_43_code
abbrev y_Md_since : MethodName := ⟨R_Md, "since", "(I)I"⟩
abbrev b_Md_since : ByteArray := prog_8_method_42_code
abbrev y_Md_watched : MethodName := ⟨R_Md, "watched", "(III)I"⟩
abbrev b_Md_watched : ByteArray := prog_8_method_44_code
abbrev y_Lw_law : MethodName := ⟨R_Lw, "law", "([I)Z"⟩
abbrev b_Lw_law : ByteArray := code
end
section
/-! The words of all methods as one list; the words of nest mates go by the state. -/
-- words
def wg : List Cond := lw_tbl.filter goodWord
abbrev wy (y : MethodName) (b : ByteArray) (n : Nat) (r : Option FieldType) : List Cond := Cond.code y b n r :: wg
theorem wg_ok {w : Cond} (h : w ∈ wg) : (w.onTables && w.keeps) = true ∨ ∃ ty, w = .arrayClass ty := good_of_word (List.mem_filter.mp h).2
theorem wg_in {w : Cond} (h : w ∈ lw_tbl) (hg : goodWord w = true) : w ∈ wg := List.mem_filter.mpr ⟨h, hg⟩
theorem gy {y : MethodName} {b : ByteArray} {n : Nat} {r : Option FieldType} (h0 : Cond.code y b n r ∈ wg) : GoodIn wg (wy y b n r) := by
  intro w hw
  rcases List.mem_cons.mp hw with rfl | hw
  · exact ⟨h0, wg_ok h0⟩
  · exact ⟨hw, wg_ok hw⟩
theorem gy4 {y : MethodName} {b : ByteArray} {n : Nat} {r : Option FieldType} (h0 : Cond.code y b n r ∈ wg) (l : List Cond) (hl : ∀ w ∈ l, w ∈ wg) : GoodIn wg (l ++ wy y b n r) := by
  intro w hw
  rcases List.mem_append.mp hw with hw | hw
  · exact ⟨hl w hw, wg_ok (hl w hw)⟩
  · exact gy h0 w hw
def isNest : Cond → Bool
  | .fieldLinkNest .. => true
  | .methodLinkNest .. => true
  | _ => false
def wn : List Cond := lw_tbl.filter isNest
def NW (U : State) : Prop := ∀ w ∈ wn, va_Nw w U
theorem NW.warm {s U : State} (hW : s.WarmedH U.vm) (h : NW s) : NW U := by
  intro w hw
  have h1 := h w hw
  have h2 := (List.mem_filter.mp hw).2
  cases w <;> first | exact va_Nw.warmF hW h1 | exact va_Nw.warmM hW h1 | (simp [isNest] at h2; done)
theorem NW.same {u U : State} (hv : u.vm = U.vm) (h : NW u) : NW U := by
  intro w hw
  have h1 := h w hw
  have h2 := (List.mem_filter.mp hw).2
  refine va_Nw.same ?_ hv h1
  cases w <;> first | rfl | (simp [isNest] at h2; done)
theorem vp_lt {i : Int32} {n : Nat} (h : vp_in i n) : i.toNatClampNeg < n := Nat.not_le.mp fun q => h (Or.inr q)
def tyl (ca : Nat → ClassId) : List (ClassId × FieldType) := [(ca 0, .int), (ca 1, .long), (ca 2, .char), (ca 3, .object "RelationStore$Relation"), (ca 4, .object "RelationStore$Version"), (ca 5, .boolean)]
theorem gV {own C : String} {i : Nat} {y : MethodName} {b : ByteArray} {n : Nat} {r : Option FieldType} (h0 : Cond.code y b n r ∈ wg) (h1 : Cond.methodLink own i y ∈ wg) (h2 : Cond.instanceMethod y ∈ wg) (h3 : Cond.selects C y y ∈ wg) (h4 : Cond.initialized C ∈ wg) : GoodIn wg (wsV own i C y (wy y b n r)) :=
  gy4 h0 [.methodLink own i y, .instanceMethod y, .selects C y y, .initialized C] (List.forall_mem_cons.mpr ⟨h1, List.forall_mem_cons.mpr ⟨h2, List.forall_mem_cons.mpr ⟨h3, List.forall_mem_cons.mpr ⟨h4, fun _ h => absurd h List.not_mem_nil⟩⟩⟩⟩)
theorem gS {own : String} {i : Nat} {y : MethodName} {b : ByteArray} {n : Nat} {r : Option FieldType} (h0 : Cond.code y b n r ∈ wg) (h1 : Cond.methodLink own i y ∈ wg) (h2 : Cond.static y ∈ wg) (h3 : Cond.initialized y.cls ∈ wg) : GoodIn wg (va_wsS own i y (wy y b n r)) :=
  gy4 h0 [.methodLink own i y, .static y, .initialized y.cls] (List.forall_mem_cons.mpr ⟨h1, List.forall_mem_cons.mpr ⟨h2, List.forall_mem_cons.mpr ⟨h3, fun _ h => absurd h List.not_mem_nil⟩⟩⟩)
end
section
theorem kx_32 : Cond.arrayOver (FieldType.object R_Rl) ∈ lw_tbl := List.mem_append_right _ (List.mem_of_getElem? (i := 32) (by decide +kernel))
theorem k_43 : Cond.lays R_Rd R_Rd "relations" "[LRelationStore$Relation;" ∈ wg := wg_in (List.mem_append_right _ (List.mem_of_getElem? (i := 43) (by decide +kernel))) rfl
theorem k_45 : Cond.lays R_Rd R_Rd "count" "I" ∈ wg := wg_in (List.mem_append_right _ (List.mem_of_getElem? (i := 45) (by decide +kernel))) rfl
theorem k_47 : Cond.lays R_Rd R_Rd "own" "LRelationStore$Relation;" ∈ wg := wg_in (List.mem_append_right _ (List.mem_of_getElem? (i := 47) (by decide +kernel))) rfl
theorem k_49 : Cond.lays R_Rd R_Rd "at" "I" ∈ wg := wg_in (List.mem_append_right _ (List.mem_of_getElem? (i := 49) (by decide +kernel))) rfl
theorem k_83 : Cond.lays R_Rl R_Rl "namespace" "I" ∈ wg := wg_in (List.mem_append_right _ (List.mem_of_getElem? (i := 83) (by decide +kernel))) rfl
theorem k_85 : Cond.lays R_Rl R_Rl "users" "Z" ∈ wg := wg_in (List.mem_append_right _ (List.mem_of_getElem? (i := 85) (by decide +kernel))) rfl
theorem k_87 : Cond.lays R_Rl R_Rl "objects" "I" ∈ wg := wg_in (List.mem_append_right _ (List.mem_of_getElem? (i := 87) (by decide +kernel))) rfl
theorem k_89 : Cond.lays R_Rl R_Rl "usersets" "I" ∈ wg := wg_in (List.mem_append_right _ (List.mem_of_getElem? (i := 89) (by decide +kernel))) rfl
theorem k_91 : Cond.laysFinal R_Rl R_Rl "text" "[C" ∈ wg := wg_in (List.mem_append_right _ (List.mem_of_getElem? (i := 91) (by decide +kernel))) rfl
theorem k_93 : Cond.lays R_Rl R_Rl "length" "I" ∈ wg := wg_in (List.mem_append_right _ (List.mem_of_getElem? (i := 93) (by decide +kernel))) rfl
theorem k_95 : Cond.laysFinal R_Rl R_Rl "kinds" "[C" ∈ wg := wg_in (List.mem_append_right _ (List.mem_of_getElem? (i := 95) (by decide +kernel))) rfl
theorem k_97 : Cond.laysFinal R_Rl R_Rl "firsts" "[I" ∈ wg := wg_in (List.mem_append_right _ (List.mem_of_getElem? (i := 97) (by decide +kernel))) rfl
theorem k_99 : Cond.laysFinal R_Rl R_Rl "seconds" "[I" ∈ wg := wg_in (List.mem_append_right _ (List.mem_of_getElem? (i := 99) (by decide +kernel))) rfl
theorem k_101 : Cond.lays R_Rl R_Rl "steps" "I" ∈ wg := wg_in (List.mem_append_right _ (List.mem_of_getElem? (i := 101) (by decide +kernel))) rfl
theorem k_103 : Cond.lays R_Rl R_Rl "needed" "I" ∈ wg := wg_in (List.mem_append_right _ (List.mem_of_getElem? (i := 103) (by decide +kernel))) rfl
theorem k_105 : Cond.lays R_Rl R_Rl "barred" "I" ∈ wg := wg_in (List.mem_append_right _ (List.mem_of_getElem? (i := 105) (by decide +kernel))) rfl
theorem k_107 : Cond.lays R_Rl R_Rl "level" "I" ∈ wg := wg_in (List.mem_append_right _ (List.mem_of_getElem? (i := 107) (by decide +kernel))) rfl
theorem k_110 : Cond.arrayClass FieldType.int ∈ wg := wg_in (List.mem_append_right _ (List.mem_of_getElem? (i := 110) (by decide +kernel))) rfl
theorem k_111 : Cond.arrayClass FieldType.char ∈ wg := wg_in (List.mem_append_right _ (List.mem_of_getElem? (i := 111) (by decide +kernel))) rfl
theorem k_121 : Cond.laysFinal R_Cf R_Cf "relations" "[LRelationStore$Relation;" ∈ wg := wg_in (List.mem_append_right _ (List.mem_of_getElem? (i := 121) (by decide +kernel))) rfl
theorem k_123 : Cond.lays R_Cf R_Cf "count" "I" ∈ wg := wg_in (List.mem_append_right _ (List.mem_of_getElem? (i := 123) (by decide +kernel))) rfl
theorem k_125 : Cond.lays R_Cf R_Cf "accepted" "Z" ∈ wg := wg_in (List.mem_append_right _ (List.mem_of_getElem? (i := 125) (by decide +kernel))) rfl
theorem k_127 : Cond.laysFinal R_Cf R_Cf "reader" "LRelationStore$Reader;" ∈ wg := wg_in (List.mem_append_right _ (List.mem_of_getElem? (i := 127) (by decide +kernel))) rfl
theorem k_129 : Cond.laysFinal R_Cf R_Cf "reached" "[I" ∈ wg := wg_in (List.mem_append_right _ (List.mem_of_getElem? (i := 129) (by decide +kernel))) rfl
theorem k_145 : Cond.laysFinal R_Lg R_Lg "records" "[I" ∈ wg := wg_in (List.mem_append_right _ (List.mem_of_getElem? (i := 145) (by decide +kernel))) rfl
theorem k_147 : Cond.lays R_Lg R_Lg "length" "I" ∈ wg := wg_in (List.mem_append_right _ (List.mem_of_getElem? (i := 147) (by decide +kernel))) rfl
theorem k_149 : Cond.lays R_Lg R_Lg "marks" "I" ∈ wg := wg_in (List.mem_append_right _ (List.mem_of_getElem? (i := 149) (by decide +kernel))) rfl
theorem kx_153 : Cond.arrayOver (FieldType.object R_Vs) ∈ lw_tbl := List.mem_append_right _ (List.mem_of_getElem? (i := 153) (by decide +kernel))
theorem k_165 : Cond.lays R_Vs R_Vs "token" "I" ∈ wg := wg_in (List.mem_append_right _ (List.mem_of_getElem? (i := 165) (by decide +kernel))) rfl
theorem k_167 : Cond.laysFinal R_Vs R_Vs "subjects" "[J" ∈ wg := wg_in (List.mem_append_right _ (List.mem_of_getElem? (i := 167) (by decide +kernel))) rfl
theorem k_169 : Cond.laysFinal R_Vs R_Vs "members" "[I" ∈ wg := wg_in (List.mem_append_right _ (List.mem_of_getElem? (i := 169) (by decide +kernel))) rfl
theorem k_171 : Cond.lays R_Vs R_Vs "workedOut" "Z" ∈ wg := wg_in (List.mem_append_right _ (List.mem_of_getElem? (i := 171) (by decide +kernel))) rfl
theorem k_173 : Cond.laysFinal R_Vs R_Vs "stack" "[I" ∈ wg := wg_in (List.mem_append_right _ (List.mem_of_getElem? (i := 173) (by decide +kernel))) rfl
theorem k_176 : Cond.arrayClass FieldType.long ∈ wg := wg_in (List.mem_append_right _ (List.mem_of_getElem? (i := 176) (by decide +kernel))) rfl
theorem k_183 : Cond.laysFinal R_Rs R_Rs "kept" "I" ∈ wg := wg_in (List.mem_append_right _ (List.mem_of_getElem? (i := 183) (by decide +kernel))) rfl
theorem k_185 : Cond.laysFinal R_Rs R_Rs "configuration" "LRelationStore$Configuration;" ∈ wg := wg_in (List.mem_append_right _ (List.mem_of_getElem? (i := 185) (by decide +kernel))) rfl
theorem k_187 : Cond.laysFinal R_Rs R_Rs "batch" "[I" ∈ wg := wg_in (List.mem_append_right _ (List.mem_of_getElem? (i := 187) (by decide +kernel))) rfl
theorem k_189 : Cond.lays R_Rs R_Rs "batched" "I" ∈ wg := wg_in (List.mem_append_right _ (List.mem_of_getElem? (i := 189) (by decide +kernel))) rfl
theorem k_191 : Cond.laysFinal R_Rs R_Rs "log" "LRelationStore$Log;" ∈ wg := wg_in (List.mem_append_right _ (List.mem_of_getElem? (i := 191) (by decide +kernel))) rfl
theorem k_193 : Cond.laysFinal R_Rs R_Rs "versions" "[LRelationStore$Version;" ∈ wg := wg_in (List.mem_append_right _ (List.mem_of_getElem? (i := 193) (by decide +kernel))) rfl
theorem k_315 : Cond.lays R_Uo R_Th "cause" "Ljava/lang/Throwable;" ∈ wg := wg_in (List.mem_append_right _ (List.mem_of_getElem? (i := 315) (by decide +kernel))) rfl
theorem k_316 : Cond.lays R_Th R_Th "cause" "Ljava/lang/Throwable;" ∈ wg := wg_in (List.mem_append_right _ (List.mem_of_getElem? (i := 316) (by decide +kernel))) rfl
theorem k_317 : Cond.lays R_Uo R_Th "stackTrace" "[Ljava/lang/StackTraceElement;" ∈ wg := wg_in (List.mem_append_right _ (List.mem_of_getElem? (i := 317) (by decide +kernel))) rfl
theorem k_318 : Cond.lays R_Th R_Th "stackTrace" "[Ljava/lang/StackTraceElement;" ∈ wg := wg_in (List.mem_append_right _ (List.mem_of_getElem? (i := 318) (by decide +kernel))) rfl
theorem k_319 : Cond.lays R_Uo R_Th "suppressedExceptions" "Ljava/util/List;" ∈ wg := wg_in (List.mem_append_right _ (List.mem_of_getElem? (i := 319) (by decide +kernel))) rfl
theorem k_320 : Cond.lays R_Th R_Th "suppressedExceptions" "Ljava/util/List;" ∈ wg := wg_in (List.mem_append_right _ (List.mem_of_getElem? (i := 320) (by decide +kernel))) rfl
theorem k_321 : Cond.lays R_Uo R_Th "detailMessage" "Ljava/lang/String;" ∈ wg := wg_in (List.mem_append_right _ (List.mem_of_getElem? (i := 321) (by decide +kernel))) rfl
theorem k_322 : Cond.lays R_Th R_Th "detailMessage" "Ljava/lang/String;" ∈ wg := wg_in (List.mem_append_right _ (List.mem_of_getElem? (i := 322) (by decide +kernel))) rfl
theorem k_323 : Cond.lays R_Uo R_Th "backtrace" "Ljava/lang/Object;" ∈ wg := wg_in (List.mem_append_right _ (List.mem_of_getElem? (i := 323) (by decide +kernel))) rfl
theorem k_324 : Cond.lays R_Th R_Th "backtrace" "Ljava/lang/Object;" ∈ wg := wg_in (List.mem_append_right _ (List.mem_of_getElem? (i := 324) (by decide +kernel))) rfl
theorem k_363 : Cond.lays R_Uo R_Th "depth" "I" ∈ wg := wg_in (List.mem_append_right _ (List.mem_of_getElem? (i := 363) (by decide +kernel))) rfl
theorem k_375 : Cond.lays R_Ia R_Th "cause" "Ljava/lang/Throwable;" ∈ wg := wg_in (List.mem_append_right _ (List.mem_of_getElem? (i := 375) (by decide +kernel))) rfl
theorem k_376 : Cond.lays R_Ia R_Th "stackTrace" "[Ljava/lang/StackTraceElement;" ∈ wg := wg_in (List.mem_append_right _ (List.mem_of_getElem? (i := 376) (by decide +kernel))) rfl
theorem k_377 : Cond.lays R_Ia R_Th "suppressedExceptions" "Ljava/util/List;" ∈ wg := wg_in (List.mem_append_right _ (List.mem_of_getElem? (i := 377) (by decide +kernel))) rfl
theorem k_378 : Cond.lays R_Ia R_Th "detailMessage" "Ljava/lang/String;" ∈ wg := wg_in (List.mem_append_right _ (List.mem_of_getElem? (i := 378) (by decide +kernel))) rfl
theorem k_379 : Cond.lays R_Ia R_Th "backtrace" "Ljava/lang/Object;" ∈ wg := wg_in (List.mem_append_right _ (List.mem_of_getElem? (i := 379) (by decide +kernel))) rfl
theorem k_384 : Cond.lays R_Ia R_Th "depth" "I" ∈ wg := wg_in (List.mem_append_right _ (List.mem_of_getElem? (i := 384) (by decide +kernel))) rfl
theorem k_401 : Cond.lays R_Is R_Th "cause" "Ljava/lang/Throwable;" ∈ wg := wg_in (List.mem_append_right _ (List.mem_of_getElem? (i := 401) (by decide +kernel))) rfl
theorem k_402 : Cond.lays R_Is R_Th "stackTrace" "[Ljava/lang/StackTraceElement;" ∈ wg := wg_in (List.mem_append_right _ (List.mem_of_getElem? (i := 402) (by decide +kernel))) rfl
theorem k_403 : Cond.lays R_Is R_Th "suppressedExceptions" "Ljava/util/List;" ∈ wg := wg_in (List.mem_append_right _ (List.mem_of_getElem? (i := 403) (by decide +kernel))) rfl
theorem k_404 : Cond.lays R_Is R_Th "detailMessage" "Ljava/lang/String;" ∈ wg := wg_in (List.mem_append_right _ (List.mem_of_getElem? (i := 404) (by decide +kernel))) rfl
theorem k_405 : Cond.lays R_Is R_Th "backtrace" "Ljava/lang/Object;" ∈ wg := wg_in (List.mem_append_right _ (List.mem_of_getElem? (i := 405) (by decide +kernel))) rfl
theorem k_410 : Cond.lays R_Is R_Th "depth" "I" ∈ wg := wg_in (List.mem_append_right _ (List.mem_of_getElem? (i := 410) (by decide +kernel))) rfl
theorem k_653 : Cond.laysFinal R_Md R_Md "kept" "I" ∈ wg := wg_in (List.mem_append_right _ (List.mem_of_getElem? (i := 653) (by decide +kernel))) rfl
theorem k_655 : Cond.lays R_Md R_Md "code" "I" ∈ wg := wg_in (List.mem_append_right _ (List.mem_of_getElem? (i := 655) (by decide +kernel))) rfl
theorem k_657 : Cond.lays R_Md R_Md "relations" "I" ∈ wg := wg_in (List.mem_append_right _ (List.mem_of_getElem? (i := 657) (by decide +kernel))) rfl
theorem k_659 : Cond.lays R_Md R_Md "accepted" "Z" ∈ wg := wg_in (List.mem_append_right _ (List.mem_of_getElem? (i := 659) (by decide +kernel))) rfl
theorem k_661 : Cond.laysFinal R_Md R_Md "space" "[I" ∈ wg := wg_in (List.mem_append_right _ (List.mem_of_getElem? (i := 661) (by decide +kernel))) rfl
theorem k_663 : Cond.laysFinal R_Md R_Md "users" "[Z" ∈ wg := wg_in (List.mem_append_right _ (List.mem_of_getElem? (i := 663) (by decide +kernel))) rfl
theorem k_665 : Cond.laysFinal R_Md R_Md "objects" "[I" ∈ wg := wg_in (List.mem_append_right _ (List.mem_of_getElem? (i := 665) (by decide +kernel))) rfl
theorem k_667 : Cond.laysFinal R_Md R_Md "usersets" "[I" ∈ wg := wg_in (List.mem_append_right _ (List.mem_of_getElem? (i := 667) (by decide +kernel))) rfl
theorem k_669 : Cond.laysFinal R_Md R_Md "text" "[I" ∈ wg := wg_in (List.mem_append_right _ (List.mem_of_getElem? (i := 669) (by decide +kernel))) rfl
theorem k_671 : Cond.laysFinal R_Md R_Md "length" "[I" ∈ wg := wg_in (List.mem_append_right _ (List.mem_of_getElem? (i := 671) (by decide +kernel))) rfl
theorem k_673 : Cond.laysFinal R_Md R_Md "needs" "[Z" ∈ wg := wg_in (List.mem_append_right _ (List.mem_of_getElem? (i := 673) (by decide +kernel))) rfl
theorem k_675 : Cond.laysFinal R_Md R_Md "barred" "[Z" ∈ wg := wg_in (List.mem_append_right _ (List.mem_of_getElem? (i := 675) (by decide +kernel))) rfl
theorem k_677 : Cond.laysFinal R_Md R_Md "far" "[Z" ∈ wg := wg_in (List.mem_append_right _ (List.mem_of_getElem? (i := 677) (by decide +kernel))) rfl
theorem k_679 : Cond.laysFinal R_Md R_Md "level" "[I" ∈ wg := wg_in (List.mem_append_right _ (List.mem_of_getElem? (i := 679) (by decide +kernel))) rfl
theorem k_681 : Cond.lays R_Md R_Md "changes" "I" ∈ wg := wg_in (List.mem_append_right _ (List.mem_of_getElem? (i := 681) (by decide +kernel))) rfl
theorem k_683 : Cond.laysFinal R_Md R_Md "log" "[I" ∈ wg := wg_in (List.mem_append_right _ (List.mem_of_getElem? (i := 683) (by decide +kernel))) rfl
theorem k_685 : Cond.laysFinal R_Md R_Md "made" "[I" ∈ wg := wg_in (List.mem_append_right _ (List.mem_of_getElem? (i := 685) (by decide +kernel))) rfl
theorem k_687 : Cond.lays R_Md R_Md "records" "I" ∈ wg := wg_in (List.mem_append_right _ (List.mem_of_getElem? (i := 687) (by decide +kernel))) rfl
theorem k_689 : Cond.lays R_Md R_Md "latest" "I" ∈ wg := wg_in (List.mem_append_right _ (List.mem_of_getElem? (i := 689) (by decide +kernel))) rfl
theorem k_691 : Cond.lays R_Md R_Md "batch" "I" ∈ wg := wg_in (List.mem_append_right _ (List.mem_of_getElem? (i := 691) (by decide +kernel))) rfl
theorem k_693 : Cond.laysFinal R_Md R_Md "waiting" "[I" ∈ wg := wg_in (List.mem_append_right _ (List.mem_of_getElem? (i := 693) (by decide +kernel))) rfl
theorem k_695 : Cond.lays R_Md R_Md "size" "I" ∈ wg := wg_in (List.mem_append_right _ (List.mem_of_getElem? (i := 695) (by decide +kernel))) rfl
theorem k_697 : Cond.laysFinal R_Md R_Md "tuple" "[I" ∈ wg := wg_in (List.mem_append_right _ (List.mem_of_getElem? (i := 697) (by decide +kernel))) rfl
theorem k_699 : Cond.laysFinal R_Md R_Md "members" "[I" ∈ wg := wg_in (List.mem_append_right _ (List.mem_of_getElem? (i := 699) (by decide +kernel))) rfl
theorem k_701 : Cond.laysFinal R_Md R_Md "value" "[I" ∈ wg := wg_in (List.mem_append_right _ (List.mem_of_getElem? (i := 701) (by decide +kernel))) rfl
theorem k_703 : Cond.laysFinal R_Md R_Md "sign" "[I" ∈ wg := wg_in (List.mem_append_right _ (List.mem_of_getElem? (i := 703) (by decide +kernel))) rfl
theorem k_705 : Cond.laysFinal R_Md R_Md "under" "[Z" ∈ wg := wg_in (List.mem_append_right _ (List.mem_of_getElem? (i := 705) (by decide +kernel))) rfl
theorem k_707 : Cond.laysFinal R_Md R_Md "met" "[Z" ∈ wg := wg_in (List.mem_append_right _ (List.mem_of_getElem? (i := 707) (by decide +kernel))) rfl
theorem k_710 : Cond.arrayClass FieldType.boolean ∈ wg := wg_in (List.mem_append_right _ (List.mem_of_getElem? (i := 710) (by decide +kernel))) rfl
theorem in_Rs : ∀ w ∈ u_ws R_Rs T_Rs 6, w ∈ wg := show ∀ w ∈ ([Cond.laysFinal R_Rs R_Rs "kept" "I", Cond.laysFinal R_Rs R_Rs "configuration" "LRelationStore$Configuration;", Cond.laysFinal R_Rs R_Rs "batch" "[I", Cond.lays R_Rs R_Rs "batched" "I", Cond.laysFinal R_Rs R_Rs "log" "LRelationStore$Log;", Cond.laysFinal R_Rs R_Rs "versions" "[LRelationStore$Version;"] : List Cond), w ∈ wg from List.forall_mem_cons.mpr ⟨k_183, List.forall_mem_cons.mpr ⟨k_185, List.forall_mem_cons.mpr ⟨k_187, List.forall_mem_cons.mpr ⟨k_189, List.forall_mem_cons.mpr ⟨k_191, List.forall_mem_cons.mpr ⟨k_193, fun _ h => absurd h List.not_mem_nil⟩⟩⟩⟩⟩⟩
theorem in_Cf : ∀ w ∈ u_ws R_Cf T_Cf 5, w ∈ wg := show ∀ w ∈ ([Cond.laysFinal R_Cf R_Cf "relations" "[LRelationStore$Relation;", Cond.lays R_Cf R_Cf "count" "I", Cond.lays R_Cf R_Cf "accepted" "Z", Cond.laysFinal R_Cf R_Cf "reader" "LRelationStore$Reader;", Cond.laysFinal R_Cf R_Cf "reached" "[I"] : List Cond), w ∈ wg from List.forall_mem_cons.mpr ⟨k_121, List.forall_mem_cons.mpr ⟨k_123, List.forall_mem_cons.mpr ⟨k_125, List.forall_mem_cons.mpr ⟨k_127, List.forall_mem_cons.mpr ⟨k_129, fun _ h => absurd h List.not_mem_nil⟩⟩⟩⟩⟩
theorem in_Lg : ∀ w ∈ u_ws R_Lg T_Lg 3, w ∈ wg := show ∀ w ∈ ([Cond.laysFinal R_Lg R_Lg "records" "[I", Cond.lays R_Lg R_Lg "length" "I", Cond.lays R_Lg R_Lg "marks" "I"] : List Cond), w ∈ wg from List.forall_mem_cons.mpr ⟨k_145, List.forall_mem_cons.mpr ⟨k_147, List.forall_mem_cons.mpr ⟨k_149, fun _ h => absurd h List.not_mem_nil⟩⟩⟩
theorem in_Rd : ∀ w ∈ u_ws R_Rd T_Rd 4, w ∈ wg := show ∀ w ∈ ([Cond.lays R_Rd R_Rd "relations" "[LRelationStore$Relation;", Cond.lays R_Rd R_Rd "count" "I", Cond.lays R_Rd R_Rd "own" "LRelationStore$Relation;", Cond.lays R_Rd R_Rd "at" "I"] : List Cond), w ∈ wg from List.forall_mem_cons.mpr ⟨k_43, List.forall_mem_cons.mpr ⟨k_45, List.forall_mem_cons.mpr ⟨k_47, List.forall_mem_cons.mpr ⟨k_49, fun _ h => absurd h List.not_mem_nil⟩⟩⟩⟩
theorem in_Rl : ∀ w ∈ u_ws R_Rl T_Rl 13, w ∈ wg := show ∀ w ∈ ([Cond.lays R_Rl R_Rl "namespace" "I", Cond.lays R_Rl R_Rl "users" "Z", Cond.lays R_Rl R_Rl "objects" "I", Cond.lays R_Rl R_Rl "usersets" "I", Cond.laysFinal R_Rl R_Rl "text" "[C", Cond.lays R_Rl R_Rl "length" "I", Cond.laysFinal R_Rl R_Rl "kinds" "[C", Cond.laysFinal R_Rl R_Rl "firsts" "[I", Cond.laysFinal R_Rl R_Rl "seconds" "[I", Cond.lays R_Rl R_Rl "steps" "I", Cond.lays R_Rl R_Rl "needed" "I", Cond.lays R_Rl R_Rl "barred" "I", Cond.lays R_Rl R_Rl "level" "I"] : List Cond), w ∈ wg from List.forall_mem_cons.mpr ⟨k_83, List.forall_mem_cons.mpr ⟨k_85, List.forall_mem_cons.mpr ⟨k_87, List.forall_mem_cons.mpr ⟨k_89, List.forall_mem_cons.mpr ⟨k_91, List.forall_mem_cons.mpr ⟨k_93, List.forall_mem_cons.mpr ⟨k_95, List.forall_mem_cons.mpr ⟨k_97, List.forall_mem_cons.mpr ⟨k_99, List.forall_mem_cons.mpr ⟨k_101, List.forall_mem_cons.mpr ⟨k_103, List.forall_mem_cons.mpr ⟨k_105, List.forall_mem_cons.mpr ⟨k_107, fun _ h => absurd h List.not_mem_nil⟩⟩⟩⟩⟩⟩⟩⟩⟩⟩⟩⟩⟩
theorem in_Vs : ∀ w ∈ u_ws R_Vs T_Vs 5, w ∈ wg := show ∀ w ∈ ([Cond.lays R_Vs R_Vs "token" "I", Cond.laysFinal R_Vs R_Vs "subjects" "[J", Cond.laysFinal R_Vs R_Vs "members" "[I", Cond.lays R_Vs R_Vs "workedOut" "Z", Cond.laysFinal R_Vs R_Vs "stack" "[I"] : List Cond), w ∈ wg from List.forall_mem_cons.mpr ⟨k_165, List.forall_mem_cons.mpr ⟨k_167, List.forall_mem_cons.mpr ⟨k_169, List.forall_mem_cons.mpr ⟨k_171, List.forall_mem_cons.mpr ⟨k_173, fun _ h => absurd h List.not_mem_nil⟩⟩⟩⟩⟩
theorem in_Md : ∀ w ∈ u_ws R_Md T_Md 28, w ∈ wg := show ∀ w ∈ ([Cond.laysFinal R_Md R_Md "kept" "I", Cond.lays R_Md R_Md "code" "I", Cond.lays R_Md R_Md "relations" "I", Cond.lays R_Md R_Md "accepted" "Z", Cond.laysFinal R_Md R_Md "space" "[I", Cond.laysFinal R_Md R_Md "users" "[Z", Cond.laysFinal R_Md R_Md "objects" "[I", Cond.laysFinal R_Md R_Md "usersets" "[I", Cond.laysFinal R_Md R_Md "text" "[I", Cond.laysFinal R_Md R_Md "length" "[I", Cond.laysFinal R_Md R_Md "needs" "[Z", Cond.laysFinal R_Md R_Md "barred" "[Z", Cond.laysFinal R_Md R_Md "far" "[Z", Cond.laysFinal R_Md R_Md "level" "[I", Cond.lays R_Md R_Md "changes" "I", Cond.laysFinal R_Md R_Md "log" "[I", Cond.laysFinal R_Md R_Md "made" "[I", Cond.lays R_Md R_Md "records" "I", Cond.lays R_Md R_Md "latest" "I", Cond.lays R_Md R_Md "batch" "I", Cond.laysFinal R_Md R_Md "waiting" "[I", Cond.lays R_Md R_Md "size" "I", Cond.laysFinal R_Md R_Md "tuple" "[I", Cond.laysFinal R_Md R_Md "members" "[I", Cond.laysFinal R_Md R_Md "value" "[I", Cond.laysFinal R_Md R_Md "sign" "[I", Cond.laysFinal R_Md R_Md "under" "[Z", Cond.laysFinal R_Md R_Md "met" "[Z"] : List Cond), w ∈ wg from List.forall_mem_cons.mpr ⟨k_653, List.forall_mem_cons.mpr ⟨k_655, List.forall_mem_cons.mpr ⟨k_657, List.forall_mem_cons.mpr ⟨k_659, List.forall_mem_cons.mpr ⟨k_661, List.forall_mem_cons.mpr ⟨k_663, List.forall_mem_cons.mpr ⟨k_665, List.forall_mem_cons.mpr ⟨k_667, List.forall_mem_cons.mpr ⟨k_669, List.forall_mem_cons.mpr ⟨k_671, List.forall_mem_cons.mpr ⟨k_673, List.forall_mem_cons.mpr ⟨k_675, List.forall_mem_cons.mpr ⟨k_677, List.forall_mem_cons.mpr ⟨k_679, List.forall_mem_cons.mpr ⟨k_681, List.forall_mem_cons.mpr ⟨k_683, List.forall_mem_cons.mpr ⟨k_685, List.forall_mem_cons.mpr ⟨k_687, List.forall_mem_cons.mpr ⟨k_689, List.forall_mem_cons.mpr ⟨k_691, List.forall_mem_cons.mpr ⟨k_693, List.forall_mem_cons.mpr ⟨k_695, List.forall_mem_cons.mpr ⟨k_697, List.forall_mem_cons.mpr ⟨k_699, List.forall_mem_cons.mpr ⟨k_701, List.forall_mem_cons.mpr ⟨k_703, List.forall_mem_cons.mpr ⟨k_705, List.forall_mem_cons.mpr ⟨k_707, fun _ h => absurd h List.not_mem_nil⟩⟩⟩⟩⟩⟩⟩⟩⟩⟩⟩⟩⟩⟩⟩⟩⟩⟩⟩⟩⟩⟩⟩⟩⟩⟩⟩⟩
end
section
def xt_U : String := "java/lang/UnsupportedOperationException"
def xt_A : String := "java/lang/IllegalArgumentException"
def xt_S : String := "java/lang/IllegalStateException"
def xt_n (kk : Nat) : String := match kk with
  | 1 => xt_U
  | 2 => xt_A
  | _ => xt_S
def xt_ws : List Cond := [.declares (Bundle.init0 "java/lang/RuntimeException"), .declares (Bundle.init0 "java/lang/Exception"), .declares (Bundle.init0 Bundle.tN),
  .castable xt_U xt_U, .castable xt_A xt_A, .castable xt_S xt_S,
  .not (.castable xt_A xt_U), .not (.castable xt_S xt_U), .not (.castable xt_U xt_A), .not (.castable xt_S xt_A), .not (.castable xt_U xt_S), .not (.castable xt_A xt_S)]
def xt_hs : List Cond := [.laysStatic Bundle.tN "UNASSIGNED_STACK" Bundle.steD, .laysStatic Bundle.tN "SUPPRESSED_SENTINEL" Bundle.listD, .isRef (.static Bundle.tN "UNASSIGNED_STACK" Bundle.steD), .isRef (.static Bundle.tN "SUPPRESSED_SENTINEL" Bundle.listD)]
def xt_cut (bs : Nat) (U : State) : State := { U with heap := (U.heap.toList.take bs).toArray }
def xt_T (bs : Nat) (U : State) : Prop := ∀ w ∈ xt_ws ++ xt_hs, w.before #[] (xt_cut bs U) = true
theorem xt_tab {A B : Array Value} {u U : State} (hv : u.vm = U.vm) : ∀ w ∈ xt_ws, w.before A u = true → w.before B U = true := by
  intro w hw h
  have go : ∀ a b, (Cond.not (.castable a b)).before A u = true → (Cond.not (.castable a b)).before B U = true := fun a b h => by
    simp only [Cond.before, Cond.holds, Cond.value] at h ⊢
    rw [← hv]
    exact h
  simp only [xt_ws, List.mem_cons, List.not_mem_nil, or_false] at hw
  rcases hw with rfl | rfl | rfl | rfl | rfl | rfl | rfl | rfl | rfl | rfl | rfl | rfl
  · exact va_tabs rfl hv h
  · exact va_tabs rfl hv h
  · exact va_tabs rfl hv h
  · exact va_tabs rfl hv h
  · exact va_tabs rfl hv h
  · exact va_tabs rfl hv h
  all_goals exact go _ _ h
theorem xt_ff {u U : State} (hv : u.vm = U.vm) (a b d : String) : u.fieldFound? a b d = U.fieldFound? a b d := by
  unfold State.fieldFound?
  rw [hv]
theorem xt_ls {A B : Array Value} {u U : State} (hv : u.vm = U.vm) (hh : ∀ (q : Nat) (c : Cell), u.heap[q]? = some c → U.heap[q]? = some c) {o n d : String} (h : (Cond.laysStatic o n d).before A u = true) : (Cond.laysStatic o n d).before B U = true := by
  simp only [Cond.before, Cond.holds, Cond.value] at h ⊢
  rw [← hv, ← xt_ff hv]
  cases h1 : u.vm.findClass o with
  | none => simp [h1] at h
  | some c =>
    cases h2 : u.fieldFound? o n d with
    | none => simp [h1, h2] at h
    | some x =>
      obtain ⟨c', k, i, f⟩ := x
      simp only [h1, h2] at h ⊢
      cases h3 : k.statics with
      | none => simp [h3] at h
      | some a =>
        simp only [h3, Option.bind_some] at h ⊢
        cases h4 : u.heap[a]? with
        | none => simp [h4] at h
        | some cell =>
          rw [h4] at h
          rw [hh a cell h4]
          exact h
theorem xt_rs {A B : Array Value} {u U : State} (hv : u.vm = U.vm) (hh : ∀ (q : Nat) (c : Cell), u.heap[q]? = some c → U.heap[q]? = some c) {o n d : String} (h : (Cond.isRef (.static o n d)).before A u = true) : (Cond.isRef (.static o n d)).before B U = true := by
  have e1 : u.fieldNamed? o n d true = U.fieldNamed? o n d true := by
    unfold State.fieldNamed?
    rw [xt_ff hv]
  simp only [Cond.before, Cond.holds, Cond.value, Term.eval] at h ⊢
  rw [← e1]
  cases h1 : u.fieldNamed? o n d true with
  | none => simp [h1] at h
  | some x =>
    obtain ⟨c, k, i⟩ := x
    simp only [h1, Option.bind_eq_bind, Option.bind_some] at h ⊢
    cases h3 : k.statics with
    | none => simp [h3] at h
    | some a =>
      simp only [h3, Option.bind_some] at h ⊢
      cases h4 : u.heap[a]? with
      | none => simp [h4] at h
      | some cell =>
        rw [h4] at h
        rw [hh a cell h4]
        exact h
theorem xt_keep : ∀ w ∈ xt_ws ++ xt_hs, w.keepsCast = true := by decide +kernel
theorem xt_cutAt {bs q : Nat} {U : State} : (xt_cut bs U).heap[q]? = if q < bs then U.heap[q]? else none := by
  show ((U.heap.toList.take bs).toArray)[q]? = _
  rw [List.getElem?_toArray, List.getElem?_take, Array.getElem?_toList]
theorem xt_move {A B : Array Value} {u U : State} (hW : u.WarmedH U.vm) (hh : ∀ (q : Nat) (c : Cell), u.heap[q]? = some c → U.heap[q]? = some c) : ∀ w ∈ xt_ws ++ xt_hs, w.before A u = true → w.before B U = true := by
  intro w hw h
  have h1 := Cond.before_shiftedCast (State.Shifted.of_warmed hW) w (xt_keep w hw) h
  rcases List.mem_append.mp hw with hw | hw
  · exact xt_tab (u := u.setVm U.vm) (U := U) rfl w hw h1
  · simp only [xt_hs, List.mem_cons, List.not_mem_nil, or_false] at hw
    rcases hw with rfl | rfl | rfl | rfl
    · exact xt_ls (u := u.setVm U.vm) (U := U) rfl hh h1
    · exact xt_ls (u := u.setVm U.vm) (U := U) rfl hh h1
    · exact xt_rs (u := u.setVm U.vm) (U := U) rfl hh h1
    · exact xt_rs (u := u.setVm U.vm) (U := U) rfl hh h1
theorem xt_T.moved {bs : Nat} {u U : State} (hW : u.WarmedH U.vm) (hh : ∀ q, q < bs → U.heap[q]? = u.heap[q]?) (h : xt_T bs u) : xt_T bs U := by
  intro w hw
  have hW9 : (xt_cut bs u).WarmedH (xt_cut bs U).vm := hW
  refine xt_move hW9 (fun q c hq => ?_) w hw (h w hw)
  rw [xt_cutAt] at hq ⊢
  by_cases hlt : q < bs
  · rw [if_pos hlt] at hq ⊢
    rw [hh q hlt]
    exact hq
  · rw [if_neg hlt] at hq
    cases hq
theorem xt_T.full {bs : Nat} {u U : State} {B : Array Value} (hW : u.WarmedH U.vm) (hh : ∀ q, q < bs → U.heap[q]? = u.heap[q]?) (h : xt_T bs u) : ∀ w ∈ xt_ws ++ xt_hs, w.before B U = true := by
  intro w hw
  have hW9 : (xt_cut bs u).WarmedH U.vm := hW
  refine xt_move hW9 (fun q c hq => ?_) w hw (h w hw)
  rw [xt_cutAt] at hq
  by_cases hlt : q < bs
  · rw [if_pos hlt] at hq
    rw [hh q hlt]
    exact hq
  · rw [if_neg hlt] at hq
    cases hq
theorem xt_asg {bs j kk : Nat} {s : State} (hXT : xt_T bs s) (hj : j = 1 ∨ j = 2 ∨ j = 3) (hk : kk = 1 ∨ kk = 2 ∨ kk = 3) {cj ck : ClassId} (h1 : s.vm.findClass (xt_n j) = some cj) (h2 : s.vm.findClass (xt_n kk) = some ck) : s.vm.assignable ck cj = decide (j = kk) := by
  have hf := hXT.full (B := #[]) (State.WarmedH.refl s) (fun _ _ => rfl)
  have pos : ∀ n, (Cond.castable n n).before #[] s = true → ∀ c1 c2, s.vm.findClass n = some c1 → s.vm.findClass n = some c2 → s.vm.assignable c2 c1 = true := fun n h c1 c2 e1 e2 => by
    obtain ⟨c3, c4, q1, q2, q3⟩ := Cond.castable_spec h
    cases e1.symm.trans e2
    cases e1.symm.trans q1
    cases e1.symm.trans q2
    exact q3
  have neg : ∀ n n', (Cond.not (.castable n n')).before #[] s = true → ∀ c1 c2, s.vm.findClass n' = some c1 → s.vm.findClass n = some c2 → s.vm.assignable c2 c1 = false := fun n n' h c1 c2 e1 e2 => by
    have hv := Cond.holds_not_iff.mp h
    simp only [Cond.value, e1, e2] at hv
    exact Option.some.inj hv
  rcases hj with rfl | rfl | rfl <;> rcases hk with rfl | rfl | rfl
  · exact pos _ (hf _ (by decide +kernel)) _ _ h1 h2
  · exact neg _ _ (hf _ (by decide +kernel)) _ _ h1 h2
  · exact neg _ _ (hf _ (by decide +kernel)) _ _ h1 h2
  · exact neg _ _ (hf _ (by decide +kernel)) _ _ h1 h2
  · exact pos _ (hf _ (by decide +kernel)) _ _ h1 h2
  · exact neg _ _ (hf _ (by decide +kernel)) _ _ h1 h2
  · exact neg _ _ (hf _ (by decide +kernel)) _ _ h1 h2
  · exact neg _ _ (hf _ (by decide +kernel)) _ _ h1 h2
  · exact pos _ (hf _ (by decide +kernel)) _ _ h1 h2
end
section
abbrev mAV : Type := Int32 ⊕ (Int64 ⊕ ((Nat × Nat) ⊕ Nat))
abbrev mSt : Type := (Nat → Nat → Nat → Int32) × (Nat → Nat → Nat → Int64) × (Nat → Nat → Nat → Option Nat) × Nat
abbrev mSc : Type := Nat × Nat × (Nat → Int32)
abbrev mLV : Type := List (Nat × mAV)
abbrev mEn : Type := Nat × Option (List Nat) × Instr × Nat × List Nat × Int32 × Int64
abbrev mPo : Type := (mSt → Prop) × (Int32 → mSt → Prop) × (Nat → Nat → mSt → Prop)
abbrev mMt : Type := List mEn × Option FieldType × Nat × Nat × List (Nat × Nat × Nat × Nat) × Bool
end
section
/-! Tables of the abstract machine, laid by program: families of cells, fields, code lists, methods. -/
def mx_fam : List (Nat × Nat × Nat × Nat × Nat × Nat) := [(0, 0, 1, 0, 0, 0), (1, 0, 1, 0, 1, 0), (2, 0, 1, 5, 9, 5), (3, 0, 1, 0, 3, 0), (4, 0, 1, 1, 9, 0), (5, 5, 9, 0, 4, 0), (6, 5, 9, 2, 24, 0), (7, 5, 9, 2, 24, 0), (8, 5, 9, 1, 24, 0), (9, 5, 9, 1, 24, 0), (50, 0, 1, 1, 5, 0), (51, 0, 1, 0, 2, 0), (52, 0, 1, 1, 120, 0), (53, 0, 1, 5, 8, 14), (54, 4, 8, 0, 5, 0), (55, 4, 8, 4, 36, 0), (56, 4, 8, 1, 36, 0), (57, 4, 8, 1, 24, 0), (86, 0, 1, 0, 6, 0), (87, 0, 1, 1, 9, 0), (88, 0, 1, 3, 9, 0), (89, 0, 1, 1, 9, 0), (90, 0, 1, 1, 9, 0), (91, 0, 1, 1, 216, 0), (92, 0, 1, 1, 9, 0), (93, 0, 1, 3, 81, 0), (94, 0, 1, 3, 81, 0), (95, 0, 1, 3, 81, 0), (96, 0, 1, 1, 9, 0), (97, 0, 1, 1, 720, 0), (98, 0, 1, 1, 120, 0), (99, 0, 1, 1, 30, 0), (100, 0, 1, 1, 120, 0), (101, 0, 1, 1, 108, 0), (102, 0, 1, 1, 7, 0), (103, 0, 1, 1, 7, 0), (104, 0, 1, 3, 7, 0), (105, 0, 1, 3, 108, 0), (106, 0, 1, 4, 1, 0)]
def mx_cod : List (Nat × Nat) := [(0, 0), (1, 0), (2, 0), (3, 0), (4, 0), (5, 0), (6, 0), (7, 0), (8, 0), (9, 0), (5, 1), (6, 1), (7, 1), (8, 1), (9, 1), (5, 2), (6, 2), (7, 2), (8, 2), (9, 2), (5, 3), (6, 3), (7, 3), (8, 3), (9, 3), (5, 4), (6, 4), (7, 4), (8, 4), (9, 4), (5, 5), (6, 5), (7, 5), (8, 5), (9, 5), (5, 6), (6, 6), (7, 6), (8, 6), (9, 6), (5, 7), (6, 7), (7, 7), (8, 7), (9, 7), (5, 8), (6, 8), (7, 8), (8, 8), (9, 8), (10, 0), (11, 0), (12, 0), (13, 0), (14, 0), (15, 0), (16, 0), (17, 0), (14, 1), (15, 1), (16, 1), (17, 1), (14, 2), (15, 2), (16, 2), (17, 2), (14, 3), (15, 3), (16, 3), (17, 3), (14, 4), (15, 4), (16, 4), (17, 4), (14, 5), (15, 5), (16, 5), (17, 5), (14, 6), (15, 6), (16, 6), (17, 6), (14, 7), (15, 7), (16, 7), (17, 7), (18, 0), (19, 0), (20, 0), (21, 0), (22, 0), (23, 0), (24, 0), (25, 0), (26, 0), (27, 0), (28, 0), (29, 0), (30, 0), (31, 0), (32, 0), (33, 0), (34, 0), (35, 0), (36, 0), (37, 0), (38, 0)]
def mx_KT : Nat := 107
def mx_fld : List (List Nat) := [[0, 2, 11, 0, 12, 14], [3, 0, 0, 4, 5], [13, 0, 0], [3, 0, 6, 0], [0, 0, 0, 0, 7, 0, 8, 9, 10, 0, 0, 0, 0], [0, 16, 17, 0, 18], [0, 0, 0, 0, 20, 21, 22, 23, 24, 25, 26, 27, 28, 29, 0, 30, 31, 0, 0, 0, 32, 0, 33, 34, 35, 36, 37, 38]]
def mx_nF (ci : Nat) : Nat := [6, 5, 3, 4, 13, 5, 28].getD ci 0
end
section
def cd_Rs_init : List mEn := [(0, none, .aload_n 0, 1, [], 0, 0), (1, none, .invokespecial 3, 3, [], 0, 0), (4, none, .aload_n 0, 1, [], 0, 0), (5, none, .new 9, 3, [0, 1, 70, 71, 47], 0, 0), (8, none, .dup, 1, [], 0, 0), (9, none, .invokespecial 11, 3, [1, 1, 0, 0, 48, 1003, 2, 0, 72], 0, 0), (12, none, .putfield 12, 3, [0, 1, 0, 0, 223], 0, 0), (15, none, .aload_n 0, 1, [], 0, 0), (16, none, .iconst 5, 1, [], 5, 0), (17, none, .newarray .int, 2, [], 0, 0), (19, none, .putfield 16, 3, [0, 2, 0, 0, 224], 0, 0), (22, none, .aload_n 0, 1, [], 0, 0), (23, none, .new 20, 3, [0, 2, 177, 178, 50], 0, 0), (26, none, .dup, 1, [], 0, 0), (27, none, .invokespecial 22, 3, [4, 1, 0, 0, 1, 120, 3, 1, 179], 0, 0), (30, none, .putfield 23, 3, [0, 4, 0, 0, 226], 0, 0), (33, none, .aload_n 0, 1, [], 0, 0), (34, none, .bipush 8, 2, [], 8, 0), (36, none, .anewarray 27, 3, [14, 197], 0, 0), (39, none, .putfield 29, 3, [0, 5, 0, 0, 227], 0, 0), (42, none, .aload_n 0, 1, [], 0, 0), (43, none, .iconst 1, 1, [], 1, 0), (44, none, .iload_n 1, 1, [], 0, 0), (45, none, .bipush 7, 2, [], 7, 0), (47, none, .iand, 1, [], 0, 0), (48, none, .iadd, 1, [], 0, 0), (49, none, .putfield 33, 3, [0, 0, 0, 0, 222], 0, 0), (52, none, .iconst 0, 1, [], 0, 0), (53, none, .istore_n 2, 1, [], 0, 0), (54, some [0, 1, 2], .iload_n 2, 1, [], 0, 0), (55, none, .bipush 8, 2, [], 8, 0), (57, none, .if_icmp .ge 22, 3, [79], 0, 0), (60, none, .aload_n 0, 1, [], 0, 0), (61, none, .getfield 29, 3, [0, 5, 0, 0, 227], 0, 0), (64, none, .iload_n 2, 1, [], 0, 0), (65, none, .new 27, 3, [0, 5, 197, 199, 51], 0, 0), (68, none, .dup, 1, [], 0, 0), (69, none, .invokespecial 37, 3, [5, 1, 0, 0, 3, 96, 6, 1, 200], 0, 0), (72, none, .aastore, 1, [], 0, 0), (73, none, .iinc 2 1, 3, [], 1, 0), (76, none, .goto (-22), 3, [54], 0, 0), (79, none, .return_, 1, [], 0, 0)]
def mt_Rs_init : mMt := (cd_Rs_init, none, 85, 1952, [], false)
def cd_Cf_init : List mEn := [(0, none, .aload_n 0, 1, [], 0, 0), (1, none, .invokespecial 3, 3, [], 0, 0), (4, none, .aload_n 0, 1, [], 0, 0), (5, none, .bipush 9, 2, [], 9, 0), (7, none, .anewarray 9, 3, [5, 76], 0, 0), (10, none, .putfield 11, 3, [1, 0, 0, 0, 157], 0, 0), (13, none, .aload_n 0, 1, [], 0, 0), (14, none, .new 17, 3, [0, 3, 78, 79, 48], 0, 0), (17, none, .dup, 1, [], 0, 0), (18, none, .invokespecial 19, 3, [2, 1, 0, 0, 0, 0, 4, 1, 80], 0, 0), (21, none, .putfield 20, 3, [1, 3, 0, 0, 164], 0, 0), (24, none, .aload_n 0, 1, [], 0, 0), (25, none, .bipush 9, 2, [], 9, 0), (27, none, .newarray .int, 2, [], 0, 0), (29, none, .putfield 24, 3, [1, 4, 0, 0, 165], 0, 0), (32, none, .iconst 0, 1, [], 0, 0), (33, none, .istore_n 1, 1, [], 0, 0), (34, some [0, 1], .iload_n 1, 1, [], 0, 0), (35, none, .bipush 9, 2, [], 9, 0), (37, none, .if_icmp .ge 22, 3, [59], 0, 0), (40, none, .aload_n 0, 1, [], 0, 0), (41, none, .getfield 11, 3, [1, 0, 0, 0, 157], 0, 0), (44, none, .iload_n 1, 1, [], 0, 0), (45, none, .new 9, 3, [0, 4, 76, 97, 49], 0, 0), (48, none, .dup, 1, [], 0, 0), (49, none, .invokespecial 28, 3, [3, 1, 0, 0, 4, 96, 5, 1, 98], 0, 0), (52, none, .aastore, 1, [], 0, 0), (53, none, .iinc 1 1, 3, [], 1, 0), (56, none, .goto (-22), 3, [34], 0, 0), (59, none, .return_, 1, [], 0, 0)]
def mt_Cf_init : mMt := (cd_Cf_init, none, 48, 1003, [], false)
def cd_Rd_init : List mEn := [(0, none, .aload_n 0, 1, [], 0, 0), (1, none, .invokespecial 3, 3, [], 0, 0), (4, none, .return_, 1, [], 0, 0)]
def mt_Rd_init : mMt := (cd_Rd_init, none, 0, 0, [], false)
def cd_Rl_init : List mEn := [(0, none, .aload_n 0, 1, [], 0, 0), (1, none, .invokespecial 3, 3, [], 0, 0), (4, none, .aload_n 0, 1, [], 0, 0), (5, none, .bipush 24, 2, [], 24, 0), (7, none, .newarray .char, 2, [], 0, 0), (9, none, .putfield 9, 3, [4, 4, 0, 0, 109], 0, 0), (12, none, .aload_n 0, 1, [], 0, 0), (13, none, .bipush 24, 2, [], 24, 0), (15, none, .newarray .char, 2, [], 0, 0), (17, none, .putfield 15, 3, [4, 6, 0, 0, 114], 0, 0), (20, none, .aload_n 0, 1, [], 0, 0), (21, none, .bipush 24, 2, [], 24, 0), (23, none, .newarray .int, 2, [], 0, 0), (25, none, .putfield 18, 3, [4, 7, 0, 0, 116], 0, 0), (28, none, .aload_n 0, 1, [], 0, 0), (29, none, .bipush 24, 2, [], 24, 0), (31, none, .newarray .int, 2, [], 0, 0), (33, none, .putfield 22, 3, [4, 8, 0, 0, 118], 0, 0), (36, none, .return_, 1, [], 0, 0)]
def mt_Rl_init : mMt := (cd_Rl_init, none, 4, 96, [], false)
def cd_Lg_init : List mEn := [(0, none, .aload_n 0, 1, [], 0, 0), (1, none, .invokespecial 3, 3, [], 0, 0), (4, none, .aload_n 0, 1, [], 0, 0), (5, none, .bipush 120, 2, [], 120, 0), (7, none, .newarray .int, 2, [], 0, 0), (9, none, .putfield 9, 3, [2, 0, 0, 0, 183], 0, 0), (12, none, .return_, 1, [], 0, 0)]
def mt_Lg_init : mMt := (cd_Lg_init, none, 1, 120, [], false)
def cd_Vs_init : List mEn := [(0, none, .aload_n 0, 1, [], 0, 0), (1, none, .invokespecial 3, 3, [], 0, 0), (4, none, .aload_n 0, 1, [], 0, 0), (5, none, .iconst (-1), 1, [], (-1), 0), (6, none, .putfield 9, 3, [5, 0, 0, 0, 204], 0, 0), (9, none, .aload_n 0, 1, [], 0, 0), (10, none, .bipush 36, 2, [], 36, 0), (12, none, .newarray .long, 2, [], 0, 0), (14, none, .putfield 15, 3, [5, 1, 0, 0, 206], 0, 0), (17, none, .aload_n 0, 1, [], 0, 0), (18, none, .bipush 36, 2, [], 36, 0), (20, none, .newarray .int, 2, [], 0, 0), (22, none, .putfield 19, 3, [5, 2, 0, 0, 207], 0, 0), (25, none, .aload_n 0, 1, [], 0, 0), (26, none, .bipush 24, 2, [], 24, 0), (28, none, .newarray .int, 2, [], 0, 0), (30, none, .putfield 23, 3, [5, 4, 0, 0, 209], 0, 0), (33, none, .return_, 1, [], 0, 0)]
def mt_Vs_init : mMt := (cd_Vs_init, none, 3, 96, [], false)
def cd_Rs_relation : List mEn := [(0, none, .aload_n 0, 1, [], 0, 0), (1, none, .getfield 12, 3, [0, 1, 0, 0, 223], 0, 0), (4, none, .iload_n 1, 1, [], 0, 0), (5, none, .iload_n 2, 1, [], 0, 0), (6, none, .iload_n 3, 1, [], 0, 0), (7, none, .iload 4, 2, [], 0, 0), (9, none, .invokevirtual 38, 3, [7, 5, 1, 0, 0, 0, 2, 0, 245], 0, 0), (12, none, .ireturn, 1, [], 0, 0)]
def mt_Rs_relation : mMt := (cd_Rs_relation, (some .int), 0, 0, [], false)
def cd_Cf_add : List mEn := [(0, none, .aload_n 0, 1, [], 0, 0), (1, none, .getfield 29, 3, [1, 2, 0, 1, 162], 0, 0), (4, none, .ifCond .ne 21, 3, [25], 0, 0), (7, none, .aload_n 0, 1, [], 0, 0), (8, none, .getfield 33, 3, [1, 1, 0, 0, 159], 0, 0), (11, none, .bipush 9, 2, [], 9, 0), (13, none, .if_icmp .ge 12, 3, [25], 0, 0), (16, none, .iload_n 1, 1, [], 0, 0), (17, none, .ifCond .lt 8, 3, [25], 0, 0), (20, none, .iload_n 1, 1, [], 0, 0), (21, none, .iconst 3, 1, [], 3, 0), (22, none, .if_icmp .lt 5, 3, [27], 0, 0), (25, none, .iconst (-1), 1, [], (-1), 0), (26, none, .ireturn, 1, [], 0, 0), (27, none, .aload_n 0, 1, [], 0, 0), (28, none, .getfield 11, 3, [1, 0, 0, 0, 157], 0, 0), (31, none, .aload_n 0, 1, [], 0, 0), (32, none, .getfield 33, 3, [1, 1, 0, 0, 159], 0, 0), (35, none, .aaload, 1, [], 0, 0), (36, none, .astore 5, 2, [], 0, 0), (38, none, .aload 5, 2, [], 0, 0), (40, none, .iload_n 1, 1, [], 0, 0), (41, none, .putfield 37, 3, [4, 0, 1, 0, 102], 0, 0), (44, none, .aload 5, 2, [], 0, 0), (46, none, .iload_n 2, 1, [], 0, 0), (47, none, .putfield 40, 3, [4, 1, 1, 1, 105], 0, 0), (50, none, .aload 5, 2, [], 0, 0), (52, none, .iload_n 3, 1, [], 0, 0), (53, none, .putfield 43, 3, [4, 2, 1, 0, 106], 0, 0), (56, none, .aload 5, 2, [], 0, 0), (58, none, .iload 4, 2, [], 0, 0), (60, none, .putfield 46, 3, [4, 3, 1, 0, 107], 0, 0), (63, none, .aload_n 0, 1, [], 0, 0), (64, none, .dup, 1, [], 0, 0), (65, none, .getfield 33, 3, [1, 1, 0, 0, 159], 0, 0), (68, none, .iconst 1, 1, [], 1, 0), (69, none, .iadd, 1, [], 0, 0), (70, none, .putfield 33, 3, [1, 1, 0, 0, 159], 0, 0), (73, none, .aload_n 0, 1, [], 0, 0), (74, none, .getfield 33, 3, [1, 1, 0, 0, 159], 0, 0), (77, none, .iconst 1, 1, [], 1, 0), (78, none, .isub, 1, [], 0, 0), (79, none, .ireturn, 1, [], 0, 0)]
def mt_Cf_add : mMt := (cd_Cf_add, (some .int), 0, 0, [], false)
def cd_Rs_type : List mEn := [(0, none, .aload_n 0, 1, [], 0, 0), (1, none, .getfield 12, 3, [0, 1, 0, 0, 223], 0, 0), (4, none, .iload_n 1, 1, [], 0, 0), (5, none, .invokevirtual 42, 3, [9, 2, 1, 0, 0, 0, 2, 0, 253], 0, 0), (8, none, .ireturn, 1, [], 0, 0)]
def mt_Rs_type : mMt := (cd_Rs_type, (some .boolean), 0, 0, [], false)
def cd_Cf_append : List mEn := [(0, none, .aload_n 0, 1, [], 0, 0), (1, none, .getfield 29, 3, [1, 2, 0, 1, 162], 0, 0), (4, none, .ifCond .ne 10, 3, [14], 0, 0), (7, none, .aload_n 0, 1, [], 0, 0), (8, none, .getfield 33, 3, [1, 1, 0, 0, 159], 0, 0), (11, none, .ifCond .ne 5, 3, [16], 0, 0), (14, none, .iconst 0, 1, [], 0, 0), (15, none, .ireturn, 1, [], 0, 0), (16, none, .aload_n 0, 1, [], 0, 0), (17, none, .getfield 11, 3, [1, 0, 0, 0, 157], 0, 0), (20, none, .aload_n 0, 1, [], 0, 0), (21, none, .getfield 33, 3, [1, 1, 0, 0, 159], 0, 0), (24, none, .iconst 1, 1, [], 1, 0), (25, none, .isub, 1, [], 0, 0), (26, none, .aaload, 1, [], 0, 0), (27, none, .astore_n 2, 1, [], 0, 0), (28, none, .aload_n 2, 1, [], 0, 0), (29, none, .getfield 49, 3, [4, 5, 1, 0, 113], 0, 0), (32, none, .bipush 24, 2, [], 24, 0), (34, none, .if_icmp .lt 5, 3, [39], 0, 0), (37, none, .iconst 0, 1, [], 0, 0), (38, none, .ireturn, 1, [], 0, 0), (39, none, .aload_n 2, 1, [], 0, 0), (40, none, .getfield 52, 3, [4, 4, 1, 0, 111], 0, 0), (43, none, .aload_n 2, 1, [], 0, 0), (44, none, .getfield 49, 3, [4, 5, 1, 0, 113], 0, 0), (47, none, .iload_n 1, 1, [], 0, 0), (48, none, .castore, 1, [], 0, 0), (49, none, .aload_n 2, 1, [], 0, 0), (50, none, .dup, 1, [], 0, 0), (51, none, .getfield 49, 3, [4, 5, 1, 0, 113], 0, 0), (54, none, .iconst 1, 1, [], 1, 0), (55, none, .iadd, 1, [], 0, 0), (56, none, .putfield 49, 3, [4, 5, 1, 0, 113], 0, 0), (59, none, .iconst 1, 1, [], 1, 0), (60, none, .ireturn, 1, [], 0, 0)]
def mt_Cf_append : mMt := (cd_Cf_append, (some .boolean), 0, 0, [], false)
def cd_Rs_sound : List mEn := [(0, none, .aload_n 0, 1, [], 0, 0), (1, none, .getfield 12, 3, [0, 1, 0, 0, 223], 0, 0), (4, none, .iload_n 1, 1, [], 0, 0), (5, none, .invokevirtual 46, 3, [11, 2, 1, 0, 0, 0, 2, 0, 261], 0, 0), (8, none, .ireturn, 1, [], 0, 0)]
def mt_Rs_sound : mMt := (cd_Rs_sound, (some .boolean), 0, 0, [], false)
def cd_Cf_isRule : List mEn := [(0, none, .aload_n 0, 1, [], 0, 0), (1, none, .iload_n 1, 1, [], 0, 0), (2, none, .invokevirtual 60, 3, [12, 2, 1, 0, 0, 0, 2, 0, 265], 0, 0), (5, none, .ifCond .eq 31, 3, [36], 0, 0), (8, none, .aload_n 0, 1, [], 0, 0), (9, none, .getfield 20, 3, [1, 3, 0, 0, 164], 0, 0), (12, none, .aload_n 0, 1, [], 0, 0), (13, none, .getfield 11, 3, [1, 0, 0, 0, 157], 0, 0), (16, none, .aload_n 0, 1, [], 0, 0), (17, none, .getfield 33, 3, [1, 1, 0, 0, 159], 0, 0), (20, none, .aload_n 0, 1, [], 0, 0), (21, none, .getfield 11, 3, [1, 0, 0, 0, 157], 0, 0), (24, none, .iload_n 1, 1, [], 0, 0), (25, none, .aaload, 1, [], 0, 0), (26, none, .invokevirtual 77, 3, [13, 4, 1, 0, 0, 0, 4, 0, 269], 0, 0), (29, none, .ifCond .eq 7, 3, [36], 0, 0), (32, none, .iconst 1, 1, [], 1, 0), (33, none, .goto 4, 3, [37], 0, 0), (36, none, .iconst 0, 1, [], 0, 0), (37, none, .ireturn, 1, [], 0, 0)]
def mt_Cf_isRule : mMt := (cd_Cf_isRule, (some .boolean), 0, 0, [], false)
def cd_Cf_isRelation : List mEn := [(0, none, .iload_n 1, 1, [], 0, 0), (1, none, .ifCond .lt 15, 3, [16], 0, 0), (4, none, .iload_n 1, 1, [], 0, 0), (5, none, .aload_n 0, 1, [], 0, 0), (6, none, .getfield 33, 3, [1, 1, 0, 0, 159], 0, 0), (9, none, .if_icmp .ge 7, 3, [16], 0, 0), (12, none, .iconst 1, 1, [], 1, 0), (13, none, .goto 4, 3, [17], 0, 0), (16, none, .iconst 0, 1, [], 0, 0), (17, none, .ireturn, 1, [], 0, 0)]
def mt_Cf_isRelation : mMt := (cd_Cf_isRelation, (some .boolean), 0, 0, [], false)
def cd_Rd_reads : List mEn := [(0, none, .aload_n 0, 1, [], 0, 0), (1, none, .aload_n 1, 1, [], 0, 0), (2, none, .putfield 9, 3, [3, 0, 0, 0, 84], 0, 0), (5, none, .aload_n 0, 1, [], 0, 0), (6, none, .iload_n 2, 1, [], 0, 0), (7, none, .putfield 15, 3, [3, 1, 0, 0, 85], 0, 0), (10, none, .aload_n 0, 1, [], 0, 0), (11, none, .aload_n 3, 1, [], 0, 0), (12, none, .putfield 19, 3, [3, 2, 0, 0, 86], 0, 0), (15, none, .aload_n 0, 1, [], 0, 0), (16, none, .iconst 0, 1, [], 0, 0), (17, none, .putfield 23, 3, [3, 3, 0, 0, 87], 0, 0), (20, none, .aload_n 0, 1, [], 0, 0), (21, none, .getfield 19, 3, [3, 2, 0, 0, 86], 0, 0), (24, none, .invokevirtual 26, 3, [14, 1, 0, 0, 0, 0, 5, 0, 273], 0, 0), (27, none, .aload_n 0, 1, [], 0, 0), (28, none, .getfield 19, 3, [3, 2, 0, 0, 86], 0, 0), (31, none, .getfield 31, 3, [4, 5, 1, 0, 112], 0, 0), (34, none, .ifCond .ne 9, 3, [43], 0, 0), (37, none, .aload_n 0, 1, [], 0, 0), (38, none, .iconst 0, 1, [], 0, 0), (39, none, .invokevirtual 34, 3, [15, 2, 1, 0, 0, 0, 4, 0, 277], 0, 0), (42, none, .ireturn, 1, [], 0, 0), (43, none, .aload_n 0, 1, [], 0, 0), (44, none, .iconst 0, 1, [], 0, 0), (45, none, .iconst 0, 1, [], 0, 0), (46, none, .invokevirtual 38, 3, [18, 3, 1, 0, 0, 0, 4, 0, 289], 0, 0), (49, none, .ifCond .eq 21, 3, [70], 0, 0), (52, none, .aload_n 0, 1, [], 0, 0), (53, none, .getfield 23, 3, [3, 3, 0, 0, 87], 0, 0), (56, none, .aload_n 0, 1, [], 0, 0), (57, none, .getfield 19, 3, [3, 2, 0, 0, 86], 0, 0), (60, none, .getfield 31, 3, [4, 5, 1, 0, 112], 0, 0), (63, none, .if_icmp .ne 7, 3, [70], 0, 0), (66, none, .iconst 1, 1, [], 1, 0), (67, none, .goto 4, 3, [71], 0, 0), (70, none, .iconst 0, 1, [], 0, 0), (71, none, .ireturn, 1, [], 0, 0)]
def mt_Rd_reads : mMt := (cd_Rd_reads, (some .boolean), 0, 0, [], false)
def cd_Rl_forgetRule : List mEn := [(0, none, .aload_n 0, 1, [], 0, 0), (1, none, .iconst 0, 1, [], 0, 0), (2, none, .putfield 25, 3, [4, 9, 0, 0, 120], 0, 0), (5, none, .aload_n 0, 1, [], 0, 0), (6, none, .iconst 0, 1, [], 0, 0), (7, none, .putfield 29, 3, [4, 10, 0, 0, 122], 0, 0), (10, none, .aload_n 0, 1, [], 0, 0), (11, none, .iconst 0, 1, [], 0, 0), (12, none, .putfield 32, 3, [4, 11, 0, 0, 124], 0, 0), (15, none, .return_, 1, [], 0, 0)]
def mt_Rl_forgetRule : mMt := (cd_Rl_forgetRule, none, 0, 0, [], false)
def cd_Rd_readTuples : List mEn := [(0, none, .aload_n 0, 1, [], 0, 0), (1, none, .getfield 19, 3, [3, 2, 0, 0, 86], 0, 0), (4, none, .aload_n 0, 1, [], 0, 0), (5, none, .getfield 19, 3, [3, 2, 0, 0, 86], 0, 0), (8, none, .getfield 67, 3, [4, 3, 1, 0, 108], 0, 0), (11, none, .iconst 1, 1, [], 1, 0), (12, none, .aload_n 0, 1, [], 0, 0), (13, none, .getfield 15, 3, [3, 1, 0, 0, 85], 0, 0), (16, none, .ishl, 1, [], 0, 0), (17, none, .iconst 1, 1, [], 1, 0), (18, none, .isub, 1, [], 0, 0), (19, none, .iand, 1, [], 0, 0), (20, none, .iload_n 1, 1, [], 0, 0), (21, none, .invokevirtual 70, 3, [16, 3, 0, 0, 0, 0, 5, 0, 281], 0, 0), (24, none, .aload_n 0, 1, [], 0, 0), (25, none, .getfield 19, 3, [3, 2, 0, 0, 86], 0, 0), (28, none, .bipush 84, 2, [], 84, 0), (30, none, .iconst 0, 1, [], 0, 0), (31, none, .iconst 0, 1, [], 0, 0), (32, none, .invokevirtual 53, 3, [17, 4, 0, 0, 0, 0, 5, 0, 285], 0, 0), (35, none, .iconst 1, 1, [], 1, 0), (36, none, .ireturn, 1, [], 0, 0)]
def mt_Rd_readTuples : mMt := (cd_Rd_readTuples, (some .boolean), 0, 0, [], false)
def cd_Rl_need : List mEn := [(0, none, .aload_n 0, 1, [], 0, 0), (1, none, .dup, 1, [], 0, 0), (2, none, .getfield 29, 3, [4, 10, 0, 0, 122], 0, 0), (5, none, .iload_n 1, 1, [], 0, 0), (6, none, .ior, 1, [], 0, 0), (7, none, .putfield 29, 3, [4, 10, 0, 0, 122], 0, 0), (10, none, .iload_n 2, 1, [], 0, 0), (11, none, .ifCond .eq 13, 3, [24], 0, 0), (14, none, .aload_n 0, 1, [], 0, 0), (15, none, .dup, 1, [], 0, 0), (16, none, .getfield 32, 3, [4, 11, 0, 0, 124], 0, 0), (19, none, .iload_n 1, 1, [], 0, 0), (20, none, .ior, 1, [], 0, 0), (21, none, .putfield 32, 3, [4, 11, 0, 0, 124], 0, 0), (24, none, .return_, 1, [], 0, 0)]
def mt_Rl_need : mMt := (cd_Rl_need, none, 0, 0, [], false)
def cd_Rl_addStep : List mEn := [(0, none, .aload_n 0, 1, [], 0, 0), (1, none, .getfield 25, 3, [4, 9, 0, 0, 120], 0, 0), (4, none, .bipush 24, 2, [], 24, 0), (6, none, .if_icmp .ge 43, 3, [49], 0, 0), (9, none, .aload_n 0, 1, [], 0, 0), (10, none, .getfield 15, 3, [4, 6, 0, 0, 114], 0, 0), (13, none, .aload_n 0, 1, [], 0, 0), (14, none, .getfield 25, 3, [4, 9, 0, 0, 120], 0, 0), (17, none, .iload_n 1, 1, [], 0, 0), (18, none, .castore, 1, [], 0, 0), (19, none, .aload_n 0, 1, [], 0, 0), (20, none, .getfield 18, 3, [4, 7, 0, 0, 116], 0, 0), (23, none, .aload_n 0, 1, [], 0, 0), (24, none, .getfield 25, 3, [4, 9, 0, 0, 120], 0, 0), (27, none, .iload_n 2, 1, [], 0, 0), (28, none, .iastore, 1, [], 0, 0), (29, none, .aload_n 0, 1, [], 0, 0), (30, none, .getfield 22, 3, [4, 8, 0, 0, 118], 0, 0), (33, none, .aload_n 0, 1, [], 0, 0), (34, none, .getfield 25, 3, [4, 9, 0, 0, 120], 0, 0), (37, none, .iload_n 3, 1, [], 0, 0), (38, none, .iastore, 1, [], 0, 0), (39, none, .aload_n 0, 1, [], 0, 0), (40, none, .dup, 1, [], 0, 0), (41, none, .getfield 25, 3, [4, 9, 0, 0, 120], 0, 0), (44, none, .iconst 1, 1, [], 1, 0), (45, none, .iadd, 1, [], 0, 0), (46, none, .putfield 25, 3, [4, 9, 0, 0, 120], 0, 0), (49, none, .return_, 1, [], 0, 0)]
def mt_Rl_addStep : mMt := (cd_Rl_addStep, none, 0, 0, [], false)
def cd_Rd_readExpression : List mEn := [(0, none, .aload_n 0, 1, [], 0, 0), (1, none, .iload_n 1, 1, [], 0, 0), (2, none, .iload_n 2, 1, [], 0, 0), (3, none, .invokevirtual 42, 3, [19, 3, 1, 0, 0, 0, 4, 0, 293], 0, 0), (6, none, .ifCond .ne 5, 3, [11], 0, 0), (9, none, .iconst 0, 1, [], 0, 0), (10, none, .ireturn, 1, [], 0, 0), (11, some [0, 1, 2], .aload_n 0, 1, [], 0, 0), (12, none, .getfield 23, 3, [3, 3, 0, 0, 87], 0, 0), (15, none, .aload_n 0, 1, [], 0, 0), (16, none, .getfield 19, 3, [3, 2, 0, 0, 86], 0, 0), (19, none, .getfield 31, 3, [4, 5, 1, 0, 112], 0, 0), (22, none, .if_icmp .ge 82, 3, [104], 0, 0), (25, none, .aload_n 0, 1, [], 0, 0), (26, none, .getfield 19, 3, [3, 2, 0, 0, 86], 0, 0), (29, none, .getfield 45, 3, [4, 4, 1, 0, 110], 0, 0), (32, none, .aload_n 0, 1, [], 0, 0), (33, none, .getfield 23, 3, [3, 3, 0, 0, 87], 0, 0), (36, none, .caload, 1, [], 0, 0), (37, none, .invokestatic 49, 3, [25, 1, 1, 0, 0, 0, 0, 0, 317], 0, 0), (40, none, .ifCond .eq 64, 3, [104], 0, 0), (43, none, .aload_n 0, 1, [], 0, 0), (44, none, .getfield 19, 3, [3, 2, 0, 0, 86], 0, 0), (47, none, .getfield 45, 3, [4, 4, 1, 0, 110], 0, 0), (50, none, .aload_n 0, 1, [], 0, 0), (51, none, .getfield 23, 3, [3, 3, 0, 0, 87], 0, 0), (54, none, .caload, 1, [], 0, 0), (55, none, .istore_n 3, 1, [], 0, 0), (56, none, .aload_n 0, 1, [], 0, 0), (57, none, .dup, 1, [], 0, 0), (58, none, .getfield 23, 3, [3, 3, 0, 0, 87], 0, 0), (61, none, .iconst 1, 1, [], 1, 0), (62, none, .iadd, 1, [], 0, 0), (63, none, .putfield 23, 3, [3, 3, 0, 0, 87], 0, 0), (66, none, .aload_n 0, 1, [], 0, 0), (67, none, .iload_n 1, 1, [], 0, 0), (68, none, .iload_n 2, 1, [], 0, 0), (69, none, .ifCond .ne 9, 3, [78], 0, 0), (72, none, .iload_n 3, 1, [], 0, 0), (73, none, .bipush 45, 2, [], 45, 0), (75, none, .if_icmp .ne 7, 3, [82], 0, 0), (78, none, .iconst 1, 1, [], 1, 0), (79, none, .goto 4, 3, [83], 0, 0), (82, none, .iconst 0, 1, [], 0, 0), (83, none, .invokevirtual 42, 3, [19, 3, 1, 0, 0, 0, 4, 0, 293], 0, 0), (86, none, .ifCond .ne 5, 3, [91], 0, 0), (89, none, .iconst 0, 1, [], 0, 0), (90, none, .ireturn, 1, [], 0, 0), (91, none, .aload_n 0, 1, [], 0, 0), (92, none, .getfield 19, 3, [3, 2, 0, 0, 86], 0, 0), (95, none, .iload_n 3, 1, [], 0, 0), (96, none, .iconst 0, 1, [], 0, 0), (97, none, .iconst 0, 1, [], 0, 0), (98, none, .invokevirtual 53, 3, [17, 4, 0, 0, 0, 0, 5, 0, 285], 0, 0), (101, none, .goto (-90), 3, [11], 0, 0), (104, none, .iconst 1, 1, [], 1, 0), (105, none, .ireturn, 1, [], 0, 0)]
def mt_Rd_readExpression : mMt := (cd_Rd_readExpression, (some .boolean), 0, 0, [], false)
def cd_Rd_readPart : List mEn := [(0, none, .aload_n 0, 1, [], 0, 0), (1, none, .invokevirtual 57, 3, [20, 1, 1, 0, 0, 0, 4, 0, 297], 0, 0), (4, none, .istore_n 3, 1, [], 0, 0), (5, none, .iload_n 3, 1, [], 0, 0), (6, none, .bipush 84, 2, [], 84, 0), (8, none, .if_icmp .ne 9, 3, [17], 0, 0), (11, none, .aload_n 0, 1, [], 0, 0), (12, none, .iload_n 2, 1, [], 0, 0), (13, none, .invokevirtual 34, 3, [15, 2, 1, 0, 0, 0, 4, 0, 277], 0, 0), (16, none, .ireturn, 1, [], 0, 0), (17, none, .iload_n 3, 1, [], 0, 0), (18, none, .bipush 99, 2, [], 99, 0), (20, none, .if_icmp .ne 9, 3, [29], 0, 0), (23, none, .aload_n 0, 1, [], 0, 0), (24, none, .iload_n 2, 1, [], 0, 0), (25, none, .invokevirtual 61, 3, [21, 2, 1, 0, 0, 0, 4, 0, 301], 0, 0), (28, none, .ireturn, 1, [], 0, 0), (29, none, .iload_n 3, 1, [], 0, 0), (30, none, .bipush 102, 2, [], 102, 0), (32, none, .if_icmp .ne 9, 3, [41], 0, 0), (35, none, .aload_n 0, 1, [], 0, 0), (36, none, .iload_n 2, 1, [], 0, 0), (37, none, .invokevirtual 64, 3, [24, 2, 1, 0, 0, 0, 4, 0, 313], 0, 0), (40, none, .ireturn, 1, [], 0, 0), (41, none, .iload_n 3, 1, [], 0, 0), (42, none, .bipush 40, 2, [], 40, 0), (44, none, .if_icmp .ne 32, 3, [76], 0, 0), (47, none, .iload_n 1, 1, [], 0, 0), (48, none, .iconst 5, 1, [], 5, 0), (49, none, .if_icmp .ge 27, 3, [76], 0, 0), (52, none, .aload_n 0, 1, [], 0, 0), (53, none, .iload_n 1, 1, [], 0, 0), (54, none, .iconst 1, 1, [], 1, 0), (55, none, .iadd, 1, [], 0, 0), (56, none, .iload_n 2, 1, [], 0, 0), (57, none, .invokevirtual 38, 3, [18, 3, 1, 0, 0, 0, 4, 0, 289], 0, 0), (60, none, .ifCond .eq 16, 3, [76], 0, 0), (63, none, .aload_n 0, 1, [], 0, 0), (64, none, .invokevirtual 57, 3, [20, 1, 1, 0, 0, 0, 4, 0, 297], 0, 0), (67, none, .bipush 41, 2, [], 41, 0), (69, none, .if_icmp .ne 7, 3, [76], 0, 0), (72, none, .iconst 1, 1, [], 1, 0), (73, none, .goto 4, 3, [77], 0, 0), (76, none, .iconst 0, 1, [], 0, 0), (77, none, .ireturn, 1, [], 0, 0)]
def mt_Rd_readPart : mMt := (cd_Rd_readPart, (some .boolean), 0, 0, [], false)
def cd_Rd_next : List mEn := [(0, none, .aload_n 0, 1, [], 0, 0), (1, none, .getfield 23, 3, [3, 3, 0, 0, 87], 0, 0), (4, none, .aload_n 0, 1, [], 0, 0), (5, none, .getfield 19, 3, [3, 2, 0, 0, 86], 0, 0), (8, none, .getfield 31, 3, [4, 5, 1, 0, 112], 0, 0), (11, none, .if_icmp .lt 6, 3, [17], 0, 0), (14, none, .bipush 32, 2, [], 32, 0), (16, none, .ireturn, 1, [], 0, 0), (17, none, .aload_n 0, 1, [], 0, 0), (18, none, .dup, 1, [], 0, 0), (19, none, .getfield 23, 3, [3, 3, 0, 0, 87], 0, 0), (22, none, .iconst 1, 1, [], 1, 0), (23, none, .iadd, 1, [], 0, 0), (24, none, .putfield 23, 3, [3, 3, 0, 0, 87], 0, 0), (27, none, .aload_n 0, 1, [], 0, 0), (28, none, .getfield 19, 3, [3, 2, 0, 0, 86], 0, 0), (31, none, .getfield 45, 3, [4, 4, 1, 0, 110], 0, 0), (34, none, .aload_n 0, 1, [], 0, 0), (35, none, .getfield 23, 3, [3, 3, 0, 0, 87], 0, 0), (38, none, .iconst 1, 1, [], 1, 0), (39, none, .isub, 1, [], 0, 0), (40, none, .caload, 1, [], 0, 0), (41, none, .ireturn, 1, [], 0, 0)]
def mt_Rd_next : mMt := (cd_Rd_next, (some .char), 0, 0, [], false)
def cd_Rd_readSame : List mEn := [(0, none, .aload_n 0, 1, [], 0, 0), (1, none, .invokevirtual 74, 3, [22, 1, 1, 0, 0, 0, 4, 0, 305], 0, 0), (4, none, .istore_n 2, 1, [], 0, 0), (5, none, .aload_n 0, 1, [], 0, 0), (6, none, .iload_n 2, 1, [], 0, 0), (7, none, .invokevirtual 78, 3, [23, 2, 1, 0, 0, 0, 4, 0, 309], 0, 0), (10, none, .ifCond .ne 5, 3, [15], 0, 0), (13, none, .iconst 0, 1, [], 0, 0), (14, none, .ireturn, 1, [], 0, 0), (15, none, .aload_n 0, 1, [], 0, 0), (16, none, .getfield 19, 3, [3, 2, 0, 0, 86], 0, 0), (19, none, .iconst 1, 1, [], 1, 0), (20, none, .iload_n 2, 1, [], 0, 0), (21, none, .ishl, 1, [], 0, 0), (22, none, .iload_n 1, 1, [], 0, 0), (23, none, .invokevirtual 70, 3, [16, 3, 0, 0, 0, 0, 5, 0, 281], 0, 0), (26, none, .aload_n 0, 1, [], 0, 0), (27, none, .getfield 19, 3, [3, 2, 0, 0, 86], 0, 0), (30, none, .bipush 99, 2, [], 99, 0), (32, none, .iconst 0, 1, [], 0, 0), (33, none, .iload_n 2, 1, [], 0, 0), (34, none, .invokevirtual 53, 3, [17, 4, 0, 0, 0, 0, 5, 0, 285], 0, 0), (37, none, .iconst 1, 1, [], 1, 0), (38, none, .ireturn, 1, [], 0, 0)]
def mt_Rd_readSame : mMt := (cd_Rd_readSame, (some .boolean), 0, 0, [], false)
def cd_Rd_readName : List mEn := [(0, none, .aload_n 0, 1, [], 0, 0), (1, none, .invokevirtual 57, 3, [20, 1, 1, 0, 0, 0, 4, 0, 297], 0, 0), (4, none, .bipush 48, 2, [], 48, 0), (6, none, .isub, 1, [], 0, 0), (7, none, .istore_n 1, 1, [], 0, 0), (8, none, .iload_n 1, 1, [], 0, 0), (9, none, .ifCond .lt 15, 3, [24], 0, 0), (12, none, .iload_n 1, 1, [], 0, 0), (13, none, .aload_n 0, 1, [], 0, 0), (14, none, .getfield 15, 3, [3, 1, 0, 0, 85], 0, 0), (17, none, .if_icmp .ge 7, 3, [24], 0, 0), (20, none, .iload_n 1, 1, [], 0, 0), (21, none, .goto 4, 3, [25], 0, 0), (24, none, .iconst (-1), 1, [], (-1), 0), (25, none, .ireturn, 1, [], 0, 0)]
def mt_Rd_readName : mMt := (cd_Rd_readName, (some .int), 0, 0, [], false)
def cd_Rd_isOfOwnNamespace : List mEn := [(0, none, .iload_n 1, 1, [], 0, 0), (1, none, .ifCond .lt 26, 3, [27], 0, 0), (4, none, .aload_n 0, 1, [], 0, 0), (5, none, .getfield 9, 3, [3, 0, 0, 0, 84], 0, 0), (8, none, .iload_n 1, 1, [], 0, 0), (9, none, .aaload, 1, [], 0, 0), (10, none, .getfield 82, 3, [4, 0, 1, 0, 103], 0, 0), (13, none, .aload_n 0, 1, [], 0, 0), (14, none, .getfield 19, 3, [3, 2, 0, 0, 86], 0, 0), (17, none, .getfield 82, 3, [4, 0, 1, 0, 103], 0, 0), (20, none, .if_icmp .ne 7, 3, [27], 0, 0), (23, none, .iconst 1, 1, [], 1, 0), (24, none, .goto 4, 3, [28], 0, 0), (27, none, .iconst 0, 1, [], 0, 0), (28, none, .ireturn, 1, [], 0, 0)]
def mt_Rd_isOfOwnNamespace : mMt := (cd_Rd_isOfOwnNamespace, (some .boolean), 0, 0, [], false)
def cd_Rd_readFrom : List mEn := [(0, none, .aload_n 0, 1, [], 0, 0), (1, none, .invokevirtual 74, 3, [22, 1, 1, 0, 0, 0, 4, 0, 305], 0, 0), (4, none, .istore_n 2, 1, [], 0, 0), (5, none, .aload_n 0, 1, [], 0, 0), (6, none, .invokevirtual 74, 3, [22, 1, 1, 0, 0, 0, 4, 0, 305], 0, 0), (9, none, .istore_n 3, 1, [], 0, 0), (10, none, .aload_n 0, 1, [], 0, 0), (11, none, .iload_n 2, 1, [], 0, 0), (12, none, .invokevirtual 78, 3, [23, 2, 1, 0, 0, 0, 4, 0, 309], 0, 0), (15, none, .ifCond .eq 7, 3, [22], 0, 0), (18, none, .iload_n 3, 1, [], 0, 0), (19, none, .ifCond .ge 5, 3, [24], 0, 0), (22, none, .iconst 0, 1, [], 0, 0), (23, none, .ireturn, 1, [], 0, 0), (24, none, .aload_n 0, 1, [], 0, 0), (25, none, .getfield 19, 3, [3, 2, 0, 0, 86], 0, 0), (28, none, .iconst 1, 1, [], 1, 0), (29, none, .iload_n 2, 1, [], 0, 0), (30, none, .ishl, 1, [], 0, 0), (31, none, .iconst 1, 1, [], 1, 0), (32, none, .iload_n 3, 1, [], 0, 0), (33, none, .ishl, 1, [], 0, 0), (34, none, .ior, 1, [], 0, 0), (35, none, .iload_n 1, 1, [], 0, 0), (36, none, .invokevirtual 70, 3, [16, 3, 0, 0, 0, 0, 5, 0, 281], 0, 0), (39, none, .aload_n 0, 1, [], 0, 0), (40, none, .getfield 19, 3, [3, 2, 0, 0, 86], 0, 0), (43, none, .bipush 102, 2, [], 102, 0), (45, none, .iload_n 2, 1, [], 0, 0), (46, none, .iload_n 3, 1, [], 0, 0), (47, none, .invokevirtual 53, 3, [17, 4, 0, 0, 0, 0, 5, 0, 285], 0, 0), (50, none, .iconst 1, 1, [], 1, 0), (51, none, .ireturn, 1, [], 0, 0)]
def mt_Rd_readFrom : mMt := (cd_Rd_readFrom, (some .boolean), 0, 0, [], false)
def cd_Rd_isOperator : List mEn := [(0, none, .iload_n 0, 1, [], 0, 0), (1, none, .bipush 38, 2, [], 38, 0), (3, none, .if_icmp .eq 15, 3, [18], 0, 0), (6, none, .iload_n 0, 1, [], 0, 0), (7, none, .bipush 124, 2, [], 124, 0), (9, none, .if_icmp .eq 9, 3, [18], 0, 0), (12, none, .iload_n 0, 1, [], 0, 0), (13, none, .bipush 45, 2, [], 45, 0), (15, none, .if_icmp .ne 7, 3, [22], 0, 0), (18, none, .iconst 1, 1, [], 1, 0), (19, none, .goto 4, 3, [23], 0, 0), (22, none, .iconst 0, 1, [], 0, 0), (23, none, .ireturn, 1, [], 0, 0)]
def mt_Rd_isOperator : mMt := (cd_Rd_isOperator, (some .boolean), 0, 0, [], false)
def cd_Rs_crash : List mEn := [(0, none, .aload_n 0, 1, [], 0, 0), (1, none, .invokevirtual 98, 3, [27, 1, 0, 0, 0, 0, 1, 0, 324], 0, 0), (4, none, .return_, 1, [], 0, 0)]
def mt_Rs_crash : mMt := (cd_Rs_crash, none, 0, 0, [], false)
def cd_Rs_forget : List mEn := [(0, none, .aload_n 0, 1, [], 0, 0), (1, none, .iconst 0, 1, [], 0, 0), (2, none, .putfield 80, 3, [0, 3, 0, 0, 225], 0, 0), (5, none, .iconst 0, 1, [], 0, 0), (6, none, .istore_n 1, 1, [], 0, 0), (7, some [0, 1], .iload_n 1, 1, [], 0, 0), (8, none, .bipush 8, 2, [], 8, 0), (10, none, .if_icmp .ge 19, 3, [29], 0, 0), (13, none, .aload_n 0, 1, [], 0, 0), (14, none, .getfield 29, 3, [0, 5, 0, 0, 227], 0, 0), (17, none, .iload_n 1, 1, [], 0, 0), (18, none, .aaload, 1, [], 0, 0), (19, none, .iconst (-1), 1, [], (-1), 0), (20, none, .putfield 159, 3, [5, 0, 1, 0, 205], 0, 0), (23, none, .iinc 1 1, 3, [], 1, 0), (26, none, .goto (-19), 3, [7], 0, 0), (29, none, .return_, 1, [], 0, 0)]
def mt_Rs_forget : mMt := (cd_Rs_forget, none, 0, 0, [], false)
def cd_Rs_latest : List mEn := [(0, none, .aload_n 0, 1, [], 0, 0), (1, none, .getfield 23, 3, [0, 4, 0, 0, 226], 0, 0), (4, none, .getfield 101, 3, [2, 2, 1, 0, 189], 0, 0), (7, none, .ireturn, 1, [], 0, 0)]
def mt_Rs_latest : mMt := (cd_Rs_latest, (some .int), 0, 0, [], false)
def cd_Rs_records : List mEn := [(0, none, .aload_n 0, 1, [], 0, 0), (1, none, .getfield 23, 3, [0, 4, 0, 0, 226], 0, 0), (4, none, .getfield 104, 3, [2, 1, 1, 0, 187], 0, 0), (7, none, .ireturn, 1, [], 0, 0)]
def mt_Rs_records : mMt := (cd_Rs_records, (some .int), 0, 0, [], false)
def cd_Lw_cell : List mEn := [(0, none, .iload_n 1, 1, [], 0, 0), (1, none, .aload_n 0, 1, [], 0, 0), (2, none, .arraylength, 1, [], 0, 0), (3, none, .if_icmp .ge 9, 3, [12], 0, 0), (6, none, .aload_n 0, 1, [], 0, 0), (7, none, .iload_n 1, 1, [], 0, 0), (8, none, .iaload, 1, [], 0, 0), (9, none, .goto 4, 3, [13], 0, 0), (12, none, .iconst 0, 1, [], 0, 0), (13, none, .ireturn, 1, [], 0, 0)]
def mt_Lw_cell : mMt := (cd_Lw_cell, (some .int), 0, 0, [], false)
def cd_Lw_accept : List mEn := [(0, none, .aload_n 1, 1, [], 0, 0), (1, none, .iconst 0, 1, [], 0, 0), (2, none, .aload_n 0, 1, [], 0, 0), (3, none, .invokevirtual 7, 3, [32, 1, 1, 1, 1, 6, 1, 0, 345], 0, 0), (6, none, .i2l, 1, [], 0, 0), (7, none, .lastore, 1, [], 0, 0), (8, none, .goto 12, 3, [20], 0, 0), (11, none, .astore_n 2, 1, [], 0, 0), (12, none, .iconst 1, 1, [], 1, 0), (13, none, .ireturn, 1, [], 0, 0), (14, none, .astore_n 2, 1, [], 0, 0), (15, none, .iconst 2, 1, [], 2, 0), (16, none, .ireturn, 1, [], 0, 0), (17, none, .astore_n 2, 1, [], 0, 0), (18, none, .iconst 3, 1, [], 3, 0), (19, none, .ireturn, 1, [], 0, 0), (20, none, .iconst 0, 1, [], 0, 0), (21, none, .ireturn, 1, [], 0, 0)]
def mt_Lw_accept : mMt := (cd_Lw_accept, (some .int), 1, 6, [(0, 8, 11, 1), (0, 8, 14, 2), (0, 8, 17, 3)], false)
def cd_Rs_accept : List mEn := [(0, none, .aload_n 0, 1, [], 0, 0), (1, none, .getfield 12, 3, [0, 1, 0, 0, 223], 0, 0), (4, none, .getfield 50, 3, [1, 2, 1, 1, 163], 0, 0), (7, none, .ifCond .ne 13, 3, [20], 0, 0), (10, none, .aload_n 0, 1, [], 0, 0), (11, none, .getfield 12, 3, [0, 1, 0, 0, 223], 0, 0), (14, none, .getfield 54, 3, [1, 1, 1, 0, 160], 0, 0), (17, none, .ifCond .ne 11, 3, [28], 0, 0), (20, none, .new 57, 3, [1, 1], 0, 0), (23, none, .dup, 1, [], 0, 0), (24, none, .invokespecial 59, 3, [], 0, 0), (27, none, .athrow, 1, [], 0, 0), (28, none, .aload_n 0, 1, [], 0, 0), (29, none, .getfield 12, 3, [0, 1, 0, 0, 223], 0, 0), (32, none, .invokevirtual 60, 3, [33, 1, 1, 0, 0, 0, 2, 0, 412], 0, 0), (35, none, .ifCond .ne 11, 3, [46], 0, 0), (38, none, .new 64, 3, [1, 2], 0, 0), (41, none, .dup, 1, [], 0, 0), (42, none, .invokespecial 66, 3, [], 0, 0), (45, none, .athrow, 1, [], 0, 0), (46, none, .aload_n 0, 1, [], 0, 0), (47, none, .getfield 12, 3, [0, 1, 0, 0, 223], 0, 0), (50, none, .invokevirtual 67, 3, [34, 1, 1, 0, 0, 0, 2, 0, 431], 0, 0), (53, none, .ifCond .eq 11, 3, [64], 0, 0), (56, none, .new 70, 3, [1, 3], 0, 0), (59, none, .dup, 1, [], 0, 0), (60, none, .invokespecial 72, 3, [], 0, 0), (63, none, .athrow, 1, [], 0, 0), (64, none, .aload_n 0, 1, [], 0, 0), (65, none, .getfield 12, 3, [0, 1, 0, 0, 223], 0, 0), (68, none, .invokevirtual 73, 3, [37, 1, 0, 0, 0, 0, 2, 0, 457], 0, 0), (71, none, .aload_n 0, 1, [], 0, 0), (72, none, .getfield 12, 3, [0, 1, 0, 0, 223], 0, 0), (75, none, .iconst 1, 1, [], 1, 0), (76, none, .putfield 50, 3, [1, 2, 1, 1, 163], 0, 0), (79, none, .aload_n 0, 1, [], 0, 0), (80, none, .getfield 12, 3, [0, 1, 0, 0, 223], 0, 0), (83, none, .getfield 54, 3, [1, 1, 1, 0, 160], 0, 0), (86, none, .ireturn, 1, [], 0, 0)]
def mt_Rs_accept : mMt := (cd_Rs_accept, (some .int), 1, 6, [], true)
def cd_Cf_allAreRules : List mEn := [(0, none, .iconst 0, 1, [], 0, 0), (1, none, .istore_n 1, 1, [], 0, 0), (2, some [0, 1], .iload_n 1, 1, [], 0, 0), (3, none, .aload_n 0, 1, [], 0, 0), (4, none, .getfield 33, 3, [1, 1, 0, 0, 159], 0, 0), (7, none, .if_icmp .ge 35, 3, [42], 0, 0), (10, none, .aload_n 0, 1, [], 0, 0), (11, none, .getfield 20, 3, [1, 3, 0, 0, 164], 0, 0), (14, none, .aload_n 0, 1, [], 0, 0), (15, none, .getfield 11, 3, [1, 0, 0, 0, 157], 0, 0), (18, none, .aload_n 0, 1, [], 0, 0), (19, none, .getfield 33, 3, [1, 1, 0, 0, 159], 0, 0), (22, none, .aload_n 0, 1, [], 0, 0), (23, none, .getfield 11, 3, [1, 0, 0, 0, 157], 0, 0), (26, none, .iload_n 1, 1, [], 0, 0), (27, none, .aaload, 1, [], 0, 0), (28, none, .invokevirtual 77, 3, [13, 4, 1, 0, 0, 0, 4, 0, 269], 0, 0), (31, none, .ifCond .ne 5, 3, [36], 0, 0), (34, none, .iconst 0, 1, [], 0, 0), (35, none, .ireturn, 1, [], 0, 0), (36, none, .iinc 1 1, 3, [], 1, 0), (39, none, .goto (-37), 3, [2], 0, 0), (42, none, .iconst 1, 1, [], 1, 0), (43, none, .ireturn, 1, [], 0, 0)]
def mt_Cf_allAreRules : mMt := (cd_Cf_allAreRules, (some .boolean), 0, 0, [], false)
def cd_Cf_hasBarredRing : List mEn := [(0, none, .aload_n 0, 1, [], 0, 0), (1, none, .invokevirtual 81, 3, [35, 1, 0, 0, 0, 0, 2, 0, 435], 0, 0), (4, none, .iconst 0, 1, [], 0, 0), (5, none, .istore_n 1, 1, [], 0, 0), (6, some [0, 1], .iload_n 1, 1, [], 0, 0), (7, none, .aload_n 0, 1, [], 0, 0), (8, none, .getfield 33, 3, [1, 1, 0, 0, 159], 0, 0), (11, none, .if_icmp .ge 56, 3, [67], 0, 0), (14, none, .iconst 0, 1, [], 0, 0), (15, none, .istore_n 2, 1, [], 0, 0), (16, some [0, 1, 2], .iload_n 2, 1, [], 0, 0), (17, none, .aload_n 0, 1, [], 0, 0), (18, none, .getfield 33, 3, [1, 1, 0, 0, 159], 0, 0), (21, none, .if_icmp .ge 40, 3, [61], 0, 0), (24, none, .aload_n 0, 1, [], 0, 0), (25, none, .getfield 11, 3, [1, 0, 0, 0, 157], 0, 0), (28, none, .iload_n 1, 1, [], 0, 0), (29, none, .aaload, 1, [], 0, 0), (30, none, .getfield 84, 3, [4, 11, 1, 0, 125], 0, 0), (33, none, .iload_n 2, 1, [], 0, 0), (34, none, .invokestatic 74, 3, [36, 2, 1, 0, 0, 0, 0, 1, 439], 0, 0), (37, none, .ifCond .eq 18, 3, [55], 0, 0), (40, none, .aload_n 0, 1, [], 0, 0), (41, none, .getfield 24, 3, [1, 4, 0, 0, 165], 0, 0), (44, none, .iload_n 2, 1, [], 0, 0), (45, none, .iaload, 1, [], 0, 0), (46, none, .iload_n 1, 1, [], 0, 0), (47, none, .invokestatic 74, 3, [36, 2, 1, 0, 0, 0, 0, 1, 439], 0, 0), (50, none, .ifCond .eq 5, 3, [55], 0, 0), (53, none, .iconst 1, 1, [], 1, 0), (54, none, .ireturn, 1, [], 0, 0), (55, none, .iinc 2 1, 3, [], 1, 0), (58, none, .goto (-42), 3, [16], 0, 0), (61, none, .iinc 1 1, 3, [], 1, 0), (64, none, .goto (-58), 3, [6], 0, 0), (67, none, .iconst 0, 1, [], 0, 0), (68, none, .ireturn, 1, [], 0, 0)]
def mt_Cf_hasBarredRing : mMt := (cd_Cf_hasBarredRing, (some .boolean), 0, 0, [], false)
def cd_Cf_findReached : List mEn := [(0, none, .iconst 0, 1, [], 0, 0), (1, none, .istore_n 1, 1, [], 0, 0), (2, some [0, 1], .iload_n 1, 1, [], 0, 0), (3, none, .aload_n 0, 1, [], 0, 0), (4, none, .getfield 33, 3, [1, 1, 0, 0, 159], 0, 0), (7, none, .if_icmp .ge 24, 3, [31], 0, 0), (10, none, .aload_n 0, 1, [], 0, 0), (11, none, .getfield 24, 3, [1, 4, 0, 0, 165], 0, 0), (14, none, .iload_n 1, 1, [], 0, 0), (15, none, .aload_n 0, 1, [], 0, 0), (16, none, .getfield 11, 3, [1, 0, 0, 0, 157], 0, 0), (19, none, .iload_n 1, 1, [], 0, 0), (20, none, .aaload, 1, [], 0, 0), (21, none, .getfield 87, 3, [4, 10, 1, 0, 123], 0, 0), (24, none, .iastore, 1, [], 0, 0), (25, none, .iinc 1 1, 3, [], 1, 0), (28, none, .goto (-26), 3, [2], 0, 0), (31, none, .iconst 0, 1, [], 0, 0), (32, none, .istore_n 1, 1, [], 0, 0), (33, some [0, 1], .iload_n 1, 1, [], 0, 0), (34, none, .aload_n 0, 1, [], 0, 0), (35, none, .getfield 33, 3, [1, 1, 0, 0, 159], 0, 0), (38, none, .if_icmp .ge 53, 3, [91], 0, 0), (41, none, .iconst 0, 1, [], 0, 0), (42, none, .istore_n 2, 1, [], 0, 0), (43, some [0, 1, 2], .iload_n 2, 1, [], 0, 0), (44, none, .aload_n 0, 1, [], 0, 0), (45, none, .getfield 33, 3, [1, 1, 0, 0, 159], 0, 0), (48, none, .if_icmp .ge 37, 3, [85], 0, 0), (51, none, .aload_n 0, 1, [], 0, 0), (52, none, .getfield 24, 3, [1, 4, 0, 0, 165], 0, 0), (55, none, .iload_n 2, 1, [], 0, 0), (56, none, .iaload, 1, [], 0, 0), (57, none, .iload_n 1, 1, [], 0, 0), (58, none, .invokestatic 74, 3, [36, 2, 1, 0, 0, 0, 0, 1, 439], 0, 0), (61, none, .ifCond .eq 18, 3, [79], 0, 0), (64, none, .aload_n 0, 1, [], 0, 0), (65, none, .getfield 24, 3, [1, 4, 0, 0, 165], 0, 0), (68, none, .iload_n 2, 1, [], 0, 0), (69, none, .dup2, 1, [], 0, 0), (70, none, .iaload, 1, [], 0, 0), (71, none, .aload_n 0, 1, [], 0, 0), (72, none, .getfield 24, 3, [1, 4, 0, 0, 165], 0, 0), (75, none, .iload_n 1, 1, [], 0, 0), (76, none, .iaload, 1, [], 0, 0), (77, none, .ior, 1, [], 0, 0), (78, none, .iastore, 1, [], 0, 0), (79, none, .iinc 2 1, 3, [], 1, 0), (82, none, .goto (-39), 3, [43], 0, 0), (85, none, .iinc 1 1, 3, [], 1, 0), (88, none, .goto (-55), 3, [33], 0, 0), (91, none, .return_, 1, [], 0, 0)]
def mt_Cf_findReached : mMt := (cd_Cf_findReached, none, 0, 0, [], false)
def cd_Rs_hasBit : List mEn := [(0, none, .iload_n 0, 1, [], 0, 0), (1, none, .iload_n 1, 1, [], 0, 0), (2, none, .ishr, 1, [], 0, 0), (3, none, .iconst 1, 1, [], 1, 0), (4, none, .iand, 1, [], 0, 0), (5, none, .ifCond .eq 7, 3, [12], 0, 0), (8, none, .iconst 1, 1, [], 1, 0), (9, none, .goto 4, 3, [13], 0, 0), (12, none, .iconst 0, 1, [], 0, 0), (13, none, .ireturn, 1, [], 0, 0)]
def mt_Rs_hasBit : mMt := (cd_Rs_hasBit, (some .boolean), 0, 0, [], false)
def cd_Cf_findLevels : List mEn := [(0, none, .iconst 0, 1, [], 0, 0), (1, none, .istore_n 1, 1, [], 0, 0), (2, some [0, 1], .iload_n 1, 1, [], 0, 0), (3, none, .aload_n 0, 1, [], 0, 0), (4, none, .getfield 33, 3, [1, 1, 0, 0, 159], 0, 0), (7, none, .if_icmp .ge 19, 3, [26], 0, 0), (10, none, .aload_n 0, 1, [], 0, 0), (11, none, .getfield 11, 3, [1, 0, 0, 0, 157], 0, 0), (14, none, .iload_n 1, 1, [], 0, 0), (15, none, .aaload, 1, [], 0, 0), (16, none, .iconst 0, 1, [], 0, 0), (17, none, .putfield 90, 3, [4, 12, 1, 0, 127], 0, 0), (20, none, .iinc 1 1, 3, [], 1, 0), (23, none, .goto (-21), 3, [2], 0, 0), (26, none, .iconst 0, 1, [], 0, 0), (27, none, .istore_n 1, 1, [], 0, 0), (28, some [0, 1], .iload_n 1, 1, [], 0, 0), (29, none, .aload_n 0, 1, [], 0, 0), (30, none, .getfield 33, 3, [1, 1, 0, 0, 159], 0, 0), (33, none, .if_icmp .ge 44, 3, [77], 0, 0), (36, none, .iconst 0, 1, [], 0, 0), (37, none, .istore_n 2, 1, [], 0, 0), (38, some [0, 1, 2], .iload_n 2, 1, [], 0, 0), (39, none, .aload_n 0, 1, [], 0, 0), (40, none, .getfield 33, 3, [1, 1, 0, 0, 159], 0, 0), (43, none, .if_icmp .ge 28, 3, [71], 0, 0), (46, none, .aload_n 0, 1, [], 0, 0), (47, none, .getfield 11, 3, [1, 0, 0, 0, 157], 0, 0), (50, none, .iload_n 2, 1, [], 0, 0), (51, none, .aaload, 1, [], 0, 0), (52, none, .aload_n 0, 1, [], 0, 0), (53, none, .aload_n 0, 1, [], 0, 0), (54, none, .getfield 11, 3, [1, 0, 0, 0, 157], 0, 0), (57, none, .iload_n 2, 1, [], 0, 0), (58, none, .aaload, 1, [], 0, 0), (59, none, .invokevirtual 93, 3, [38, 2, 1, 0, 0, 0, 2, 0, 461], 0, 0), (62, none, .putfield 90, 3, [4, 12, 1, 0, 127], 0, 0), (65, none, .iinc 2 1, 3, [], 1, 0), (68, none, .goto (-30), 3, [38], 0, 0), (71, none, .iinc 1 1, 3, [], 1, 0), (74, none, .goto (-46), 3, [28], 0, 0), (77, none, .return_, 1, [], 0, 0)]
def mt_Cf_findLevels : mMt := (cd_Cf_findLevels, none, 0, 0, [], false)
def cd_Cf_levelAbove : List mEn := [(0, none, .aload_n 1, 1, [], 0, 0), (1, none, .getfield 90, 3, [4, 12, 1, 0, 127], 0, 0), (4, none, .istore_n 2, 1, [], 0, 0), (5, none, .iconst 0, 1, [], 0, 0), (6, none, .istore_n 3, 1, [], 0, 0), (7, some [0, 1, 2, 3], .iload_n 3, 1, [], 0, 0), (8, none, .aload_n 0, 1, [], 0, 0), (9, none, .getfield 33, 3, [1, 1, 0, 0, 159], 0, 0), (12, none, .if_icmp .ge 61, 3, [73], 0, 0), (15, none, .aload_n 1, 1, [], 0, 0), (16, none, .getfield 87, 3, [4, 10, 1, 0, 123], 0, 0), (19, none, .iload_n 3, 1, [], 0, 0), (20, none, .invokestatic 74, 3, [36, 2, 1, 0, 0, 0, 0, 1, 439], 0, 0), (23, none, .ifCond .eq 17, 3, [40], 0, 0), (26, none, .iload_n 2, 1, [], 0, 0), (27, none, .aload_n 0, 1, [], 0, 0), (28, none, .getfield 11, 3, [1, 0, 0, 0, 157], 0, 0), (31, none, .iload_n 3, 1, [], 0, 0), (32, none, .aaload, 1, [], 0, 0), (33, none, .getfield 90, 3, [4, 12, 1, 0, 127], 0, 0), (36, none, .invokestatic 97, 3, [39, 2, 1, 0, 0, 0, 0, 0, 465], 0, 0), (39, none, .istore_n 2, 1, [], 0, 0), (40, none, .aload_n 1, 1, [], 0, 0), (41, none, .getfield 84, 3, [4, 11, 1, 0, 125], 0, 0), (44, none, .iload_n 3, 1, [], 0, 0), (45, none, .invokestatic 74, 3, [36, 2, 1, 0, 0, 0, 0, 1, 439], 0, 0), (48, none, .ifCond .eq 19, 3, [67], 0, 0), (51, none, .iload_n 2, 1, [], 0, 0), (52, none, .aload_n 0, 1, [], 0, 0), (53, none, .getfield 11, 3, [1, 0, 0, 0, 157], 0, 0), (56, none, .iload_n 3, 1, [], 0, 0), (57, none, .aaload, 1, [], 0, 0), (58, none, .getfield 90, 3, [4, 12, 1, 0, 127], 0, 0), (61, none, .iconst 1, 1, [], 1, 0), (62, none, .iadd, 1, [], 0, 0), (63, none, .invokestatic 97, 3, [39, 2, 1, 0, 0, 0, 0, 0, 465], 0, 0), (66, none, .istore_n 2, 1, [], 0, 0), (67, none, .iinc 3 1, 3, [], 1, 0), (70, none, .goto (-63), 3, [7], 0, 0), (73, none, .iload_n 2, 1, [], 0, 0), (74, none, .ireturn, 1, [], 0, 0)]
def mt_Cf_levelAbove : mMt := (cd_Cf_levelAbove, (some .int), 0, 0, [], false)
def cd_Ma_max : List mEn := [(0, none, .iload_n 0, 1, [], 0, 0), (1, none, .iload_n 1, 1, [], 0, 0), (2, none, .if_icmp .lt 7, 3, [9], 0, 0), (5, none, .iload_n 0, 1, [], 0, 0), (6, none, .goto 4, 3, [10], 0, 0), (9, none, .iload_n 1, 1, [], 0, 0), (10, none, .ireturn, 1, [], 0, 0)]
def mt_Ma_max : mMt := (cd_Ma_max, (some .int), 0, 0, [], false)
def cd_Lw_change : List mEn := [(0, none, .aload 7, 2, [], 0, 0), (2, none, .iconst 0, 1, [], 0, 0), (3, none, .aload_n 0, 1, [], 0, 0), (4, none, .iload_n 1, 1, [], 0, 0), (5, none, .iload_n 2, 1, [], 0, 0), (6, none, .iload_n 3, 1, [], 0, 0), (7, none, .iload 4, 2, [], 0, 0), (9, none, .iload 5, 2, [], 0, 0), (11, none, .iload 6, 2, [], 0, 0), (13, none, .invokevirtual 19, 3, [41, 7, 1, 1, 1, 6, 1, 0, 471], 0, 0), (16, none, .i2l, 1, [], 0, 0), (17, none, .lastore, 1, [], 0, 0), (18, none, .goto 15, 3, [33], 0, 0), (21, none, .astore 8, 2, [], 0, 0), (23, none, .iconst 1, 1, [], 1, 0), (24, none, .ireturn, 1, [], 0, 0), (25, none, .astore 8, 2, [], 0, 0), (27, none, .iconst 2, 1, [], 2, 0), (28, none, .ireturn, 1, [], 0, 0), (29, none, .astore 8, 2, [], 0, 0), (31, none, .iconst 3, 1, [], 3, 0), (32, none, .ireturn, 1, [], 0, 0), (33, none, .iconst 0, 1, [], 0, 0), (34, none, .ireturn, 1, [], 0, 0)]
def mt_Lw_change : mMt := (cd_Lw_change, (some .int), 1, 6, [(0, 18, 21, 1), (0, 18, 25, 2), (0, 18, 29, 3)], false)
def cd_Rs_change : List mEn := [(0, none, .aload_n 0, 1, [], 0, 0), (1, none, .getfield 12, 3, [0, 1, 0, 0, 223], 0, 0), (4, none, .getfield 50, 3, [1, 2, 1, 1, 163], 0, 0), (7, none, .ifCond .ne 11, 3, [18], 0, 0), (10, none, .new 57, 3, [1, 1], 0, 0), (13, none, .dup, 1, [], 0, 0), (14, none, .invokespecial 59, 3, [], 0, 0), (17, none, .athrow, 1, [], 0, 0), (18, none, .aload_n 0, 1, [], 0, 0), (19, none, .getfield 12, 3, [0, 1, 0, 0, 223], 0, 0), (22, none, .iload_n 2, 1, [], 0, 0), (23, none, .iload_n 3, 1, [], 0, 0), (24, none, .iload 4, 2, [], 0, 0), (26, none, .iload 5, 2, [], 0, 0), (28, none, .iload 6, 2, [], 0, 0), (30, none, .invokevirtual 76, 3, [42, 6, 1, 0, 0, 0, 2, 0, 475], 0, 0), (33, none, .ifCond .ne 11, 3, [44], 0, 0), (36, none, .new 64, 3, [1, 2], 0, 0), (39, none, .dup, 1, [], 0, 0), (40, none, .invokespecial 66, 3, [], 0, 0), (43, none, .athrow, 1, [], 0, 0), (44, none, .aload_n 0, 1, [], 0, 0), (45, none, .getfield 80, 3, [0, 3, 0, 0, 225], 0, 0), (48, none, .iconst 5, 1, [], 5, 0), (49, none, .if_icmp .lt 11, 3, [60], 0, 0), (52, none, .new 70, 3, [1, 3], 0, 0), (55, none, .dup, 1, [], 0, 0), (56, none, .invokespecial 72, 3, [], 0, 0), (59, none, .athrow, 1, [], 0, 0), (60, none, .aload_n 0, 1, [], 0, 0), (61, none, .getfield 16, 3, [0, 2, 0, 0, 224], 0, 0), (64, none, .aload_n 0, 1, [], 0, 0), (65, none, .getfield 80, 3, [0, 3, 0, 0, 225], 0, 0), (68, none, .iload_n 1, 1, [], 0, 0), (69, none, .iload_n 2, 1, [], 0, 0), (70, none, .iload_n 3, 1, [], 0, 0), (71, none, .iload 4, 2, [], 0, 0), (73, none, .iload 5, 2, [], 0, 0), (75, none, .iload 4, 2, [], 0, 0), (77, none, .iconst 2, 1, [], 2, 0), (78, none, .if_icmp .ne 8, 3, [86], 0, 0), (81, none, .iload 6, 2, [], 0, 0), (83, none, .goto 4, 3, [87], 0, 0), (86, none, .iconst 0, 1, [], 0, 0), (87, none, .invokestatic 83, 3, [47, 6, 1, 0, 0, 0, 0, 0, 493], 0, 0), (90, none, .iastore, 1, [], 0, 0), (91, none, .aload_n 0, 1, [], 0, 0), (92, none, .dup, 1, [], 0, 0), (93, none, .getfield 80, 3, [0, 3, 0, 0, 225], 0, 0), (96, none, .iconst 1, 1, [], 1, 0), (97, none, .iadd, 1, [], 0, 0), (98, none, .putfield 80, 3, [0, 3, 0, 0, 225], 0, 0), (101, none, .aload_n 0, 1, [], 0, 0), (102, none, .getfield 80, 3, [0, 3, 0, 0, 225], 0, 0), (105, none, .ireturn, 1, [], 0, 0)]
def mt_Rs_change : mMt := (cd_Rs_change, (some .int), 1, 6, [], true)
def cd_Cf_isTuple : List mEn := [(0, none, .aload_n 0, 1, [], 0, 0), (1, none, .iload_n 1, 1, [], 0, 0), (2, none, .iload_n 2, 1, [], 0, 0), (3, none, .invokevirtual 63, 3, [43, 3, 1, 0, 0, 0, 2, 0, 479], 0, 0), (6, none, .ifCond .eq 25, 3, [31], 0, 0), (9, none, .aload_n 0, 1, [], 0, 0), (10, none, .aload_n 0, 1, [], 0, 0), (11, none, .getfield 11, 3, [1, 0, 0, 0, 157], 0, 0), (14, none, .iload_n 2, 1, [], 0, 0), (15, none, .aaload, 1, [], 0, 0), (16, none, .iload_n 3, 1, [], 0, 0), (17, none, .iload 4, 2, [], 0, 0), (19, none, .iload 5, 2, [], 0, 0), (21, none, .invokevirtual 67, 3, [45, 5, 1, 0, 0, 0, 2, 0, 486], 0, 0), (24, none, .ifCond .eq 7, 3, [31], 0, 0), (27, none, .iconst 1, 1, [], 1, 0), (28, none, .goto 4, 3, [32], 0, 0), (31, none, .iconst 0, 1, [], 0, 0), (32, none, .ireturn, 1, [], 0, 0)]
def mt_Cf_isTuple : mMt := (cd_Cf_isTuple, (some .boolean), 0, 0, [], false)
def cd_Cf_isNode : List mEn := [(0, none, .iload_n 1, 1, [], 0, 0), (1, none, .invokestatic 56, 3, [44, 1, 1, 0, 0, 0, 0, 1, 483], 0, 0), (4, none, .ifCond .eq 30, 3, [34], 0, 0), (7, none, .aload_n 0, 1, [], 0, 0), (8, none, .iload_n 2, 1, [], 0, 0), (9, none, .invokevirtual 60, 3, [12, 2, 1, 0, 0, 0, 2, 0, 265], 0, 0), (12, none, .ifCond .eq 22, 3, [34], 0, 0), (15, none, .aload_n 0, 1, [], 0, 0), (16, none, .getfield 11, 3, [1, 0, 0, 0, 157], 0, 0), (19, none, .iload_n 2, 1, [], 0, 0), (20, none, .aaload, 1, [], 0, 0), (21, none, .getfield 37, 3, [4, 0, 1, 0, 102], 0, 0), (24, none, .iload_n 1, 1, [], 0, 0), (25, none, .iconst 4, 1, [], 4, 0), (26, none, .idiv, 1, [], 0, 0), (27, none, .if_icmp .ne 7, 3, [34], 0, 0), (30, none, .iconst 1, 1, [], 1, 0), (31, none, .goto 4, 3, [35], 0, 0), (34, none, .iconst 0, 1, [], 0, 0), (35, none, .ireturn, 1, [], 0, 0)]
def mt_Cf_isNode : mMt := (cd_Cf_isNode, (some .boolean), 0, 0, [], false)
def cd_Rs_isObject : List mEn := [(0, none, .iload_n 0, 1, [], 0, 0), (1, none, .ifCond .lt 13, 3, [14], 0, 0), (4, none, .iload_n 0, 1, [], 0, 0), (5, none, .bipush 12, 2, [], 12, 0), (7, none, .if_icmp .ge 7, 3, [14], 0, 0), (10, none, .iconst 1, 1, [], 1, 0), (11, none, .goto 4, 3, [15], 0, 0), (14, none, .iconst 0, 1, [], 0, 0), (15, none, .ireturn, 1, [], 0, 0)]
def mt_Rs_isObject : mMt := (cd_Rs_isObject, (some .boolean), 0, 0, [], false)
def cd_Cf_isListed : List mEn := [(0, none, .iload_n 2, 1, [], 0, 0), (1, none, .tableswitch 101 0 2 #[27, 47, 73], 27, [102, 28, 48, 74], 0, 0), (28, none, .aload_n 1, 1, [], 0, 0), (29, none, .getfield 40, 3, [4, 1, 1, 1, 105], 0, 0), (32, none, .ifCond .eq 14, 3, [46], 0, 0), (35, none, .iload_n 3, 1, [], 0, 0), (36, none, .invokestatic 71, 3, [46, 1, 1, 0, 0, 0, 0, 1, 490], 0, 0), (39, none, .ifCond .eq 7, 3, [46], 0, 0), (42, none, .iconst 1, 1, [], 1, 0), (43, none, .goto 4, 3, [47], 0, 0), (46, none, .iconst 0, 1, [], 0, 0), (47, none, .ireturn, 1, [], 0, 0), (48, none, .iload_n 3, 1, [], 0, 0), (49, none, .invokestatic 56, 3, [44, 1, 1, 0, 0, 0, 0, 1, 483], 0, 0), (52, none, .ifCond .eq 20, 3, [72], 0, 0), (55, none, .aload_n 1, 1, [], 0, 0), (56, none, .getfield 43, 3, [4, 2, 1, 0, 106], 0, 0), (59, none, .iload_n 3, 1, [], 0, 0), (60, none, .iconst 4, 1, [], 4, 0), (61, none, .idiv, 1, [], 0, 0), (62, none, .invokestatic 74, 3, [36, 2, 1, 0, 0, 0, 0, 1, 439], 0, 0), (65, none, .ifCond .eq 7, 3, [72], 0, 0), (68, none, .iconst 1, 1, [], 1, 0), (69, none, .goto 4, 3, [73], 0, 0), (72, none, .iconst 0, 1, [], 0, 0), (73, none, .ireturn, 1, [], 0, 0), (74, none, .aload_n 0, 1, [], 0, 0), (75, none, .iload_n 3, 1, [], 0, 0), (76, none, .iload 4, 2, [], 0, 0), (78, none, .invokevirtual 63, 3, [43, 3, 1, 0, 0, 0, 2, 0, 479], 0, 0), (81, none, .ifCond .eq 19, 3, [100], 0, 0), (84, none, .aload_n 1, 1, [], 0, 0), (85, none, .getfield 46, 3, [4, 3, 1, 0, 107], 0, 0), (88, none, .iload 4, 2, [], 0, 0), (90, none, .invokestatic 74, 3, [36, 2, 1, 0, 0, 0, 0, 1, 439], 0, 0), (93, none, .ifCond .eq 7, 3, [100], 0, 0), (96, none, .iconst 1, 1, [], 1, 0), (97, none, .goto 4, 3, [101], 0, 0), (100, none, .iconst 0, 1, [], 0, 0), (101, none, .ireturn, 1, [], 0, 0), (102, none, .iconst 0, 1, [], 0, 0), (103, none, .ireturn, 1, [], 0, 0)]
def mt_Cf_isListed : mMt := (cd_Cf_isListed, (some .boolean), 0, 0, [], false)
def cd_Rs_isUser : List mEn := [(0, none, .iload_n 0, 1, [], 0, 0), (1, none, .ifCond .lt 13, 3, [14], 0, 0), (4, none, .iload_n 0, 1, [], 0, 0), (5, none, .bipush 8, 2, [], 8, 0), (7, none, .if_icmp .ge 7, 3, [14], 0, 0), (10, none, .iconst 1, 1, [], 1, 0), (11, none, .goto 4, 3, [15], 0, 0), (14, none, .iconst 0, 1, [], 0, 0), (15, none, .ireturn, 1, [], 0, 0)]
def mt_Rs_isUser : mMt := (cd_Rs_isUser, (some .boolean), 0, 0, [], false)
def cd_Rs_packed : List mEn := [(0, none, .iload 5, 2, [], 0, 0), (2, none, .istore 6, 2, [], 0, 0), (4, none, .iload 6, 2, [], 0, 0), (6, none, .iconst 4, 1, [], 4, 0), (7, none, .ishl, 1, [], 0, 0), (8, none, .iload 4, 2, [], 0, 0), (10, none, .ior, 1, [], 0, 0), (11, none, .istore 6, 2, [], 0, 0), (13, none, .iload 6, 2, [], 0, 0), (15, none, .iconst 4, 1, [], 4, 0), (16, none, .ishl, 1, [], 0, 0), (17, none, .iload_n 3, 1, [], 0, 0), (18, none, .ior, 1, [], 0, 0), (19, none, .istore 6, 2, [], 0, 0), (21, none, .iload 6, 2, [], 0, 0), (23, none, .iconst 4, 1, [], 4, 0), (24, none, .ishl, 1, [], 0, 0), (25, none, .iload_n 2, 1, [], 0, 0), (26, none, .ior, 1, [], 0, 0), (27, none, .istore 6, 2, [], 0, 0), (29, none, .iload 6, 2, [], 0, 0), (31, none, .iconst 4, 1, [], 4, 0), (32, none, .ishl, 1, [], 0, 0), (33, none, .iload_n 1, 1, [], 0, 0), (34, none, .ior, 1, [], 0, 0), (35, none, .istore 6, 2, [], 0, 0), (37, none, .iload 6, 2, [], 0, 0), (39, none, .iconst 4, 1, [], 4, 0), (40, none, .ishl, 1, [], 0, 0), (41, none, .iload_n 0, 1, [], 0, 0), (42, none, .ifCond .eq 7, 3, [49], 0, 0), (45, none, .iconst 1, 1, [], 1, 0), (46, none, .goto 4, 3, [50], 0, 0), (49, none, .iconst 0, 1, [], 0, 0), (50, none, .ior, 1, [], 0, 0), (51, none, .ireturn, 1, [], 0, 0)]
def mt_Rs_packed : mMt := (cd_Rs_packed, (some .int), 0, 0, [], false)
def cd_Lw_commit : List mEn := [(0, none, .aload_n 2, 1, [], 0, 0), (1, none, .iconst 0, 1, [], 0, 0), (2, none, .aload_n 0, 1, [], 0, 0), (3, none, .iload_n 1, 1, [], 0, 0), (4, none, .invokevirtual 23, 3, [49, 2, 1, 1, 1, 6, 1, 0, 499], 0, 0), (7, none, .i2l, 1, [], 0, 0), (8, none, .lastore, 1, [], 0, 0), (9, none, .goto 6, 3, [15], 0, 0), (12, none, .astore_n 3, 1, [], 0, 0), (13, none, .iconst 1, 1, [], 1, 0), (14, none, .ireturn, 1, [], 0, 0), (15, none, .iconst 0, 1, [], 0, 0), (16, none, .ireturn, 1, [], 0, 0)]
def mt_Lw_commit : mMt := (cd_Lw_commit, (some .int), 1, 6, [(0, 9, 12, 3)], false)
def cd_Rs_commit : List mEn := [(0, none, .aload_n 0, 1, [], 0, 0), (1, none, .getfield 80, 3, [0, 3, 0, 0, 225], 0, 0), (4, none, .iconst 1, 1, [], 1, 0), (5, none, .iadd, 1, [], 0, 0), (6, none, .istore_n 2, 1, [], 0, 0), (7, none, .aload_n 0, 1, [], 0, 0), (8, none, .getfield 80, 3, [0, 3, 0, 0, 225], 0, 0), (11, none, .ifCond .eq 14, 3, [25], 0, 0), (14, none, .aload_n 0, 1, [], 0, 0), (15, none, .getfield 23, 3, [0, 4, 0, 0, 226], 0, 0), (18, none, .iload_n 2, 1, [], 0, 0), (19, none, .invokevirtual 87, 3, [50, 2, 1, 0, 0, 0, 3, 0, 503], 0, 0), (22, none, .ifCond .ne 11, 3, [33], 0, 0), (25, none, .new 70, 3, [1, 3], 0, 0), (28, none, .dup, 1, [], 0, 0), (29, none, .invokespecial 72, 3, [], 0, 0), (32, none, .athrow, 1, [], 0, 0), (33, none, .iload_n 1, 1, [], 0, 0), (34, none, .ifCond .lt 12, 3, [46], 0, 0), (37, none, .iload_n 1, 1, [], 0, 0), (38, none, .iload_n 2, 1, [], 0, 0), (39, none, .if_icmp .ge 7, 3, [46], 0, 0), (42, none, .iconst 1, 1, [], 1, 0), (43, none, .goto 4, 3, [47], 0, 0), (46, none, .iconst 0, 1, [], 0, 0), (47, none, .istore_n 3, 1, [], 0, 0), (48, none, .iload_n 3, 1, [], 0, 0), (49, none, .ifCond .eq 7, 3, [56], 0, 0), (52, none, .iload_n 1, 1, [], 0, 0), (53, none, .goto 7, 3, [60], 0, 0), (56, none, .aload_n 0, 1, [], 0, 0), (57, none, .getfield 80, 3, [0, 3, 0, 0, 225], 0, 0), (60, none, .istore 4, 2, [], 0, 0), (62, none, .iconst 0, 1, [], 0, 0), (63, none, .istore 5, 2, [], 0, 0), (65, some [0, 1, 2, 3, 4, 5], .iload 5, 2, [], 0, 0), (67, none, .iload 4, 2, [], 0, 0), (69, none, .if_icmp .ge 25, 3, [94], 0, 0), (72, none, .aload_n 0, 1, [], 0, 0), (73, none, .getfield 23, 3, [0, 4, 0, 0, 226], 0, 0), (76, none, .iload 5, 2, [], 0, 0), (78, none, .aload_n 0, 1, [], 0, 0), (79, none, .getfield 16, 3, [0, 2, 0, 0, 224], 0, 0), (82, none, .iload 5, 2, [], 0, 0), (84, none, .iaload, 1, [], 0, 0), (85, none, .invokevirtual 90, 3, [51, 3, 0, 0, 0, 0, 3, 0, 507], 0, 0), (88, none, .iinc 5 1, 3, [], 1, 0), (91, none, .goto (-26), 3, [65], 0, 0), (94, none, .iload_n 3, 1, [], 0, 0), (95, none, .ifCond .ne 14, 3, [109], 0, 0), (98, none, .aload_n 0, 1, [], 0, 0), (99, none, .getfield 23, 3, [0, 4, 0, 0, 226], 0, 0), (102, none, .aload_n 0, 1, [], 0, 0), (103, none, .getfield 80, 3, [0, 3, 0, 0, 225], 0, 0), (106, none, .invokevirtual 94, 3, [52, 2, 0, 0, 0, 0, 3, 0, 511], 0, 0), (109, none, .aload_n 0, 1, [], 0, 0), (110, none, .iconst 0, 1, [], 0, 0), (111, none, .putfield 80, 3, [0, 3, 0, 0, 225], 0, 0), (114, none, .iload_n 1, 1, [], 0, 0), (115, none, .ifCond .lt 12, 3, [127], 0, 0), (118, none, .iload_n 1, 1, [], 0, 0), (119, none, .iload_n 2, 1, [], 0, 0), (120, none, .if_icmp .gt 7, 3, [127], 0, 0), (123, none, .aload_n 0, 1, [], 0, 0), (124, none, .invokevirtual 98, 3, [27, 1, 0, 0, 0, 0, 1, 0, 324], 0, 0), (127, none, .iload_n 3, 1, [], 0, 0), (128, none, .ifCond .eq 7, 3, [135], 0, 0), (131, none, .iconst (-1), 1, [], (-1), 0), (132, none, .goto 10, 3, [142], 0, 0), (135, none, .aload_n 0, 1, [], 0, 0), (136, none, .getfield 23, 3, [0, 4, 0, 0, 226], 0, 0), (139, none, .getfield 101, 3, [2, 2, 1, 0, 189], 0, 0), (142, none, .ireturn, 1, [], 0, 0)]
def mt_Rs_commit : mMt := (cd_Rs_commit, (some .int), 1, 6, [], true)
def cd_Lg_hasRoomFor : List mEn := [(0, none, .iload_n 1, 1, [], 0, 0), (1, none, .bipush 120, 2, [], 120, 0), (3, none, .aload_n 0, 1, [], 0, 0), (4, none, .getfield 15, 3, [2, 1, 0, 0, 186], 0, 0), (7, none, .isub, 1, [], 0, 0), (8, none, .if_icmp .gt 7, 3, [15], 0, 0), (11, none, .iconst 1, 1, [], 1, 0), (12, none, .goto 4, 3, [16], 0, 0), (15, none, .iconst 0, 1, [], 0, 0), (16, none, .ireturn, 1, [], 0, 0)]
def mt_Lg_hasRoomFor : mMt := (cd_Lg_hasRoomFor, (some .boolean), 0, 0, [], false)
def cd_Lg_write : List mEn := [(0, none, .aload_n 0, 1, [], 0, 0), (1, none, .getfield 15, 3, [2, 1, 0, 0, 186], 0, 0), (4, none, .iload_n 1, 1, [], 0, 0), (5, none, .iadd, 1, [], 0, 0), (6, none, .bipush 120, 2, [], 120, 0), (8, none, .if_icmp .ge 15, 3, [23], 0, 0), (11, none, .aload_n 0, 1, [], 0, 0), (12, none, .getfield 9, 3, [2, 0, 0, 0, 183], 0, 0), (15, none, .aload_n 0, 1, [], 0, 0), (16, none, .getfield 15, 3, [2, 1, 0, 0, 186], 0, 0), (19, none, .iload_n 1, 1, [], 0, 0), (20, none, .iadd, 1, [], 0, 0), (21, none, .iload_n 2, 1, [], 0, 0), (22, none, .iastore, 1, [], 0, 0), (23, none, .return_, 1, [], 0, 0)]
def mt_Lg_write : mMt := (cd_Lg_write, none, 0, 0, [], false)
def cd_Lg_mark : List mEn := [(0, none, .aload_n 0, 1, [], 0, 0), (1, none, .iload_n 1, 1, [], 0, 0), (2, none, .iconst (-1), 1, [], (-1), 0), (3, none, .invokevirtual 19, 3, [51, 3, 0, 0, 0, 0, 3, 0, 515], 0, 0), (6, none, .aload_n 0, 1, [], 0, 0), (7, none, .dup, 1, [], 0, 0), (8, none, .getfield 15, 3, [2, 1, 0, 0, 186], 0, 0), (11, none, .iload_n 1, 1, [], 0, 0), (12, none, .iconst 1, 1, [], 1, 0), (13, none, .iadd, 1, [], 0, 0), (14, none, .iadd, 1, [], 0, 0), (15, none, .putfield 15, 3, [2, 1, 0, 0, 186], 0, 0), (18, none, .aload_n 0, 1, [], 0, 0), (19, none, .dup, 1, [], 0, 0), (20, none, .getfield 23, 3, [2, 2, 0, 0, 188], 0, 0), (23, none, .iconst 1, 1, [], 1, 0), (24, none, .iadd, 1, [], 0, 0), (25, none, .putfield 23, 3, [2, 2, 0, 0, 188], 0, 0), (28, none, .return_, 1, [], 0, 0)]
def mt_Lg_mark : mMt := (cd_Lg_mark, none, 0, 0, [], false)
def cd_Lw_tuples : List mEn := [(0, none, .aload_n 2, 1, [], 0, 0), (1, none, .iconst 0, 1, [], 0, 0), (2, none, .aload_n 0, 1, [], 0, 0), (3, none, .iload_n 1, 1, [], 0, 0), (4, none, .invokevirtual 27, 3, [54, 2, 1, 1, 1, 6, 1, 0, 519], 0, 0), (7, none, .i2l, 1, [], 0, 0), (8, none, .lastore, 1, [], 0, 0), (9, none, .goto 9, 3, [18], 0, 0), (12, none, .astore_n 3, 1, [], 0, 0), (13, none, .iconst 1, 1, [], 1, 0), (14, none, .ireturn, 1, [], 0, 0), (15, none, .astore_n 3, 1, [], 0, 0), (16, none, .iconst 2, 1, [], 2, 0), (17, none, .ireturn, 1, [], 0, 0), (18, none, .iconst 0, 1, [], 0, 0), (19, none, .ireturn, 1, [], 0, 0)]
def mt_Lw_tuples : mMt := (cd_Lw_tuples, (some .int), 1, 6, [(0, 9, 12, 2), (0, 9, 15, 3)], false)
def cd_Rs_tuples : List mEn := [(0, none, .aload_n 0, 1, [], 0, 0), (1, none, .iconst 1, 1, [], 1, 0), (2, none, .iload_n 1, 1, [], 0, 0), (3, none, .invokevirtual 107, 3, [55, 3, 0, 1, 1, 6, 1, 0, 523], 0, 0), (6, none, .aload_n 0, 1, [], 0, 0), (7, none, .iload_n 1, 1, [], 0, 0), (8, none, .invokevirtual 111, 3, [56, 2, 16, 0, 0, 0, 1, 0, 527], 0, 0), (11, none, .invokevirtual 115, 3, [64, 1, 1, 0, 0, 0, 6, 0, 556], 0, 0), (14, none, .ireturn, 1, [], 0, 0)]
def mt_Rs_tuples : mMt := (cd_Rs_tuples, (some .int), 1, 6, [], true)
def cd_Rs_refuseUnless : List mEn := [(0, none, .iload_n 1, 1, [], 0, 0), (1, none, .ifCond .eq 18, 3, [19], 0, 0), (4, none, .iload_n 2, 1, [], 0, 0), (5, none, .ifCond .lt 14, 3, [19], 0, 0), (8, none, .iload_n 2, 1, [], 0, 0), (9, none, .aload_n 0, 1, [], 0, 0), (10, none, .getfield 23, 3, [0, 4, 0, 0, 226], 0, 0), (13, none, .getfield 101, 3, [2, 2, 1, 0, 189], 0, 0), (16, none, .if_icmp .le 11, 3, [27], 0, 0), (19, none, .new 64, 3, [1, 2], 0, 0), (22, none, .dup, 1, [], 0, 0), (23, none, .invokespecial 66, 3, [], 0, 0), (26, none, .athrow, 1, [], 0, 0), (27, none, .iload_n 2, 1, [], 0, 0), (28, none, .aload_n 0, 1, [], 0, 0), (29, none, .getfield 23, 3, [0, 4, 0, 0, 226], 0, 0), (32, none, .getfield 101, 3, [2, 2, 1, 0, 189], 0, 0), (35, none, .aload_n 0, 1, [], 0, 0), (36, none, .getfield 33, 3, [0, 0, 0, 0, 222], 0, 0), (39, none, .isub, 1, [], 0, 0), (40, none, .if_icmp .gt 11, 3, [51], 0, 0), (43, none, .new 70, 3, [1, 3], 0, 0), (46, none, .dup, 1, [], 0, 0), (47, none, .invokespecial 72, 3, [], 0, 0), (50, none, .athrow, 1, [], 0, 0), (51, none, .return_, 1, [], 0, 0)]
def mt_Rs_refuseUnless : mMt := (cd_Rs_refuseUnless, none, 1, 6, [], true)
def cd_Rs_versionOf : List mEn := [(0, none, .aload_n 0, 1, [], 0, 0), (1, none, .getfield 29, 3, [0, 5, 0, 0, 227], 0, 0), (4, none, .iload_n 1, 1, [], 0, 0), (5, none, .bipush 8, 2, [], 8, 0), (7, none, .irem, 1, [], 0, 0), (8, none, .aaload, 1, [], 0, 0), (9, none, .astore_n 2, 1, [], 0, 0), (10, none, .aload_n 2, 1, [], 0, 0), (11, none, .getfield 159, 3, [5, 0, 1, 0, 205], 0, 0), (14, none, .iload_n 1, 1, [], 0, 0), (15, none, .if_icmp .eq 12, 3, [27], 0, 0), (18, none, .aload_n 2, 1, [], 0, 0), (19, none, .aload_n 0, 1, [], 0, 0), (20, none, .getfield 23, 3, [0, 4, 0, 0, 226], 0, 0), (23, none, .iload_n 1, 1, [], 0, 0), (24, none, .invokevirtual 162, 3, [57, 3, 0, 0, 0, 0, 6, 0, 531], 0, 0), (27, none, .aload_n 2, 1, [], 0, 0), (28, none, .areturn, 1, [], 0, 0)]
def mt_Rs_versionOf : mMt := (cd_Rs_versionOf, (some (.object "RelationStore$Version")), 0, 0, [], false)
def cd_Vs_replay : List mEn := [(0, none, .aload_n 0, 1, [], 0, 0), (1, none, .getfield 15, 3, [5, 1, 0, 0, 206], 0, 0), (4, none, .lconst 0, 1, [], 0, 0), (5, none, .invokestatic 26, 3, [58, 2, 0, 0, 0, 0, 0, 0, 535], 0, 0), (8, none, .aload_n 1, 1, [], 0, 0), (9, none, .iload_n 2, 1, [], 0, 0), (10, none, .invokevirtual 32, 3, [59, 2, 1, 0, 0, 0, 3, 0, 538], 0, 0), (13, none, .istore_n 3, 1, [], 0, 0), (14, none, .iconst 0, 1, [], 0, 0), (15, none, .istore 4, 2, [], 0, 0), (17, some [0, 1, 2, 3, 4], .iload 4, 2, [], 0, 0), (19, none, .iload_n 3, 1, [], 0, 0), (20, none, .if_icmp .ge 31, 3, [51], 0, 0), (23, none, .aload_n 1, 1, [], 0, 0), (24, none, .getfield 38, 3, [2, 0, 1, 0, 184], 0, 0), (27, none, .iload 4, 2, [], 0, 0), (29, none, .iaload, 1, [], 0, 0), (30, none, .iconst (-1), 1, [], (-1), 0), (31, none, .if_icmp .eq 14, 3, [45], 0, 0), (34, none, .aload_n 0, 1, [], 0, 0), (35, none, .aload_n 1, 1, [], 0, 0), (36, none, .getfield 38, 3, [2, 0, 1, 0, 184], 0, 0), (39, none, .iload 4, 2, [], 0, 0), (41, none, .iaload, 1, [], 0, 0), (42, none, .invokevirtual 41, 3, [60, 2, 0, 0, 0, 0, 6, 0, 542], 0, 0), (45, none, .iinc 4 1, 3, [], 1, 0), (48, none, .goto (-31), 3, [17], 0, 0), (51, none, .aload_n 0, 1, [], 0, 0), (52, none, .iload_n 2, 1, [], 0, 0), (53, none, .putfield 9, 3, [5, 0, 0, 0, 204], 0, 0), (56, none, .aload_n 0, 1, [], 0, 0), (57, none, .iconst 0, 1, [], 0, 0), (58, none, .putfield 45, 3, [5, 3, 0, 1, 208], 0, 0), (61, none, .return_, 1, [], 0, 0)]
def mt_Vs_replay : mMt := (cd_Vs_replay, none, 0, 0, [], false)
def cd_Ar_fillJJ : List mEn := [(0, none, .iconst 0, 1, [], 0, 0), (1, none, .istore_n 3, 1, [], 0, 0), (2, none, .aload_n 0, 1, [], 0, 0), (3, none, .arraylength, 1, [], 0, 0), (4, none, .istore 4, 2, [], 0, 0), (6, some [0, 1, 3, 4], .iload_n 3, 1, [], 0, 0), (7, none, .iload 4, 2, [], 0, 0), (9, none, .if_icmp .ge 13, 3, [22], 0, 0), (12, none, .aload_n 0, 1, [], 0, 0), (13, none, .iload_n 3, 1, [], 0, 0), (14, none, .lload_n 1, 1, [], 0, 0), (15, none, .lastore, 1, [], 0, 0), (16, none, .iinc 3 1, 3, [], 1, 0), (19, none, .goto (-13), 3, [6], 0, 0), (22, none, .return_, 1, [], 0, 0)]
def mt_Ar_fillJJ : mMt := (cd_Ar_fillJJ, none, 0, 0, [], false)
def cd_Lg_lengthAt : List mEn := [(0, none, .iconst 0, 1, [], 0, 0), (1, none, .istore_n 2, 1, [], 0, 0), (2, none, .iconst 0, 1, [], 0, 0), (3, none, .istore_n 3, 1, [], 0, 0), (4, some [0, 1, 2, 3], .iload_n 3, 1, [], 0, 0), (5, none, .aload_n 0, 1, [], 0, 0), (6, none, .getfield 15, 3, [2, 1, 0, 0, 186], 0, 0), (9, none, .if_icmp .ge 27, 3, [36], 0, 0), (12, none, .iload_n 2, 1, [], 0, 0), (13, none, .iload_n 1, 1, [], 0, 0), (14, none, .if_icmp .ge 22, 3, [36], 0, 0), (17, none, .aload_n 0, 1, [], 0, 0), (18, none, .getfield 9, 3, [2, 0, 0, 0, 183], 0, 0), (21, none, .iload_n 3, 1, [], 0, 0), (22, none, .iaload, 1, [], 0, 0), (23, none, .iconst (-1), 1, [], (-1), 0), (24, none, .if_icmp .ne 6, 3, [30], 0, 0), (27, none, .iinc 2 1, 3, [], 1, 0), (30, none, .iinc 3 1, 3, [], 1, 0), (33, none, .goto (-29), 3, [4], 0, 0), (36, none, .iload_n 3, 1, [], 0, 0), (37, none, .ireturn, 1, [], 0, 0)]
def mt_Lg_lengthAt : mMt := (cd_Lg_lengthAt, (some .int), 0, 0, [], false)
def cd_Vs_apply : List mEn := [(0, none, .iload_n 1, 1, [], 0, 0), (1, none, .iconst 1, 1, [], 1, 0), (2, none, .invokestatic 49, 3, [61, 2, 1, 0, 0, 0, 0, 1, 546], 0, 0), (5, none, .iload_n 1, 1, [], 0, 0), (6, none, .iconst 2, 1, [], 2, 0), (7, none, .invokestatic 49, 3, [61, 2, 1, 0, 0, 0, 0, 1, 546], 0, 0), (10, none, .invokestatic 53, 3, [62, 2, 1, 0, 0, 0, 0, 1, 549], 0, 0), (13, none, .istore_n 2, 1, [], 0, 0), (14, none, .lconst 1, 1, [], 0, 1), (15, none, .iload_n 1, 1, [], 0, 0), (16, none, .iconst 3, 1, [], 3, 0), (17, none, .invokestatic 49, 3, [61, 2, 1, 0, 0, 0, 0, 1, 546], 0, 0), (20, none, .iload_n 1, 1, [], 0, 0), (21, none, .iconst 4, 1, [], 4, 0), (22, none, .invokestatic 49, 3, [61, 2, 1, 0, 0, 0, 0, 1, 546], 0, 0), (25, none, .iload_n 1, 1, [], 0, 0), (26, none, .iconst 5, 1, [], 5, 0), (27, none, .invokestatic 49, 3, [61, 2, 1, 0, 0, 0, 0, 1, 546], 0, 0), (30, none, .invokestatic 56, 3, [63, 3, 1, 0, 0, 0, 0, 0, 552], 0, 0), (33, none, .lshl, 1, [], 0, 0), (34, none, .lstore_n 3, 1, [], 0, 0), (35, none, .iload_n 1, 1, [], 0, 0), (36, none, .iconst 0, 1, [], 0, 0), (37, none, .invokestatic 49, 3, [61, 2, 1, 0, 0, 0, 0, 1, 546], 0, 0), (40, none, .iconst 1, 1, [], 1, 0), (41, none, .if_icmp .ne 16, 3, [57], 0, 0), (44, none, .aload_n 0, 1, [], 0, 0), (45, none, .getfield 15, 3, [5, 1, 0, 0, 206], 0, 0), (48, none, .iload_n 2, 1, [], 0, 0), (49, none, .dup2, 1, [], 0, 0), (50, none, .laload, 1, [], 0, 0), (51, none, .lload_n 3, 1, [], 0, 0), (52, none, .lor, 1, [], 0, 0), (53, none, .lastore, 1, [], 0, 0), (54, none, .goto 17, 3, [71], 0, 0), (57, none, .aload_n 0, 1, [], 0, 0), (58, none, .getfield 15, 3, [5, 1, 0, 0, 206], 0, 0), (61, none, .iload_n 2, 1, [], 0, 0), (62, none, .dup2, 1, [], 0, 0), (63, none, .laload, 1, [], 0, 0), (64, none, .lload_n 3, 1, [], 0, 0), (65, none, .ldc2_w 60, 3, [555], 0, (-1)), (68, none, .lxor, 1, [], 0, 0), (69, none, .land, 1, [], 0, 0), (70, none, .lastore, 1, [], 0, 0), (71, none, .return_, 1, [], 0, 0)]
def mt_Vs_apply : mMt := (cd_Vs_apply, none, 0, 0, [], false)
def cd_Rs_field : List mEn := [(0, none, .iload_n 0, 1, [], 0, 0), (1, none, .iconst 4, 1, [], 4, 0), (2, none, .iload_n 1, 1, [], 0, 0), (3, none, .imul, 1, [], 0, 0), (4, none, .ishr, 1, [], 0, 0), (5, none, .bipush 15, 2, [], 15, 0), (7, none, .iand, 1, [], 0, 0), (8, none, .ireturn, 1, [], 0, 0)]
def mt_Rs_field : mMt := (cd_Rs_field, (some .int), 0, 0, [], false)
def cd_Rs_nodeOf : List mEn := [(0, none, .iload_n 1, 1, [], 0, 0), (1, none, .iconst 4, 1, [], 4, 0), (2, none, .imul, 1, [], 0, 0), (3, none, .iload_n 0, 1, [], 0, 0), (4, none, .iconst 4, 1, [], 4, 0), (5, none, .irem, 1, [], 0, 0), (6, none, .iadd, 1, [], 0, 0), (7, none, .ireturn, 1, [], 0, 0)]
def mt_Rs_nodeOf : mMt := (cd_Rs_nodeOf, (some .int), 0, 0, [], false)
def cd_Vs_subjectBit : List mEn := [(0, none, .iload_n 0, 1, [], 0, 0), (1, none, .ifCond .ne 5, 3, [6], 0, 0), (4, none, .iload_n 1, 1, [], 0, 0), (5, none, .ireturn, 1, [], 0, 0), (6, none, .iload_n 0, 1, [], 0, 0), (7, none, .iconst 1, 1, [], 1, 0), (8, none, .if_icmp .ne 10, 3, [18], 0, 0), (11, none, .bipush 8, 2, [], 8, 0), (13, none, .iload_n 1, 1, [], 0, 0), (14, none, .iadd, 1, [], 0, 0), (15, none, .goto 11, 3, [26], 0, 0), (18, none, .bipush 20, 2, [], 20, 0), (20, none, .iload_n 1, 1, [], 0, 0), (21, none, .iload_n 2, 1, [], 0, 0), (22, none, .invokestatic 53, 3, [62, 2, 1, 0, 0, 0, 0, 1, 549], 0, 0), (25, none, .iadd, 1, [], 0, 0), (26, none, .ireturn, 1, [], 0, 0)]
def mt_Vs_subjectBit : mMt := (cd_Vs_subjectBit, (some .int), 0, 0, [], false)
def cd_Vs_size : List mEn := [(0, none, .iconst 0, 1, [], 0, 0), (1, none, .istore_n 1, 1, [], 0, 0), (2, none, .iconst 0, 1, [], 0, 0), (3, none, .istore_n 2, 1, [], 0, 0), (4, some [0, 1, 2], .iload_n 2, 1, [], 0, 0), (5, none, .bipush 36, 2, [], 36, 0), (7, none, .if_icmp .ge 21, 3, [28], 0, 0), (10, none, .iload_n 1, 1, [], 0, 0), (11, none, .aload_n 0, 1, [], 0, 0), (12, none, .getfield 15, 3, [5, 1, 0, 0, 206], 0, 0), (15, none, .iload_n 2, 1, [], 0, 0), (16, none, .laload, 1, [], 0, 0), (17, none, .invokestatic 62, 3, [65, 1, 1, 0, 0, 0, 0, 0, 560], 0, 0), (20, none, .iadd, 1, [], 0, 0), (21, none, .istore_n 1, 1, [], 0, 0), (22, none, .iinc 2 1, 3, [], 1, 0), (25, none, .goto (-21), 3, [4], 0, 0), (28, none, .iload_n 1, 1, [], 0, 0), (29, none, .ireturn, 1, [], 0, 0)]
def mt_Vs_size : mMt := (cd_Vs_size, (some .int), 0, 0, [], false)
def cd_Lo_bitCount : List mEn := [(0, none, .lload_n 0, 1, [], 0, 0), (1, none, .lload_n 0, 1, [], 0, 0), (2, none, .iconst 1, 1, [], 1, 0), (3, none, .lushr, 1, [], 0, 0), (4, none, .ldc2_w 314, 3, [563], 0, 6148914691236517205), (7, none, .land, 1, [], 0, 0), (8, none, .lsub, 1, [], 0, 0), (9, none, .lstore_n 0, 1, [], 0, 0), (10, none, .lload_n 0, 1, [], 0, 0), (11, none, .ldc2_w 316, 3, [564], 0, 3689348814741910323), (14, none, .land, 1, [], 0, 0), (15, none, .lload_n 0, 1, [], 0, 0), (16, none, .iconst 2, 1, [], 2, 0), (17, none, .lushr, 1, [], 0, 0), (18, none, .ldc2_w 316, 3, [564], 0, 3689348814741910323), (21, none, .land, 1, [], 0, 0), (22, none, .ladd, 1, [], 0, 0), (23, none, .lstore_n 0, 1, [], 0, 0), (24, none, .lload_n 0, 1, [], 0, 0), (25, none, .lload_n 0, 1, [], 0, 0), (26, none, .iconst 4, 1, [], 4, 0), (27, none, .lushr, 1, [], 0, 0), (28, none, .ladd, 1, [], 0, 0), (29, none, .ldc2_w 318, 3, [565], 0, 1085102592571150095), (32, none, .land, 1, [], 0, 0), (33, none, .lstore_n 0, 1, [], 0, 0), (34, none, .lload_n 0, 1, [], 0, 0), (35, none, .lload_n 0, 1, [], 0, 0), (36, none, .bipush 8, 2, [], 8, 0), (38, none, .lushr, 1, [], 0, 0), (39, none, .ladd, 1, [], 0, 0), (40, none, .lstore_n 0, 1, [], 0, 0), (41, none, .lload_n 0, 1, [], 0, 0), (42, none, .lload_n 0, 1, [], 0, 0), (43, none, .bipush 16, 2, [], 16, 0), (45, none, .lushr, 1, [], 0, 0), (46, none, .ladd, 1, [], 0, 0), (47, none, .lstore_n 0, 1, [], 0, 0), (48, none, .lload_n 0, 1, [], 0, 0), (49, none, .lload_n 0, 1, [], 0, 0), (50, none, .bipush 32, 2, [], 32, 0), (52, none, .lushr, 1, [], 0, 0), (53, none, .ladd, 1, [], 0, 0), (54, none, .lstore_n 0, 1, [], 0, 0), (55, none, .lload_n 0, 1, [], 0, 0), (56, none, .l2i, 1, [], 0, 0), (57, none, .bipush 127, 2, [], 127, 0), (59, none, .iand, 1, [], 0, 0), (60, none, .ireturn, 1, [], 0, 0)]
def mt_Lo_bitCount : mMt := (cd_Lo_bitCount, (some .int), 0, 0, [], false)
def cd_Lw_check : List mEn := [(0, none, .aload 5, 2, [], 0, 0), (2, none, .iconst 0, 1, [], 0, 0), (3, none, .aload_n 0, 1, [], 0, 0), (4, none, .iload_n 1, 1, [], 0, 0), (5, none, .iload_n 2, 1, [], 0, 0), (6, none, .iload_n 3, 1, [], 0, 0), (7, none, .iload 4, 2, [], 0, 0), (9, none, .invokevirtual 30, 3, [67, 5, 1, 1, 1, 6, 1, 0, 569], 0, 0), (12, none, .ifCond .eq 7, 3, [19], 0, 0), (15, none, .lconst 1, 1, [], 0, 1), (16, none, .goto 4, 3, [20], 0, 0), (19, none, .lconst 0, 1, [], 0, 0), (20, none, .lastore, 1, [], 0, 0), (21, none, .goto 11, 3, [32], 0, 0), (24, none, .astore 6, 2, [], 0, 0), (26, none, .iconst 1, 1, [], 1, 0), (27, none, .ireturn, 1, [], 0, 0), (28, none, .astore 6, 2, [], 0, 0), (30, none, .iconst 2, 1, [], 2, 0), (31, none, .ireturn, 1, [], 0, 0), (32, none, .iconst 0, 1, [], 0, 0), (33, none, .ireturn, 1, [], 0, 0)]
def mt_Lw_check : mMt := (cd_Lw_check, (some .int), 1, 6, [(0, 21, 24, 2), (0, 21, 28, 3)], false)
def cd_Rs_check : List mEn := [(0, none, .aload_n 0, 1, [], 0, 0), (1, none, .aload_n 0, 1, [], 0, 0), (2, none, .getfield 12, 3, [0, 1, 0, 0, 223], 0, 0), (5, none, .iload_n 2, 1, [], 0, 0), (6, none, .iload_n 3, 1, [], 0, 0), (7, none, .invokevirtual 119, 3, [68, 3, 1, 0, 0, 0, 2, 0, 573], 0, 0), (10, none, .ifCond .eq 15, 3, [25], 0, 0), (13, none, .iload 4, 2, [], 0, 0), (15, none, .invokestatic 123, 3, [46, 1, 1, 0, 0, 0, 0, 0, 577], 0, 0), (18, none, .ifCond .eq 7, 3, [25], 0, 0), (21, none, .iconst 1, 1, [], 1, 0), (22, none, .goto 4, 3, [26], 0, 0), (25, none, .iconst 0, 1, [], 0, 0), (26, none, .iload_n 1, 1, [], 0, 0), (27, none, .invokevirtual 107, 3, [55, 3, 0, 1, 1, 6, 1, 0, 523], 0, 0), (30, none, .aload_n 0, 1, [], 0, 0), (31, none, .iload_n 1, 1, [], 0, 0), (32, none, .invokevirtual 111, 3, [56, 2, 16, 0, 0, 0, 1, 0, 527], 0, 0), (35, none, .iload_n 2, 1, [], 0, 0), (36, none, .iload_n 3, 1, [], 0, 0), (37, none, .invokestatic 126, 3, [62, 2, 1, 0, 0, 0, 0, 0, 578], 0, 0), (40, none, .aload_n 0, 1, [], 0, 0), (41, none, .getfield 12, 3, [0, 1, 0, 0, 223], 0, 0), (44, none, .invokevirtual 130, 3, [69, 3, 1, 0, 0, 0, 6, 0, 579], 0, 0), (47, none, .istore 5, 2, [], 0, 0), (49, none, .iload 5, 2, [], 0, 0), (51, none, .iload 4, 2, [], 0, 0), (53, none, .invokestatic 134, 3, [36, 2, 1, 0, 0, 0, 0, 0, 609], 0, 0), (56, none, .ireturn, 1, [], 0, 0)]
def mt_Rs_check : mMt := (cd_Rs_check, (some .boolean), 1, 6, [], true)
def cd_Cf_mayAsk : List mEn := [(0, none, .aload_n 0, 1, [], 0, 0), (1, none, .getfield 29, 3, [1, 2, 0, 1, 162], 0, 0), (4, none, .ifCond .eq 16, 3, [20], 0, 0), (7, none, .aload_n 0, 1, [], 0, 0), (8, none, .iload_n 1, 1, [], 0, 0), (9, none, .iload_n 2, 1, [], 0, 0), (10, none, .invokevirtual 63, 3, [43, 3, 1, 0, 0, 0, 2, 0, 479], 0, 0), (13, none, .ifCond .eq 7, 3, [20], 0, 0), (16, none, .iconst 1, 1, [], 1, 0), (17, none, .goto 4, 3, [21], 0, 0), (20, none, .iconst 0, 1, [], 0, 0), (21, none, .ireturn, 1, [], 0, 0)]
def mt_Cf_mayAsk : mMt := (cd_Cf_mayAsk, (some .boolean), 0, 0, [], false)
def cd_Vs_membersOf : List mEn := [(0, none, .aload_n 0, 1, [], 0, 0), (1, none, .getfield 45, 3, [5, 3, 0, 1, 208], 0, 0), (4, none, .ifCond .ne 38, 3, [42], 0, 0), (7, none, .aload_n 0, 1, [], 0, 0), (8, none, .getfield 19, 3, [5, 2, 0, 0, 207], 0, 0), (11, none, .iconst 0, 1, [], 0, 0), (12, none, .invokestatic 68, 3, [70, 2, 0, 0, 0, 0, 0, 0, 583], 0, 0), (15, none, .iconst 0, 1, [], 0, 0), (16, none, .istore_n 3, 1, [], 0, 0), (17, some [0, 1, 2, 3], .iload_n 3, 1, [], 0, 0), (18, none, .aload_n 2, 1, [], 0, 0), (19, none, .getfield 71, 3, [1, 1, 1, 0, 161], 0, 0), (22, none, .if_icmp .ge 15, 3, [37], 0, 0), (25, none, .aload_n 0, 1, [], 0, 0), (26, none, .aload_n 2, 1, [], 0, 0), (27, none, .iload_n 3, 1, [], 0, 0), (28, none, .invokevirtual 76, 3, [71, 3, 0, 0, 0, 0, 6, 0, 586], 0, 0), (31, none, .iinc 3 1, 3, [], 1, 0), (34, none, .goto (-17), 3, [17], 0, 0), (37, none, .aload_n 0, 1, [], 0, 0), (38, none, .iconst 1, 1, [], 1, 0), (39, none, .putfield 45, 3, [5, 3, 0, 1, 208], 0, 0), (42, none, .aload_n 0, 1, [], 0, 0), (43, none, .getfield 19, 3, [5, 2, 0, 0, 207], 0, 0), (46, none, .iload_n 1, 1, [], 0, 0), (47, none, .iaload, 1, [], 0, 0), (48, none, .ireturn, 1, [], 0, 0)]
def mt_Vs_membersOf : mMt := (cd_Vs_membersOf, (some .int), 0, 0, [], false)
def cd_Ar_fillII : List mEn := [(0, none, .iconst 0, 1, [], 0, 0), (1, none, .istore_n 2, 1, [], 0, 0), (2, none, .aload_n 0, 1, [], 0, 0), (3, none, .arraylength, 1, [], 0, 0), (4, none, .istore_n 3, 1, [], 0, 0), (5, some [0, 1, 2, 3], .iload_n 2, 1, [], 0, 0), (6, none, .iload_n 3, 1, [], 0, 0), (7, none, .if_icmp .ge 13, 3, [20], 0, 0), (10, none, .aload_n 0, 1, [], 0, 0), (11, none, .iload_n 2, 1, [], 0, 0), (12, none, .iload_n 1, 1, [], 0, 0), (13, none, .iastore, 1, [], 0, 0), (14, none, .iinc 2 1, 3, [], 1, 0), (17, none, .goto (-12), 3, [5], 0, 0), (20, none, .return_, 1, [], 0, 0)]
def mt_Ar_fillII : mMt := (cd_Ar_fillII, none, 0, 0, [], false)
def cd_Vs_settle : List mEn := [(0, none, .iconst 1, 1, [], 1, 0), (1, none, .istore_n 3, 1, [], 0, 0), (2, none, .iconst 0, 1, [], 0, 0), (3, none, .istore 4, 2, [], 0, 0), (5, some [0, 1, 2, 3, 4], .iload_n 3, 1, [], 0, 0), (6, none, .ifCond .eq 66, 3, [72], 0, 0), (9, none, .iload 4, 2, [], 0, 0), (11, none, .sipush 288, 3, [], 288, 0), (14, none, .if_icmp .gt 58, 3, [72], 0, 0), (17, none, .iconst 0, 1, [], 0, 0), (18, none, .istore_n 3, 1, [], 0, 0), (19, none, .iconst 0, 1, [], 0, 0), (20, none, .istore 5, 2, [], 0, 0), (22, some [0, 1, 2, 3, 4, 5], .iload 5, 2, [], 0, 0), (24, none, .aload_n 1, 1, [], 0, 0), (25, none, .getfield 71, 3, [1, 1, 1, 0, 161], 0, 0), (28, none, .if_icmp .ge 38, 3, [66], 0, 0), (31, none, .aload_n 1, 1, [], 0, 0), (32, none, .getfield 80, 3, [1, 0, 1, 0, 158], 0, 0), (35, none, .iload 5, 2, [], 0, 0), (37, none, .aaload, 1, [], 0, 0), (38, none, .getfield 84, 3, [4, 12, 1, 0, 126], 0, 0), (41, none, .iload_n 2, 1, [], 0, 0), (42, none, .if_icmp .ne 18, 3, [60], 0, 0), (45, none, .aload_n 0, 1, [], 0, 0), (46, none, .aload_n 1, 1, [], 0, 0), (47, none, .getfield 80, 3, [1, 0, 1, 0, 158], 0, 0), (50, none, .iload 5, 2, [], 0, 0), (52, none, .invokevirtual 89, 3, [72, 3, 1, 0, 0, 0, 6, 0, 590], 0, 0), (55, none, .ifCond .eq 5, 3, [60], 0, 0), (58, none, .iconst 1, 1, [], 1, 0), (59, none, .istore_n 3, 1, [], 0, 0), (60, none, .iinc 5 1, 3, [], 1, 0), (63, none, .goto (-41), 3, [22], 0, 0), (66, none, .iinc 4 1, 3, [], 1, 0), (69, none, .goto (-64), 3, [5], 0, 0), (72, none, .return_, 1, [], 0, 0)]
def mt_Vs_settle : mMt := (cd_Vs_settle, none, 0, 0, [], false)
def cd_Vs_grow : List mEn := [(0, none, .iconst 0, 1, [], 0, 0), (1, none, .istore_n 3, 1, [], 0, 0), (2, none, .iconst 0, 1, [], 0, 0), (3, none, .istore 4, 2, [], 0, 0), (5, some [0, 1, 2, 3, 4], .iload 4, 2, [], 0, 0), (7, none, .iconst 4, 1, [], 4, 0), (8, none, .if_icmp .ge 50, 3, [58], 0, 0), (11, none, .iload 4, 2, [], 0, 0), (13, none, .iload_n 2, 1, [], 0, 0), (14, none, .invokestatic 53, 3, [62, 2, 1, 0, 0, 0, 0, 1, 549], 0, 0), (17, none, .istore 5, 2, [], 0, 0), (19, none, .aload_n 0, 1, [], 0, 0), (20, none, .aload_n 1, 1, [], 0, 0), (21, none, .iload_n 2, 1, [], 0, 0), (22, none, .iload 4, 2, [], 0, 0), (24, none, .invokevirtual 93, 3, [73, 4, 1, 0, 0, 0, 6, 0, 594], 0, 0), (27, none, .istore 6, 2, [], 0, 0), (29, none, .iload 6, 2, [], 0, 0), (31, none, .aload_n 0, 1, [], 0, 0), (32, none, .getfield 19, 3, [5, 2, 0, 0, 207], 0, 0), (35, none, .iload 5, 2, [], 0, 0), (37, none, .iaload, 1, [], 0, 0), (38, none, .if_icmp .eq 14, 3, [52], 0, 0), (41, none, .aload_n 0, 1, [], 0, 0), (42, none, .getfield 19, 3, [5, 2, 0, 0, 207], 0, 0), (45, none, .iload 5, 2, [], 0, 0), (47, none, .iload 6, 2, [], 0, 0), (49, none, .iastore, 1, [], 0, 0), (50, none, .iconst 1, 1, [], 1, 0), (51, none, .istore_n 3, 1, [], 0, 0), (52, none, .iinc 4 1, 3, [], 1, 0), (55, none, .goto (-50), 3, [5], 0, 0), (58, none, .iload_n 3, 1, [], 0, 0), (59, none, .ireturn, 1, [], 0, 0)]
def mt_Vs_grow : mMt := (cd_Vs_grow, (some .boolean), 0, 0, [], false)
def cd_Vs_workOut : List mEn := [(0, none, .aload_n 1, 1, [], 0, 0), (1, none, .iload_n 2, 1, [], 0, 0), (2, none, .aaload, 1, [], 0, 0), (3, none, .astore 4, 2, [], 0, 0), (5, none, .iconst 0, 1, [], 0, 0), (6, none, .istore 5, 2, [], 0, 0), (8, none, .iconst 0, 1, [], 0, 0), (9, none, .istore 6, 2, [], 0, 0), (11, some [0, 1, 2, 3, 4, 5, 6], .iload 6, 2, [], 0, 0), (13, none, .aload 4, 2, [], 0, 0), (15, none, .getfield 97, 3, [4, 9, 1, 0, 121], 0, 0), (18, none, .if_icmp .ge 173, 3, [191], 0, 0), (21, none, .aload 4, 2, [], 0, 0), (23, none, .getfield 100, 3, [4, 6, 1, 0, 115], 0, 0), (26, none, .iload 6, 2, [], 0, 0), (28, none, .caload, 1, [], 0, 0), (29, none, .istore 7, 2, [], 0, 0), (31, none, .aload 4, 2, [], 0, 0), (33, none, .getfield 104, 3, [4, 8, 1, 0, 119], 0, 0), (36, none, .iload 6, 2, [], 0, 0), (38, none, .iaload, 1, [], 0, 0), (39, none, .istore 8, 2, [], 0, 0), (41, none, .iload 7, 2, [], 0, 0), (43, none, .bipush 84, 2, [], 84, 0), (45, none, .if_icmp .ne 25, 3, [70], 0, 0), (48, none, .aload_n 0, 1, [], 0, 0), (49, none, .getfield 23, 3, [5, 4, 0, 0, 209], 0, 0), (52, none, .iload 5, 2, [], 0, 0), (54, none, .aload_n 0, 1, [], 0, 0), (55, none, .iload_n 3, 1, [], 0, 0), (56, none, .iload_n 2, 1, [], 0, 0), (57, none, .invokestatic 53, 3, [62, 2, 1, 0, 0, 0, 0, 1, 549], 0, 0), (60, none, .invokevirtual 107, 3, [74, 2, 1, 0, 0, 0, 6, 0, 598], 0, 0), (63, none, .iastore, 1, [], 0, 0), (64, none, .iinc 5 1, 3, [], 1, 0), (67, none, .goto 118, 3, [185], 0, 0), (70, none, .iload 7, 2, [], 0, 0), (72, none, .bipush 99, 2, [], 99, 0), (74, none, .if_icmp .ne 27, 3, [101], 0, 0), (77, none, .aload_n 0, 1, [], 0, 0), (78, none, .getfield 23, 3, [5, 4, 0, 0, 209], 0, 0), (81, none, .iload 5, 2, [], 0, 0), (83, none, .aload_n 0, 1, [], 0, 0), (84, none, .getfield 19, 3, [5, 2, 0, 0, 207], 0, 0), (87, none, .iload_n 3, 1, [], 0, 0), (88, none, .iload 8, 2, [], 0, 0), (90, none, .invokestatic 53, 3, [62, 2, 1, 0, 0, 0, 0, 1, 549], 0, 0), (93, none, .iaload, 1, [], 0, 0), (94, none, .iastore, 1, [], 0, 0), (95, none, .iinc 5 1, 3, [], 1, 0), (98, none, .goto 87, 3, [185], 0, 0), (101, none, .iload 7, 2, [], 0, 0), (103, none, .bipush 102, 2, [], 102, 0), (105, none, .if_icmp .ne 41, 3, [146], 0, 0), (108, none, .aload_n 0, 1, [], 0, 0), (109, none, .getfield 23, 3, [5, 4, 0, 0, 209], 0, 0), (112, none, .iload 5, 2, [], 0, 0), (114, none, .aload_n 0, 1, [], 0, 0), (115, none, .iload_n 3, 1, [], 0, 0), (116, none, .aload 4, 2, [], 0, 0), (118, none, .getfield 110, 3, [4, 7, 1, 0, 117], 0, 0), (121, none, .iload 6, 2, [], 0, 0), (123, none, .iaload, 1, [], 0, 0), (124, none, .invokestatic 53, 3, [62, 2, 1, 0, 0, 0, 0, 1, 549], 0, 0), (127, none, .iload 8, 2, [], 0, 0), (129, none, .aload_n 1, 1, [], 0, 0), (130, none, .iload 8, 2, [], 0, 0), (132, none, .aaload, 1, [], 0, 0), (133, none, .getfield 113, 3, [4, 0, 1, 0, 104], 0, 0), (136, none, .invokevirtual 116, 3, [75, 4, 1, 0, 0, 0, 6, 0, 602], 0, 0), (139, none, .iastore, 1, [], 0, 0), (140, none, .iinc 5 1, 3, [], 1, 0), (143, none, .goto 42, 3, [185], 0, 0), (146, none, .iload 5, 2, [], 0, 0), (148, none, .iconst 1, 1, [], 1, 0), (149, none, .if_icmp .le 36, 3, [185], 0, 0), (152, none, .iinc 5 (-1), 3, [], (-1), 0), (155, none, .aload_n 0, 1, [], 0, 0), (156, none, .getfield 23, 3, [5, 4, 0, 0, 209], 0, 0), (159, none, .iload 5, 2, [], 0, 0), (161, none, .iconst 1, 1, [], 1, 0), (162, none, .isub, 1, [], 0, 0), (163, none, .iload 7, 2, [], 0, 0), (165, none, .aload_n 0, 1, [], 0, 0), (166, none, .getfield 23, 3, [5, 4, 0, 0, 209], 0, 0), (169, none, .iload 5, 2, [], 0, 0), (171, none, .iconst 1, 1, [], 1, 0), (172, none, .isub, 1, [], 0, 0), (173, none, .iaload, 1, [], 0, 0), (174, none, .aload_n 0, 1, [], 0, 0), (175, none, .getfield 23, 3, [5, 4, 0, 0, 209], 0, 0), (178, none, .iload 5, 2, [], 0, 0), (180, none, .iaload, 1, [], 0, 0), (181, none, .invokestatic 119, 3, [76, 3, 1, 0, 0, 0, 0, 0, 606], 0, 0), (184, none, .iastore, 1, [], 0, 0), (185, none, .iinc 6 1, 3, [], 1, 0), (188, none, .goto (-177), 3, [11], 0, 0), (191, none, .aload_n 0, 1, [], 0, 0), (192, none, .getfield 23, 3, [5, 4, 0, 0, 209], 0, 0), (195, none, .iconst 0, 1, [], 0, 0), (196, none, .iaload, 1, [], 0, 0), (197, none, .ireturn, 1, [], 0, 0)]
def mt_Vs_workOut : mMt := (cd_Vs_workOut, (some .int), 0, 0, [], false)
def cd_Vs_tupleMembers : List mEn := [(0, none, .aload_n 0, 1, [], 0, 0), (1, none, .getfield 15, 3, [5, 1, 0, 0, 206], 0, 0), (4, none, .iload_n 1, 1, [], 0, 0), (5, none, .laload, 1, [], 0, 0), (6, none, .l2i, 1, [], 0, 0), (7, none, .sipush 255, 3, [], 255, 0), (10, none, .iand, 1, [], 0, 0), (11, none, .istore_n 2, 1, [], 0, 0), (12, none, .aload_n 0, 1, [], 0, 0), (13, none, .getfield 15, 3, [5, 1, 0, 0, 206], 0, 0), (16, none, .iload_n 1, 1, [], 0, 0), (17, none, .laload, 1, [], 0, 0), (18, none, .bipush 20, 2, [], 20, 0), (20, none, .lushr, 1, [], 0, 0), (21, none, .lstore_n 3, 1, [], 0, 0), (22, none, .iconst 0, 1, [], 0, 0), (23, none, .istore 5, 2, [], 0, 0), (25, some [0, 1, 2, 3, 5], .iload 5, 2, [], 0, 0), (27, none, .bipush 36, 2, [], 36, 0), (29, none, .if_icmp .ge 37, 3, [66], 0, 0), (32, none, .lload_n 3, 1, [], 0, 0), (33, none, .lconst 0, 1, [], 0, 0), (34, none, .lcmp, 1, [], 0, 0), (35, none, .ifCond .eq 31, 3, [66], 0, 0), (38, none, .lload_n 3, 1, [], 0, 0), (39, none, .lconst 1, 1, [], 0, 1), (40, none, .land, 1, [], 0, 0), (41, none, .lconst 0, 1, [], 0, 0), (42, none, .lcmp, 1, [], 0, 0), (43, none, .ifCond .eq 13, 3, [56], 0, 0), (46, none, .iload_n 2, 1, [], 0, 0), (47, none, .aload_n 0, 1, [], 0, 0), (48, none, .getfield 19, 3, [5, 2, 0, 0, 207], 0, 0), (51, none, .iload 5, 2, [], 0, 0), (53, none, .iaload, 1, [], 0, 0), (54, none, .ior, 1, [], 0, 0), (55, none, .istore_n 2, 1, [], 0, 0), (56, none, .lload_n 3, 1, [], 0, 0), (57, none, .iconst 1, 1, [], 1, 0), (58, none, .lushr, 1, [], 0, 0), (59, none, .lstore_n 3, 1, [], 0, 0), (60, none, .iinc 5 1, 3, [], 1, 0), (63, none, .goto (-38), 3, [25], 0, 0), (66, none, .iload_n 2, 1, [], 0, 0), (67, none, .ireturn, 1, [], 0, 0)]
def mt_Vs_tupleMembers : mMt := (cd_Vs_tupleMembers, (some .int), 0, 0, [], false)
def cd_Vs_objectMembers : List mEn := [(0, none, .iload_n 3, 1, [], 0, 0), (1, none, .iconst 4, 1, [], 4, 0), (2, none, .imul, 1, [], 0, 0), (3, none, .istore 4, 2, [], 0, 0), (5, none, .iconst 0, 1, [], 0, 0), (6, none, .istore 5, 2, [], 0, 0), (8, none, .iload 4, 2, [], 0, 0), (10, none, .istore 6, 2, [], 0, 0), (12, some [0, 1, 2, 3, 4, 5, 6], .iload 6, 2, [], 0, 0), (14, none, .iload 4, 2, [], 0, 0), (16, none, .iconst 4, 1, [], 4, 0), (17, none, .iadd, 1, [], 0, 0), (18, none, .if_icmp .ge 44, 3, [62], 0, 0), (21, none, .aload_n 0, 1, [], 0, 0), (22, none, .getfield 15, 3, [5, 1, 0, 0, 206], 0, 0), (25, none, .iload_n 1, 1, [], 0, 0), (26, none, .laload, 1, [], 0, 0), (27, none, .bipush 8, 2, [], 8, 0), (29, none, .iload 6, 2, [], 0, 0), (31, none, .iadd, 1, [], 0, 0), (32, none, .lushr, 1, [], 0, 0), (33, none, .lconst 1, 1, [], 0, 1), (34, none, .land, 1, [], 0, 0), (35, none, .lconst 0, 1, [], 0, 0), (36, none, .lcmp, 1, [], 0, 0), (37, none, .ifCond .eq 19, 3, [56], 0, 0), (40, none, .iload 5, 2, [], 0, 0), (42, none, .aload_n 0, 1, [], 0, 0), (43, none, .getfield 19, 3, [5, 2, 0, 0, 207], 0, 0), (46, none, .iload 6, 2, [], 0, 0), (48, none, .iload_n 2, 1, [], 0, 0), (49, none, .invokestatic 53, 3, [62, 2, 1, 0, 0, 0, 0, 1, 549], 0, 0), (52, none, .iaload, 1, [], 0, 0), (53, none, .ior, 1, [], 0, 0), (54, none, .istore 5, 2, [], 0, 0), (56, none, .iinc 6 1, 3, [], 1, 0), (59, none, .goto (-47), 3, [12], 0, 0), (62, none, .iload 5, 2, [], 0, 0), (64, none, .ireturn, 1, [], 0, 0)]
def mt_Vs_objectMembers : mMt := (cd_Vs_objectMembers, (some .int), 0, 0, [], false)
def cd_Vs_joined : List mEn := [(0, none, .iload_n 0, 1, [], 0, 0), (1, none, .bipush 38, 2, [], 38, 0), (3, none, .if_icmp .ne 7, 3, [10], 0, 0), (6, none, .iload_n 1, 1, [], 0, 0), (7, none, .iload_n 2, 1, [], 0, 0), (8, none, .iand, 1, [], 0, 0), (9, none, .ireturn, 1, [], 0, 0), (10, none, .iload_n 0, 1, [], 0, 0), (11, none, .bipush 124, 2, [], 124, 0), (13, none, .if_icmp .ne 9, 3, [22], 0, 0), (16, none, .iload_n 1, 1, [], 0, 0), (17, none, .iload_n 2, 1, [], 0, 0), (18, none, .ior, 1, [], 0, 0), (19, none, .goto 8, 3, [27], 0, 0), (22, none, .iload_n 1, 1, [], 0, 0), (23, none, .iload_n 2, 1, [], 0, 0), (24, none, .iconst (-1), 1, [], (-1), 0), (25, none, .ixor, 1, [], 0, 0), (26, none, .iand, 1, [], 0, 0), (27, none, .ireturn, 1, [], 0, 0)]
def mt_Vs_joined : mMt := (cd_Vs_joined, (some .int), 0, 0, [], false)
def cd_Lw_expand : List mEn := [(0, none, .aload 4, 2, [], 0, 0), (2, none, .iconst 0, 1, [], 0, 0), (3, none, .aload_n 0, 1, [], 0, 0), (4, none, .iload_n 1, 1, [], 0, 0), (5, none, .iload_n 2, 1, [], 0, 0), (6, none, .iload_n 3, 1, [], 0, 0), (7, none, .invokevirtual 34, 3, [78, 4, 1, 1, 1, 6, 1, 0, 613], 0, 0), (10, none, .i2l, 1, [], 0, 0), (11, none, .lastore, 1, [], 0, 0), (12, none, .goto 11, 3, [23], 0, 0), (15, none, .astore 5, 2, [], 0, 0), (17, none, .iconst 1, 1, [], 1, 0), (18, none, .ireturn, 1, [], 0, 0), (19, none, .astore 5, 2, [], 0, 0), (21, none, .iconst 2, 1, [], 2, 0), (22, none, .ireturn, 1, [], 0, 0), (23, none, .iconst 0, 1, [], 0, 0), (24, none, .ireturn, 1, [], 0, 0)]
def mt_Lw_expand : mMt := (cd_Lw_expand, (some .int), 1, 6, [(0, 12, 15, 2), (0, 12, 19, 3)], false)
def cd_Rs_expand : List mEn := [(0, none, .aload_n 0, 1, [], 0, 0), (1, none, .aload_n 0, 1, [], 0, 0), (2, none, .getfield 12, 3, [0, 1, 0, 0, 223], 0, 0), (5, none, .iload_n 2, 1, [], 0, 0), (6, none, .iload_n 3, 1, [], 0, 0), (7, none, .invokevirtual 119, 3, [68, 3, 1, 0, 0, 0, 2, 0, 573], 0, 0), (10, none, .iload_n 1, 1, [], 0, 0), (11, none, .invokevirtual 107, 3, [55, 3, 0, 1, 1, 6, 1, 0, 523], 0, 0), (14, none, .aload_n 0, 1, [], 0, 0), (15, none, .iload_n 1, 1, [], 0, 0), (16, none, .invokevirtual 111, 3, [56, 2, 16, 0, 0, 0, 1, 0, 527], 0, 0), (19, none, .iload_n 2, 1, [], 0, 0), (20, none, .iload_n 3, 1, [], 0, 0), (21, none, .invokestatic 126, 3, [62, 2, 1, 0, 0, 0, 0, 0, 578], 0, 0), (24, none, .aload_n 0, 1, [], 0, 0), (25, none, .getfield 12, 3, [0, 1, 0, 0, 223], 0, 0), (28, none, .invokevirtual 130, 3, [69, 3, 1, 0, 0, 0, 6, 0, 579], 0, 0), (31, none, .ireturn, 1, [], 0, 0)]
def mt_Rs_expand : mMt := (cd_Rs_expand, (some .int), 1, 6, [], true)
def cd_Lw_lookup : List mEn := [(0, none, .aload 4, 2, [], 0, 0), (2, none, .iconst 0, 1, [], 0, 0), (3, none, .aload_n 0, 1, [], 0, 0), (4, none, .iload_n 1, 1, [], 0, 0), (5, none, .iload_n 2, 1, [], 0, 0), (6, none, .iload_n 3, 1, [], 0, 0), (7, none, .invokevirtual 38, 3, [80, 4, 1, 1, 1, 6, 1, 0, 620], 0, 0), (10, none, .i2l, 1, [], 0, 0), (11, none, .lastore, 1, [], 0, 0), (12, none, .goto 11, 3, [23], 0, 0), (15, none, .astore 5, 2, [], 0, 0), (17, none, .iconst 1, 1, [], 1, 0), (18, none, .ireturn, 1, [], 0, 0), (19, none, .astore 5, 2, [], 0, 0), (21, none, .iconst 2, 1, [], 2, 0), (22, none, .ireturn, 1, [], 0, 0), (23, none, .iconst 0, 1, [], 0, 0), (24, none, .ireturn, 1, [], 0, 0)]
def mt_Lw_lookup : mMt := (cd_Lw_lookup, (some .int), 1, 6, [(0, 12, 15, 2), (0, 12, 19, 3)], false)
def cd_Rs_lookup : List mEn := [(0, none, .aload_n 0, 1, [], 0, 0), (1, none, .aload_n 0, 1, [], 0, 0), (2, none, .getfield 12, 3, [0, 1, 0, 0, 223], 0, 0), (5, none, .getfield 50, 3, [1, 2, 1, 1, 163], 0, 0), (8, none, .ifCond .eq 25, 3, [33], 0, 0), (11, none, .aload_n 0, 1, [], 0, 0), (12, none, .getfield 12, 3, [0, 1, 0, 0, 223], 0, 0), (15, none, .iload_n 2, 1, [], 0, 0), (16, none, .invokevirtual 137, 3, [12, 2, 1, 0, 0, 0, 2, 0, 624], 0, 0), (19, none, .ifCond .eq 14, 3, [33], 0, 0), (22, none, .iload_n 3, 1, [], 0, 0), (23, none, .invokestatic 123, 3, [46, 1, 1, 0, 0, 0, 0, 0, 577], 0, 0), (26, none, .ifCond .eq 7, 3, [33], 0, 0), (29, none, .iconst 1, 1, [], 1, 0), (30, none, .goto 4, 3, [34], 0, 0), (33, none, .iconst 0, 1, [], 0, 0), (34, none, .iload_n 1, 1, [], 0, 0), (35, none, .invokevirtual 107, 3, [55, 3, 0, 1, 1, 6, 1, 0, 523], 0, 0), (38, none, .aload_n 0, 1, [], 0, 0), (39, none, .iload_n 1, 1, [], 0, 0), (40, none, .invokevirtual 111, 3, [56, 2, 16, 0, 0, 0, 1, 0, 527], 0, 0), (43, none, .astore 4, 2, [], 0, 0), (45, none, .iconst 0, 1, [], 0, 0), (46, none, .istore 5, 2, [], 0, 0), (48, none, .iconst 0, 1, [], 0, 0), (49, none, .istore 6, 2, [], 0, 0), (51, some [0, 1, 2, 3, 4, 5, 6], .iload 6, 2, [], 0, 0), (53, none, .iconst 4, 1, [], 4, 0), (54, none, .if_icmp .ge 40, 3, [94], 0, 0), (57, none, .aload 4, 2, [], 0, 0), (59, none, .iload 6, 2, [], 0, 0), (61, none, .iload_n 2, 1, [], 0, 0), (62, none, .invokestatic 126, 3, [62, 2, 1, 0, 0, 0, 0, 0, 578], 0, 0), (65, none, .aload_n 0, 1, [], 0, 0), (66, none, .getfield 12, 3, [0, 1, 0, 0, 223], 0, 0), (69, none, .invokevirtual 130, 3, [69, 3, 1, 0, 0, 0, 6, 0, 579], 0, 0), (72, none, .iload_n 3, 1, [], 0, 0), (73, none, .invokestatic 134, 3, [36, 2, 1, 0, 0, 0, 0, 0, 609], 0, 0), (76, none, .ifCond .eq 12, 3, [88], 0, 0), (79, none, .iload 5, 2, [], 0, 0), (81, none, .iconst 1, 1, [], 1, 0), (82, none, .iload 6, 2, [], 0, 0), (84, none, .ishl, 1, [], 0, 0), (85, none, .ior, 1, [], 0, 0), (86, none, .istore 5, 2, [], 0, 0), (88, none, .iinc 6 1, 3, [], 1, 0), (91, none, .goto (-40), 3, [51], 0, 0), (94, none, .iload 5, 2, [], 0, 0), (96, none, .ireturn, 1, [], 0, 0)]
def mt_Rs_lookup : mMt := (cd_Rs_lookup, (some .int), 1, 6, [], true)
def cd_Lw_nested : List mEn := [(0, none, .aload 6, 2, [], 0, 0), (2, none, .iconst 0, 1, [], 0, 0), (3, none, .aload_n 0, 1, [], 0, 0), (4, none, .iload_n 1, 1, [], 0, 0), (5, none, .iload_n 2, 1, [], 0, 0), (6, none, .iload_n 3, 1, [], 0, 0), (7, none, .iload 4, 2, [], 0, 0), (9, none, .iload 5, 2, [], 0, 0), (11, none, .invokevirtual 41, 3, [82, 6, 1, 1, 1, 6, 1, 0, 628], 0, 0), (14, none, .ifCond .eq 7, 3, [21], 0, 0), (17, none, .lconst 1, 1, [], 0, 1), (18, none, .goto 4, 3, [22], 0, 0), (21, none, .lconst 0, 1, [], 0, 0), (22, none, .lastore, 1, [], 0, 0), (23, none, .goto 11, 3, [34], 0, 0), (26, none, .astore 7, 2, [], 0, 0), (28, none, .iconst 1, 1, [], 1, 0), (29, none, .ireturn, 1, [], 0, 0), (30, none, .astore 7, 2, [], 0, 0), (32, none, .iconst 2, 1, [], 2, 0), (33, none, .ireturn, 1, [], 0, 0), (34, none, .iconst 0, 1, [], 0, 0), (35, none, .ireturn, 1, [], 0, 0)]
def mt_Lw_nested : mMt := (cd_Lw_nested, (some .int), 1, 6, [(0, 23, 26, 2), (0, 23, 30, 3)], false)
def cd_Rs_nested : List mEn := [(0, none, .aload_n 0, 1, [], 0, 0), (1, none, .aload_n 0, 1, [], 0, 0), (2, none, .getfield 12, 3, [0, 1, 0, 0, 223], 0, 0), (5, none, .iload_n 2, 1, [], 0, 0), (6, none, .iload_n 3, 1, [], 0, 0), (7, none, .invokevirtual 119, 3, [68, 3, 1, 0, 0, 0, 2, 0, 573], 0, 0), (10, none, .ifCond .eq 21, 3, [31], 0, 0), (13, none, .aload_n 0, 1, [], 0, 0), (14, none, .getfield 12, 3, [0, 1, 0, 0, 223], 0, 0), (17, none, .iload 4, 2, [], 0, 0), (19, none, .iload 5, 2, [], 0, 0), (21, none, .invokevirtual 119, 3, [68, 3, 1, 0, 0, 0, 2, 0, 573], 0, 0), (24, none, .ifCond .eq 7, 3, [31], 0, 0), (27, none, .iconst 1, 1, [], 1, 0), (28, none, .goto 4, 3, [32], 0, 0), (31, none, .iconst 0, 1, [], 0, 0), (32, none, .iload_n 1, 1, [], 0, 0), (33, none, .invokevirtual 107, 3, [55, 3, 0, 1, 1, 6, 1, 0, 523], 0, 0), (36, none, .aload_n 0, 1, [], 0, 0), (37, none, .iload_n 1, 1, [], 0, 0), (38, none, .invokevirtual 111, 3, [56, 2, 16, 0, 0, 0, 1, 0, 527], 0, 0), (41, none, .iload_n 2, 1, [], 0, 0), (42, none, .iload_n 3, 1, [], 0, 0), (43, none, .invokestatic 126, 3, [62, 2, 1, 0, 0, 0, 0, 0, 578], 0, 0), (46, none, .iload 4, 2, [], 0, 0), (48, none, .iload 5, 2, [], 0, 0), (50, none, .invokestatic 126, 3, [62, 2, 1, 0, 0, 0, 0, 0, 578], 0, 0), (53, none, .invokevirtual 140, 3, [83, 3, 1, 0, 0, 0, 6, 0, 632], 0, 0), (56, none, .ireturn, 1, [], 0, 0)]
def mt_Rs_nested : mMt := (cd_Rs_nested, (some .boolean), 1, 6, [], true)
def cd_Vs_leads : List mEn := [(0, none, .lconst 0, 1, [], 0, 0), (1, none, .lstore_n 3, 1, [], 0, 0), (2, none, .aload_n 0, 1, [], 0, 0), (3, none, .getfield 15, 3, [5, 1, 0, 0, 206], 0, 0), (6, none, .iload_n 1, 1, [], 0, 0), (7, none, .laload, 1, [], 0, 0), (8, none, .bipush 20, 2, [], 20, 0), (10, none, .lushr, 1, [], 0, 0), (11, none, .lstore 5, 2, [], 0, 0), (13, none, .iconst 0, 1, [], 0, 0), (14, none, .istore 7, 2, [], 0, 0), (16, some [0, 1, 2, 3, 5, 7], .iload 7, 2, [], 0, 0), (18, none, .bipush 36, 2, [], 36, 0), (20, none, .if_icmp .ge 61, 3, [81], 0, 0), (23, none, .lload 5, 2, [], 0, 0), (25, none, .lload_n 3, 1, [], 0, 0), (26, none, .lcmp, 1, [], 0, 0), (27, none, .ifCond .eq 54, 3, [81], 0, 0), (30, none, .lload 5, 2, [], 0, 0), (32, none, .lstore_n 3, 1, [], 0, 0), (33, none, .iconst 0, 1, [], 0, 0), (34, none, .istore 8, 2, [], 0, 0), (36, some [0, 1, 2, 3, 5, 7, 8], .iload 8, 2, [], 0, 0), (38, none, .bipush 36, 2, [], 36, 0), (40, none, .if_icmp .ge 35, 3, [75], 0, 0), (43, none, .lload_n 3, 1, [], 0, 0), (44, none, .iload 8, 2, [], 0, 0), (46, none, .lushr, 1, [], 0, 0), (47, none, .lconst 1, 1, [], 0, 1), (48, none, .land, 1, [], 0, 0), (49, none, .lconst 0, 1, [], 0, 0), (50, none, .lcmp, 1, [], 0, 0), (51, none, .ifCond .eq 18, 3, [69], 0, 0), (54, none, .lload 5, 2, [], 0, 0), (56, none, .aload_n 0, 1, [], 0, 0), (57, none, .getfield 15, 3, [5, 1, 0, 0, 206], 0, 0), (60, none, .iload 8, 2, [], 0, 0), (62, none, .laload, 1, [], 0, 0), (63, none, .bipush 20, 2, [], 20, 0), (65, none, .lushr, 1, [], 0, 0), (66, none, .lor, 1, [], 0, 0), (67, none, .lstore 5, 2, [], 0, 0), (69, none, .iinc 8 1, 3, [], 1, 0), (72, none, .goto (-36), 3, [36], 0, 0), (75, none, .iinc 7 1, 3, [], 1, 0), (78, none, .goto (-62), 3, [16], 0, 0), (81, none, .lload 5, 2, [], 0, 0), (83, none, .iload_n 2, 1, [], 0, 0), (84, none, .lushr, 1, [], 0, 0), (85, none, .lconst 1, 1, [], 0, 1), (86, none, .land, 1, [], 0, 0), (87, none, .lconst 0, 1, [], 0, 0), (88, none, .lcmp, 1, [], 0, 0), (89, none, .ifCond .eq 7, 3, [96], 0, 0), (92, none, .iconst 1, 1, [], 1, 0), (93, none, .goto 4, 3, [97], 0, 0), (96, none, .iconst 0, 1, [], 0, 0), (97, none, .ireturn, 1, [], 0, 0)]
def mt_Vs_leads : mMt := (cd_Vs_leads, (some .boolean), 0, 0, [], false)
def cd_Lw_watch : List mEn := [(0, none, .aload_n 2, 1, [], 0, 0), (1, none, .iconst 0, 1, [], 0, 0), (2, none, .aload_n 0, 1, [], 0, 0), (3, none, .iload_n 1, 1, [], 0, 0), (4, none, .invokevirtual 45, 3, [85, 2, 1, 1, 1, 6, 1, 0, 639], 0, 0), (7, none, .i2l, 1, [], 0, 0), (8, none, .lastore, 1, [], 0, 0), (9, none, .goto 9, 3, [18], 0, 0), (12, none, .astore_n 3, 1, [], 0, 0), (13, none, .iconst 1, 1, [], 1, 0), (14, none, .ireturn, 1, [], 0, 0), (15, none, .astore_n 3, 1, [], 0, 0), (16, none, .iconst 2, 1, [], 2, 0), (17, none, .ireturn, 1, [], 0, 0), (18, none, .iconst 0, 1, [], 0, 0), (19, none, .ireturn, 1, [], 0, 0)]
def mt_Lw_watch : mMt := (cd_Lw_watch, (some .int), 1, 6, [(0, 9, 12, 2), (0, 9, 15, 3)], false)
def cd_Rs_watch : List mEn := [(0, none, .aload_n 0, 1, [], 0, 0), (1, none, .iconst 1, 1, [], 1, 0), (2, none, .iload_n 1, 1, [], 0, 0), (3, none, .invokevirtual 107, 3, [55, 3, 0, 1, 1, 6, 1, 0, 523], 0, 0), (6, none, .aload_n 0, 1, [], 0, 0), (7, none, .getfield 23, 3, [0, 4, 0, 0, 226], 0, 0), (10, none, .iload_n 1, 1, [], 0, 0), (11, none, .invokevirtual 143, 3, [86, 2, 1, 0, 0, 0, 3, 0, 643], 0, 0), (14, none, .ireturn, 1, [], 0, 0)]
def mt_Rs_watch : mMt := (cd_Rs_watch, (some .int), 1, 6, [], true)
def cd_Lg_changesSince : List mEn := [(0, none, .aload_n 0, 1, [], 0, 0), (1, none, .getfield 15, 3, [2, 1, 0, 0, 186], 0, 0), (4, none, .aload_n 0, 1, [], 0, 0), (5, none, .iload_n 1, 1, [], 0, 0), (6, none, .invokevirtual 26, 3, [59, 2, 1, 0, 0, 0, 3, 0, 647], 0, 0), (9, none, .isub, 1, [], 0, 0), (10, none, .aload_n 0, 1, [], 0, 0), (11, none, .getfield 23, 3, [2, 2, 0, 0, 188], 0, 0), (14, none, .iload_n 1, 1, [], 0, 0), (15, none, .isub, 1, [], 0, 0), (16, none, .isub, 1, [], 0, 0), (17, none, .ireturn, 1, [], 0, 0)]
def mt_Lg_changesSince : mMt := (cd_Lg_changesSince, (some .int), 0, 0, [], false)
def cd_Lw_watched : List mEn := [(0, none, .aload 4, 2, [], 0, 0), (2, none, .iconst 0, 1, [], 0, 0), (3, none, .aload_n 0, 1, [], 0, 0), (4, none, .iload_n 1, 1, [], 0, 0), (5, none, .iload_n 2, 1, [], 0, 0), (6, none, .iload_n 3, 1, [], 0, 0), (7, none, .invokevirtual 48, 3, [88, 4, 1, 1, 1, 6, 1, 0, 651], 0, 0), (10, none, .i2l, 1, [], 0, 0), (11, none, .lastore, 1, [], 0, 0), (12, none, .goto 11, 3, [23], 0, 0), (15, none, .astore 5, 2, [], 0, 0), (17, none, .iconst 1, 1, [], 1, 0), (18, none, .ireturn, 1, [], 0, 0), (19, none, .astore 5, 2, [], 0, 0), (21, none, .iconst 2, 1, [], 2, 0), (22, none, .ireturn, 1, [], 0, 0), (23, none, .iconst 0, 1, [], 0, 0), (24, none, .ireturn, 1, [], 0, 0)]
def mt_Lw_watched : mMt := (cd_Lw_watched, (some .int), 1, 6, [(0, 12, 15, 2), (0, 12, 19, 3)], false)
def cd_Rs_watched : List mEn := [(0, none, .aload_n 0, 1, [], 0, 0), (1, none, .iconst 1, 1, [], 1, 0), (2, none, .iload_n 1, 1, [], 0, 0), (3, none, .invokevirtual 107, 3, [55, 3, 0, 1, 1, 6, 1, 0, 523], 0, 0), (6, none, .iload_n 2, 1, [], 0, 0), (7, none, .ifCond .lt 25, 3, [32], 0, 0), (10, none, .iload_n 2, 1, [], 0, 0), (11, none, .aload_n 0, 1, [], 0, 0), (12, none, .getfield 23, 3, [0, 4, 0, 0, 226], 0, 0), (15, none, .iload_n 1, 1, [], 0, 0), (16, none, .invokevirtual 143, 3, [86, 2, 1, 0, 0, 0, 3, 0, 643], 0, 0), (19, none, .if_icmp .ge 13, 3, [32], 0, 0), (22, none, .iload_n 3, 1, [], 0, 0), (23, none, .ifCond .lt 9, 3, [32], 0, 0), (26, none, .iload_n 3, 1, [], 0, 0), (27, none, .bipush 6, 2, [], 6, 0), (29, none, .if_icmp .le 5, 3, [34], 0, 0), (32, none, .iconst (-1), 1, [], (-1), 0), (33, none, .ireturn, 1, [], 0, 0), (34, none, .aload_n 0, 1, [], 0, 0), (35, none, .getfield 23, 3, [0, 4, 0, 0, 226], 0, 0), (38, none, .iload_n 1, 1, [], 0, 0), (39, none, .iload_n 2, 1, [], 0, 0), (40, none, .invokevirtual 147, 3, [89, 3, 1, 0, 0, 0, 3, 0, 655], 0, 0), (43, none, .istore 4, 2, [], 0, 0), (45, none, .iload_n 3, 1, [], 0, 0), (46, none, .bipush 6, 2, [], 6, 0), (48, none, .if_icmp .ne 17, 3, [65], 0, 0), (51, none, .aload_n 0, 1, [], 0, 0), (52, none, .getfield 23, 3, [0, 4, 0, 0, 226], 0, 0), (55, none, .iload 4, 2, [], 0, 0), (57, none, .invokevirtual 150, 3, [90, 2, 1, 0, 0, 0, 3, 0, 659], 0, 0), (60, none, .iconst 1, 1, [], 1, 0), (61, none, .iadd, 1, [], 0, 0), (62, none, .goto 17, 3, [79], 0, 0), (65, none, .aload_n 0, 1, [], 0, 0), (66, none, .getfield 23, 3, [0, 4, 0, 0, 226], 0, 0), (69, none, .getfield 153, 3, [2, 0, 1, 0, 185], 0, 0), (72, none, .iload 4, 2, [], 0, 0), (74, none, .iaload, 1, [], 0, 0), (75, none, .iload_n 3, 1, [], 0, 0), (76, none, .invokestatic 156, 3, [61, 2, 1, 0, 0, 0, 0, 0, 663], 0, 0), (79, none, .ireturn, 1, [], 0, 0)]
def mt_Rs_watched : mMt := (cd_Rs_watched, (some .int), 1, 6, [], true)
def cd_Lg_placeOf : List mEn := [(0, none, .iload_n 2, 1, [], 0, 0), (1, none, .istore_n 3, 1, [], 0, 0), (2, none, .aload_n 0, 1, [], 0, 0), (3, none, .iload_n 1, 1, [], 0, 0), (4, none, .invokevirtual 26, 3, [59, 2, 1, 0, 0, 0, 3, 0, 647], 0, 0), (7, none, .istore 4, 2, [], 0, 0), (9, some [0, 1, 2, 3, 4], .iload 4, 2, [], 0, 0), (11, none, .aload_n 0, 1, [], 0, 0), (12, none, .getfield 15, 3, [2, 1, 0, 0, 186], 0, 0), (15, none, .iconst 1, 1, [], 1, 0), (16, none, .isub, 1, [], 0, 0), (17, none, .if_icmp .ge 38, 3, [55], 0, 0), (20, none, .iload_n 3, 1, [], 0, 0), (21, none, .ifCond .gt 14, 3, [35], 0, 0), (24, none, .aload_n 0, 1, [], 0, 0), (25, none, .getfield 9, 3, [2, 0, 0, 0, 183], 0, 0), (28, none, .iload 4, 2, [], 0, 0), (30, none, .iaload, 1, [], 0, 0), (31, none, .iconst (-1), 1, [], (-1), 0), (32, none, .if_icmp .ne 23, 3, [55], 0, 0), (35, none, .aload_n 0, 1, [], 0, 0), (36, none, .getfield 9, 3, [2, 0, 0, 0, 183], 0, 0), (39, none, .iload 4, 2, [], 0, 0), (41, none, .iaload, 1, [], 0, 0), (42, none, .iconst (-1), 1, [], (-1), 0), (43, none, .if_icmp .eq 6, 3, [49], 0, 0), (46, none, .iinc 3 (-1), 3, [], (-1), 0), (49, none, .iinc 4 1, 3, [], 1, 0), (52, none, .goto (-43), 3, [9], 0, 0), (55, none, .iload 4, 2, [], 0, 0), (57, none, .ireturn, 1, [], 0, 0)]
def mt_Lg_placeOf : mMt := (cd_Lg_placeOf, (some .int), 0, 0, [], false)
def cd_Lg_marksBefore : List mEn := [(0, none, .iconst 0, 1, [], 0, 0), (1, none, .istore_n 2, 1, [], 0, 0), (2, none, .iconst 0, 1, [], 0, 0), (3, none, .istore_n 3, 1, [], 0, 0), (4, some [0, 1, 2, 3], .iload_n 3, 1, [], 0, 0), (5, none, .iload_n 1, 1, [], 0, 0), (6, none, .if_icmp .ge 22, 3, [28], 0, 0), (9, none, .aload_n 0, 1, [], 0, 0), (10, none, .getfield 9, 3, [2, 0, 0, 0, 183], 0, 0), (13, none, .iload_n 3, 1, [], 0, 0), (14, none, .iaload, 1, [], 0, 0), (15, none, .iconst (-1), 1, [], (-1), 0), (16, none, .if_icmp .ne 6, 3, [22], 0, 0), (19, none, .iinc 2 1, 3, [], 1, 0), (22, none, .iinc 3 1, 3, [], 1, 0), (25, none, .goto (-21), 3, [4], 0, 0), (28, none, .iload_n 2, 1, [], 0, 0), (29, none, .ireturn, 1, [], 0, 0)]
def mt_Lg_marksBefore : mMt := (cd_Lg_marksBefore, (some .int), 0, 0, [], false)
def cd_Md_init : List mEn := [(0, none, .aload_n 0, 1, [], 0, 0), (1, none, .invokespecial 1, 3, [], 0, 0), (4, none, .aload_n 0, 1, [], 0, 0), (5, none, .bipush 9, 2, [], 9, 0), (7, none, .newarray .int, 2, [], 0, 0), (9, none, .putfield 7, 3, [6, 4, 0, 0, 674], 0, 0), (12, none, .aload_n 0, 1, [], 0, 0), (13, none, .bipush 9, 2, [], 9, 0), (15, none, .newarray .boolean, 2, [], 0, 0), (17, none, .putfield 13, 3, [6, 5, 0, 0, 675], 0, 0), (20, none, .aload_n 0, 1, [], 0, 0), (21, none, .bipush 9, 2, [], 9, 0), (23, none, .newarray .int, 2, [], 0, 0), (25, none, .putfield 17, 3, [6, 6, 0, 0, 676], 0, 0), (28, none, .aload_n 0, 1, [], 0, 0), (29, none, .bipush 9, 2, [], 9, 0), (31, none, .newarray .int, 2, [], 0, 0), (33, none, .putfield 20, 3, [6, 7, 0, 0, 677], 0, 0), (36, none, .aload_n 0, 1, [], 0, 0), (37, none, .sipush 216, 3, [], 216, 0), (40, none, .newarray .int, 2, [], 0, 0), (42, none, .putfield 23, 3, [6, 8, 0, 0, 678], 0, 0), (45, none, .aload_n 0, 1, [], 0, 0), (46, none, .bipush 9, 2, [], 9, 0), (48, none, .newarray .int, 2, [], 0, 0), (50, none, .putfield 26, 3, [6, 9, 0, 0, 679], 0, 0), (53, none, .aload_n 0, 1, [], 0, 0), (54, none, .bipush 81, 2, [], 81, 0), (56, none, .newarray .boolean, 2, [], 0, 0), (58, none, .putfield 29, 3, [6, 10, 0, 0, 680], 0, 0), (61, none, .aload_n 0, 1, [], 0, 0), (62, none, .bipush 81, 2, [], 81, 0), (64, none, .newarray .boolean, 2, [], 0, 0), (66, none, .putfield 32, 3, [6, 11, 0, 0, 681], 0, 0), (69, none, .aload_n 0, 1, [], 0, 0), (70, none, .bipush 81, 2, [], 81, 0), (72, none, .newarray .boolean, 2, [], 0, 0), (74, none, .putfield 35, 3, [6, 12, 0, 0, 682], 0, 0), (77, none, .aload_n 0, 1, [], 0, 0), (78, none, .bipush 9, 2, [], 9, 0), (80, none, .newarray .int, 2, [], 0, 0), (82, none, .putfield 38, 3, [6, 13, 0, 0, 683], 0, 0), (85, none, .aload_n 0, 1, [], 0, 0), (86, none, .sipush 720, 3, [], 720, 0), (89, none, .newarray .int, 2, [], 0, 0), (91, none, .putfield 41, 3, [6, 15, 0, 0, 685], 0, 0), (94, none, .aload_n 0, 1, [], 0, 0), (95, none, .bipush 120, 2, [], 120, 0), (97, none, .newarray .int, 2, [], 0, 0), (99, none, .putfield 44, 3, [6, 16, 0, 0, 686], 0, 0), (102, none, .aload_n 0, 1, [], 0, 0), (103, none, .bipush 30, 2, [], 30, 0), (105, none, .newarray .int, 2, [], 0, 0), (107, none, .putfield 47, 3, [6, 20, 0, 0, 690], 0, 0), (110, none, .aload_n 0, 1, [], 0, 0), (111, none, .bipush 120, 2, [], 120, 0), (113, none, .newarray .int, 2, [], 0, 0), (115, none, .putfield 50, 3, [6, 22, 0, 0, 692], 0, 0), (118, none, .aload_n 0, 1, [], 0, 0), (119, none, .bipush 108, 2, [], 108, 0), (121, none, .newarray .int, 2, [], 0, 0), (123, none, .putfield 53, 3, [6, 23, 0, 0, 693], 0, 0), (126, none, .aload_n 0, 1, [], 0, 0), (127, none, .bipush 7, 2, [], 7, 0), (129, none, .newarray .int, 2, [], 0, 0), (131, none, .putfield 56, 3, [6, 24, 0, 0, 694], 0, 0), (134, none, .aload_n 0, 1, [], 0, 0), (135, none, .bipush 7, 2, [], 7, 0), (137, none, .newarray .int, 2, [], 0, 0), (139, none, .putfield 59, 3, [6, 25, 0, 0, 695], 0, 0), (142, none, .aload_n 0, 1, [], 0, 0), (143, none, .bipush 7, 2, [], 7, 0), (145, none, .newarray .boolean, 2, [], 0, 0), (147, none, .putfield 62, 3, [6, 26, 0, 0, 696], 0, 0), (150, none, .aload_n 0, 1, [], 0, 0), (151, none, .bipush 108, 2, [], 108, 0), (153, none, .newarray .boolean, 2, [], 0, 0), (155, none, .putfield 65, 3, [6, 27, 0, 0, 697], 0, 0), (158, none, .aload_n 0, 1, [], 0, 0), (159, none, .iconst 1, 1, [], 1, 0), (160, none, .iload_n 1, 1, [], 0, 0), (161, none, .bipush 7, 2, [], 7, 0), (163, none, .iand, 1, [], 0, 0), (164, none, .iadd, 1, [], 0, 0), (165, none, .putfield 68, 3, [6, 0, 0, 0, 670], 0, 0), (168, none, .return_, 1, [], 0, 0)]
def mt_Md_init : mMt := (cd_Md_init, none, 19, 1740, [], false)
def cd_Md_thrown : List mEn := [(0, none, .aload_n 0, 1, [], 0, 0), (1, none, .getfield 72, 3, [6, 1, 0, 0, 671], 0, 0), (4, none, .ireturn, 1, [], 0, 0)]
def mt_Md_thrown : mMt := (cd_Md_thrown, (some .int), 0, 0, [], false)
def cd_Md_relation : List mEn := [(0, none, .aload_n 0, 1, [], 0, 0), (1, none, .iconst 0, 1, [], 0, 0), (2, none, .putfield 72, 3, [6, 1, 0, 0, 671], 0, 0), (5, none, .aload_n 0, 1, [], 0, 0), (6, none, .getfield 82, 3, [6, 3, 0, 1, 673], 0, 0), (9, none, .ifCond .ne 21, 3, [30], 0, 0), (12, none, .aload_n 0, 1, [], 0, 0), (13, none, .getfield 75, 3, [6, 2, 0, 0, 672], 0, 0), (16, none, .bipush 9, 2, [], 9, 0), (18, none, .if_icmp .eq 12, 3, [30], 0, 0), (21, none, .iload_n 1, 1, [], 0, 0), (22, none, .ifCond .lt 8, 3, [30], 0, 0), (25, none, .iload_n 1, 1, [], 0, 0), (26, none, .iconst 2, 1, [], 2, 0), (27, none, .if_icmp .le 5, 3, [32], 0, 0), (30, none, .iconst (-1), 1, [], (-1), 0), (31, none, .ireturn, 1, [], 0, 0), (32, none, .aload_n 0, 1, [], 0, 0), (33, none, .getfield 7, 3, [6, 4, 0, 0, 674], 0, 0), (36, none, .aload_n 0, 1, [], 0, 0), (37, none, .getfield 75, 3, [6, 2, 0, 0, 672], 0, 0), (40, none, .iload_n 1, 1, [], 0, 0), (41, none, .iastore, 1, [], 0, 0), (42, none, .aload_n 0, 1, [], 0, 0), (43, none, .getfield 13, 3, [6, 5, 0, 0, 675], 0, 0), (46, none, .aload_n 0, 1, [], 0, 0), (47, none, .getfield 75, 3, [6, 2, 0, 0, 672], 0, 0), (50, none, .iload_n 2, 1, [], 0, 0), (51, none, .bastore, 1, [], 0, 0), (52, none, .aload_n 0, 1, [], 0, 0), (53, none, .getfield 17, 3, [6, 6, 0, 0, 676], 0, 0), (56, none, .aload_n 0, 1, [], 0, 0), (57, none, .getfield 75, 3, [6, 2, 0, 0, 672], 0, 0), (60, none, .iload_n 3, 1, [], 0, 0), (61, none, .iastore, 1, [], 0, 0), (62, none, .aload_n 0, 1, [], 0, 0), (63, none, .getfield 20, 3, [6, 7, 0, 0, 677], 0, 0), (66, none, .aload_n 0, 1, [], 0, 0), (67, none, .getfield 75, 3, [6, 2, 0, 0, 672], 0, 0), (70, none, .iload 4, 2, [], 0, 0), (72, none, .iastore, 1, [], 0, 0), (73, none, .aload_n 0, 1, [], 0, 0), (74, none, .getfield 26, 3, [6, 9, 0, 0, 679], 0, 0), (77, none, .aload_n 0, 1, [], 0, 0), (78, none, .getfield 75, 3, [6, 2, 0, 0, 672], 0, 0), (81, none, .iconst 0, 1, [], 0, 0), (82, none, .iastore, 1, [], 0, 0), (83, none, .aload_n 0, 1, [], 0, 0), (84, none, .dup, 1, [], 0, 0), (85, none, .getfield 75, 3, [6, 2, 0, 0, 672], 0, 0), (88, none, .iconst 1, 1, [], 1, 0), (89, none, .iadd, 1, [], 0, 0), (90, none, .putfield 75, 3, [6, 2, 0, 0, 672], 0, 0), (93, none, .aload_n 0, 1, [], 0, 0), (94, none, .getfield 75, 3, [6, 2, 0, 0, 672], 0, 0), (97, none, .iconst 1, 1, [], 1, 0), (98, none, .isub, 1, [], 0, 0), (99, none, .ireturn, 1, [], 0, 0)]
def mt_Md_relation : mMt := (cd_Md_relation, (some .int), 0, 0, [], false)
def cd_Md_type : List mEn := [(0, none, .aload_n 0, 1, [], 0, 0), (1, none, .iconst 0, 1, [], 0, 0), (2, none, .putfield 72, 3, [6, 1, 0, 0, 671], 0, 0), (5, none, .aload_n 0, 1, [], 0, 0), (6, none, .getfield 75, 3, [6, 2, 0, 0, 672], 0, 0), (9, none, .iconst 1, 1, [], 1, 0), (10, none, .isub, 1, [], 0, 0), (11, none, .istore_n 2, 1, [], 0, 0), (12, none, .iload_n 2, 1, [], 0, 0), (13, none, .ifCond .lt 21, 3, [34], 0, 0), (16, none, .aload_n 0, 1, [], 0, 0), (17, none, .getfield 82, 3, [6, 3, 0, 1, 673], 0, 0), (20, none, .ifCond .ne 14, 3, [34], 0, 0), (23, none, .aload_n 0, 1, [], 0, 0), (24, none, .getfield 26, 3, [6, 9, 0, 0, 679], 0, 0), (27, none, .iload_n 2, 1, [], 0, 0), (28, none, .iaload, 1, [], 0, 0), (29, none, .bipush 24, 2, [], 24, 0), (31, none, .if_icmp .ne 5, 3, [36], 0, 0), (34, none, .iconst 0, 1, [], 0, 0), (35, none, .ireturn, 1, [], 0, 0), (36, none, .aload_n 0, 1, [], 0, 0), (37, none, .getfield 23, 3, [6, 8, 0, 0, 678], 0, 0), (40, none, .bipush 24, 2, [], 24, 0), (42, none, .iload_n 2, 1, [], 0, 0), (43, none, .imul, 1, [], 0, 0), (44, none, .aload_n 0, 1, [], 0, 0), (45, none, .getfield 26, 3, [6, 9, 0, 0, 679], 0, 0), (48, none, .iload_n 2, 1, [], 0, 0), (49, none, .iaload, 1, [], 0, 0), (50, none, .iadd, 1, [], 0, 0), (51, none, .iload_n 1, 1, [], 0, 0), (52, none, .iastore, 1, [], 0, 0), (53, none, .aload_n 0, 1, [], 0, 0), (54, none, .getfield 26, 3, [6, 9, 0, 0, 679], 0, 0), (57, none, .iload_n 2, 1, [], 0, 0), (58, none, .dup2, 1, [], 0, 0), (59, none, .iaload, 1, [], 0, 0), (60, none, .iconst 1, 1, [], 1, 0), (61, none, .iadd, 1, [], 0, 0), (62, none, .iastore, 1, [], 0, 0), (63, none, .iconst 1, 1, [], 1, 0), (64, none, .ireturn, 1, [], 0, 0)]
def mt_Md_type : mMt := (cd_Md_type, (some .boolean), 0, 0, [], false)
def cd_Md_sound : List mEn := [(0, none, .aload_n 0, 1, [], 0, 0), (1, none, .iconst 0, 1, [], 0, 0), (2, none, .putfield 72, 3, [6, 1, 0, 0, 671], 0, 0), (5, none, .aload_n 0, 1, [], 0, 0), (6, none, .iload_n 1, 1, [], 0, 0), (7, none, .invokevirtual 78, 3, [96, 2, 1, 0, 0, 0, 7, 0, 772], 0, 0), (10, none, .ifCond .eq 15, 3, [25], 0, 0), (13, none, .aload_n 0, 1, [], 0, 0), (14, none, .iload_n 1, 1, [], 0, 0), (15, none, .invokevirtual 99, 3, [97, 2, 1, 0, 0, 0, 7, 0, 776], 0, 0), (18, none, .ifCond .eq 7, 3, [25], 0, 0), (21, none, .iconst 1, 1, [], 1, 0), (22, none, .goto 4, 3, [26], 0, 0), (25, none, .iconst 0, 1, [], 0, 0), (26, none, .ireturn, 1, [], 0, 0)]
def mt_Md_sound : mMt := (cd_Md_sound, (some .boolean), 0, 0, [], false)
def cd_Md_isRelation : List mEn := [(0, none, .iload_n 1, 1, [], 0, 0), (1, none, .ifCond .lt 15, 3, [16], 0, 0), (4, none, .iload_n 1, 1, [], 0, 0), (5, none, .aload_n 0, 1, [], 0, 0), (6, none, .getfield 75, 3, [6, 2, 0, 0, 672], 0, 0), (9, none, .if_icmp .ge 7, 3, [16], 0, 0), (12, none, .iconst 1, 1, [], 1, 0), (13, none, .goto 4, 3, [17], 0, 0), (16, none, .iconst 0, 1, [], 0, 0), (17, none, .ireturn, 1, [], 0, 0)]
def mt_Md_isRelation : mMt := (cd_Md_isRelation, (some .boolean), 0, 0, [], false)
def cd_Md_isRule : List mEn := [(0, none, .aload_n 0, 1, [], 0, 0), (1, none, .getfield 26, 3, [6, 9, 0, 0, 679], 0, 0), (4, none, .iload_n 1, 1, [], 0, 0), (5, none, .iaload, 1, [], 0, 0), (6, none, .ifCond .ne 5, 3, [11], 0, 0), (9, none, .iconst 1, 1, [], 1, 0), (10, none, .ireturn, 1, [], 0, 0), (11, none, .iconst 0, 1, [], 0, 0), (12, none, .istore_n 2, 1, [], 0, 0), (13, none, .iconst 0, 1, [], 0, 0), (14, none, .istore_n 3, 1, [], 0, 0), (15, none, .iconst 0, 1, [], 0, 0), (16, none, .istore 4, 2, [], 0, 0), (18, some [0, 1, 2, 3, 4], .iload 4, 2, [], 0, 0), (20, none, .aload_n 0, 1, [], 0, 0), (21, none, .getfield 26, 3, [6, 9, 0, 0, 679], 0, 0), (24, none, .iload_n 1, 1, [], 0, 0), (25, none, .iaload, 1, [], 0, 0), (26, none, .if_icmp .ge 122, 3, [148], 0, 0), (29, none, .aload_n 0, 1, [], 0, 0), (30, none, .iload_n 1, 1, [], 0, 0), (31, none, .iload 4, 2, [], 0, 0), (33, none, .invokevirtual 86, 3, [98, 3, 1, 0, 0, 0, 7, 0, 780], 0, 0), (36, none, .istore 5, 2, [], 0, 0), (38, none, .iload_n 3, 1, [], 0, 0), (39, none, .ifCond .ne 13, 3, [52], 0, 0), (42, none, .aload_n 0, 1, [], 0, 0), (43, none, .iload_n 1, 1, [], 0, 0), (44, none, .iload 4, 2, [], 0, 0), (46, none, .invokevirtual 93, 3, [99, 3, 1, 0, 0, 0, 7, 0, 784], 0, 0), (49, none, .goto 4, 3, [53], 0, 0), (52, none, .iconst 0, 1, [], 0, 0), (53, none, .istore 6, 2, [], 0, 0), (55, none, .iload 6, 2, [], 0, 0), (57, none, .ifCond .le 15, 3, [72], 0, 0), (60, none, .iload 4, 2, [], 0, 0), (62, none, .iload 6, 2, [], 0, 0), (64, none, .iadd, 1, [], 0, 0), (65, none, .istore 4, 2, [], 0, 0), (67, none, .iconst 1, 1, [], 1, 0), (68, none, .istore_n 3, 1, [], 0, 0), (69, none, .goto 76, 3, [145], 0, 0), (72, none, .iload_n 3, 1, [], 0, 0), (73, none, .ifCond .ne 24, 3, [97], 0, 0), (76, none, .iload 5, 2, [], 0, 0), (78, none, .bipush 40, 2, [], 40, 0), (80, none, .if_icmp .ne 17, 3, [97], 0, 0), (83, none, .iload_n 2, 1, [], 0, 0), (84, none, .iconst 5, 1, [], 5, 0), (85, none, .if_icmp .ge 12, 3, [97], 0, 0), (88, none, .iinc 2 1, 3, [], 1, 0), (91, none, .iinc 4 1, 3, [], 1, 0), (94, none, .goto 51, 3, [145], 0, 0), (97, none, .iload_n 3, 1, [], 0, 0), (98, none, .iconst 1, 1, [], 1, 0), (99, none, .if_icmp .ne 23, 3, [122], 0, 0), (102, none, .iload 5, 2, [], 0, 0), (104, none, .bipush 41, 2, [], 41, 0), (106, none, .if_icmp .ne 16, 3, [122], 0, 0), (109, none, .iload_n 2, 1, [], 0, 0), (110, none, .ifCond .le 12, 3, [122], 0, 0), (113, none, .iinc 2 (-1), 3, [], (-1), 0), (116, none, .iinc 4 1, 3, [], 1, 0), (119, none, .goto 26, 3, [145], 0, 0), (122, none, .iload_n 3, 1, [], 0, 0), (123, none, .iconst 1, 1, [], 1, 0), (124, none, .if_icmp .ne 19, 3, [143], 0, 0), (127, none, .iload 5, 2, [], 0, 0), (129, none, .invokestatic 96, 3, [101, 1, 1, 0, 0, 0, 0, 0, 792], 0, 0), (132, none, .ifCond .eq 11, 3, [143], 0, 0), (135, none, .iconst 0, 1, [], 0, 0), (136, none, .istore_n 3, 1, [], 0, 0), (137, none, .iinc 4 1, 3, [], 1, 0), (140, none, .goto 5, 3, [145], 0, 0), (143, none, .iconst 0, 1, [], 0, 0), (144, none, .ireturn, 1, [], 0, 0), (145, none, .goto (-127), 3, [18], 0, 0), (148, none, .iload_n 3, 1, [], 0, 0), (149, none, .iconst 1, 1, [], 1, 0), (150, none, .if_icmp .ne 11, 3, [161], 0, 0), (153, none, .iload_n 2, 1, [], 0, 0), (154, none, .ifCond .ne 7, 3, [161], 0, 0), (157, none, .iconst 1, 1, [], 1, 0), (158, none, .goto 4, 3, [162], 0, 0), (161, none, .iconst 0, 1, [], 0, 0), (162, none, .ireturn, 1, [], 0, 0)]
def mt_Md_isRule : mMt := (cd_Md_isRule, (some .boolean), 0, 0, [], false)
def cd_Md_at : List mEn := [(0, none, .iload_n 2, 1, [], 0, 0), (1, none, .aload_n 0, 1, [], 0, 0), (2, none, .getfield 26, 3, [6, 9, 0, 0, 679], 0, 0), (5, none, .iload_n 1, 1, [], 0, 0), (6, none, .iaload, 1, [], 0, 0), (7, none, .if_icmp .ge 17, 3, [24], 0, 0), (10, none, .aload_n 0, 1, [], 0, 0), (11, none, .getfield 23, 3, [6, 8, 0, 0, 678], 0, 0), (14, none, .bipush 24, 2, [], 24, 0), (16, none, .iload_n 1, 1, [], 0, 0), (17, none, .imul, 1, [], 0, 0), (18, none, .iload_n 2, 1, [], 0, 0), (19, none, .iadd, 1, [], 0, 0), (20, none, .iaload, 1, [], 0, 0), (21, none, .goto 4, 3, [25], 0, 0), (24, none, .iconst (-1), 1, [], (-1), 0), (25, none, .ireturn, 1, [], 0, 0)]
def mt_Md_at : mMt := (cd_Md_at, (some .int), 0, 0, [], false)
def cd_Md_partAt : List mEn := [(0, none, .aload_n 0, 1, [], 0, 0), (1, none, .iload_n 1, 1, [], 0, 0), (2, none, .iload_n 2, 1, [], 0, 0), (3, none, .invokevirtual 86, 3, [98, 3, 1, 0, 0, 0, 7, 0, 780], 0, 0), (6, none, .istore_n 3, 1, [], 0, 0), (7, none, .iload_n 3, 1, [], 0, 0), (8, none, .bipush 84, 2, [], 84, 0), (10, none, .if_icmp .ne 5, 3, [15], 0, 0), (13, none, .iconst 1, 1, [], 1, 0), (14, none, .ireturn, 1, [], 0, 0), (15, none, .aload_n 0, 1, [], 0, 0), (16, none, .iload_n 1, 1, [], 0, 0), (17, none, .iload_n 2, 1, [], 0, 0), (18, none, .iconst 1, 1, [], 1, 0), (19, none, .iadd, 1, [], 0, 0), (20, none, .invokevirtual 90, 3, [100, 3, 1, 0, 0, 0, 7, 0, 788], 0, 0), (23, none, .istore 4, 2, [], 0, 0), (25, none, .iload_n 3, 1, [], 0, 0), (26, none, .bipush 99, 2, [], 99, 0), (28, none, .if_icmp .eq 9, 3, [37], 0, 0), (31, none, .iload_n 3, 1, [], 0, 0), (32, none, .bipush 102, 2, [], 102, 0), (34, none, .if_icmp .ne 24, 3, [58], 0, 0), (37, none, .iload 4, 2, [], 0, 0), (39, none, .ifCond .lt 19, 3, [58], 0, 0), (42, none, .aload_n 0, 1, [], 0, 0), (43, none, .getfield 7, 3, [6, 4, 0, 0, 674], 0, 0), (46, none, .iload 4, 2, [], 0, 0), (48, none, .iaload, 1, [], 0, 0), (49, none, .aload_n 0, 1, [], 0, 0), (50, none, .getfield 7, 3, [6, 4, 0, 0, 674], 0, 0), (53, none, .iload_n 1, 1, [], 0, 0), (54, none, .iaload, 1, [], 0, 0), (55, none, .if_icmp .eq 5, 3, [60], 0, 0), (58, none, .iconst 0, 1, [], 0, 0), (59, none, .ireturn, 1, [], 0, 0), (60, none, .iload_n 3, 1, [], 0, 0), (61, none, .bipush 99, 2, [], 99, 0), (63, none, .if_icmp .ne 5, 3, [68], 0, 0), (66, none, .iconst 2, 1, [], 2, 0), (67, none, .ireturn, 1, [], 0, 0), (68, none, .aload_n 0, 1, [], 0, 0), (69, none, .iload_n 1, 1, [], 0, 0), (70, none, .iload_n 2, 1, [], 0, 0), (71, none, .iconst 2, 1, [], 2, 0), (72, none, .iadd, 1, [], 0, 0), (73, none, .invokevirtual 90, 3, [100, 3, 1, 0, 0, 0, 7, 0, 788], 0, 0), (76, none, .ifCond .ge 7, 3, [83], 0, 0), (79, none, .iconst 0, 1, [], 0, 0), (80, none, .goto 4, 3, [84], 0, 0), (83, none, .iconst 3, 1, [], 3, 0), (84, none, .ireturn, 1, [], 0, 0)]
def mt_Md_partAt : mMt := (cd_Md_partAt, (some .int), 0, 0, [], false)
def cd_Md_named : List mEn := [(0, none, .aload_n 0, 1, [], 0, 0), (1, none, .iload_n 1, 1, [], 0, 0), (2, none, .iload_n 2, 1, [], 0, 0), (3, none, .invokevirtual 86, 3, [98, 3, 1, 0, 0, 0, 7, 0, 780], 0, 0), (6, none, .bipush 48, 2, [], 48, 0), (8, none, .isub, 1, [], 0, 0), (9, none, .istore_n 3, 1, [], 0, 0), (10, none, .aload_n 0, 1, [], 0, 0), (11, none, .iload_n 3, 1, [], 0, 0), (12, none, .invokevirtual 78, 3, [96, 2, 1, 0, 0, 0, 7, 0, 772], 0, 0), (15, none, .ifCond .eq 7, 3, [22], 0, 0), (18, none, .iload_n 3, 1, [], 0, 0), (19, none, .goto 4, 3, [23], 0, 0), (22, none, .iconst (-1), 1, [], (-1), 0), (23, none, .ireturn, 1, [], 0, 0)]
def mt_Md_named : mMt := (cd_Md_named, (some .int), 0, 0, [], false)
def cd_Md_isSign : List mEn := [(0, none, .iload_n 0, 1, [], 0, 0), (1, none, .bipush 38, 2, [], 38, 0), (3, none, .if_icmp .eq 15, 3, [18], 0, 0), (6, none, .iload_n 0, 1, [], 0, 0), (7, none, .bipush 124, 2, [], 124, 0), (9, none, .if_icmp .eq 9, 3, [18], 0, 0), (12, none, .iload_n 0, 1, [], 0, 0), (13, none, .bipush 45, 2, [], 45, 0), (15, none, .if_icmp .ne 7, 3, [22], 0, 0), (18, none, .iconst 1, 1, [], 1, 0), (19, none, .goto 4, 3, [23], 0, 0), (22, none, .iconst 0, 1, [], 0, 0), (23, none, .ireturn, 1, [], 0, 0)]
def mt_Md_isSign : mMt := (cd_Md_isSign, (some .boolean), 0, 0, [], false)
def cd_Md_accept : List mEn := [(0, none, .aload_n 0, 1, [], 0, 0), (1, none, .iconst 0, 1, [], 0, 0), (2, none, .putfield 72, 3, [6, 1, 0, 0, 671], 0, 0), (5, none, .aload_n 0, 1, [], 0, 0), (6, none, .getfield 82, 3, [6, 3, 0, 1, 673], 0, 0), (9, none, .ifCond .ne 10, 3, [19], 0, 0), (12, none, .aload_n 0, 1, [], 0, 0), (13, none, .getfield 75, 3, [6, 2, 0, 0, 672], 0, 0), (16, none, .ifCond .ne 10, 3, [26], 0, 0), (19, none, .aload_n 0, 1, [], 0, 0), (20, none, .iconst 1, 1, [], 1, 0), (21, none, .putfield 72, 3, [6, 1, 0, 0, 671], 0, 0), (24, none, .iconst 0, 1, [], 0, 0), (25, none, .ireturn, 1, [], 0, 0), (26, none, .iconst 0, 1, [], 0, 0), (27, none, .istore_n 1, 1, [], 0, 0), (28, some [0, 1], .iload_n 1, 1, [], 0, 0), (29, none, .aload_n 0, 1, [], 0, 0), (30, none, .getfield 75, 3, [6, 2, 0, 0, 672], 0, 0), (33, none, .if_icmp .ge 24, 3, [57], 0, 0), (36, none, .aload_n 0, 1, [], 0, 0), (37, none, .iload_n 1, 1, [], 0, 0), (38, none, .invokevirtual 99, 3, [97, 2, 1, 0, 0, 0, 7, 0, 776], 0, 0), (41, none, .ifCond .ne 10, 3, [51], 0, 0), (44, none, .aload_n 0, 1, [], 0, 0), (45, none, .iconst 2, 1, [], 2, 0), (46, none, .putfield 72, 3, [6, 1, 0, 0, 671], 0, 0), (49, none, .iconst 0, 1, [], 0, 0), (50, none, .ireturn, 1, [], 0, 0), (51, none, .iinc 1 1, 3, [], 1, 0), (54, none, .goto (-26), 3, [28], 0, 0), (57, none, .iconst 0, 1, [], 0, 0), (58, none, .istore_n 1, 1, [], 0, 0), (59, some [0, 1], .iload_n 1, 1, [], 0, 0), (60, none, .bipush 81, 2, [], 81, 0), (62, none, .if_icmp .ge 23, 3, [85], 0, 0), (65, none, .aload_n 0, 1, [], 0, 0), (66, none, .getfield 29, 3, [6, 10, 0, 0, 680], 0, 0), (69, none, .iload_n 1, 1, [], 0, 0), (70, none, .iconst 0, 1, [], 0, 0), (71, none, .bastore, 1, [], 0, 0), (72, none, .aload_n 0, 1, [], 0, 0), (73, none, .getfield 32, 3, [6, 11, 0, 0, 681], 0, 0), (76, none, .iload_n 1, 1, [], 0, 0), (77, none, .iconst 0, 1, [], 0, 0), (78, none, .bastore, 1, [], 0, 0), (79, none, .iinc 1 1, 3, [], 1, 0), (82, none, .goto (-23), 3, [59], 0, 0), (85, none, .iconst 0, 1, [], 0, 0), (86, none, .istore_n 1, 1, [], 0, 0), (87, some [0, 1], .iload_n 1, 1, [], 0, 0), (88, none, .aload_n 0, 1, [], 0, 0), (89, none, .getfield 75, 3, [6, 2, 0, 0, 672], 0, 0), (92, none, .if_icmp .ge 14, 3, [106], 0, 0), (95, none, .aload_n 0, 1, [], 0, 0), (96, none, .iload_n 1, 1, [], 0, 0), (97, none, .invokevirtual 109, 3, [103, 2, 0, 0, 0, 0, 7, 0, 799], 0, 0), (100, none, .iinc 1 1, 3, [], 1, 0), (103, none, .goto (-16), 3, [87], 0, 0), (106, none, .aload_n 0, 1, [], 0, 0), (107, none, .invokevirtual 113, 3, [106, 1, 0, 0, 0, 0, 7, 0, 811], 0, 0), (110, none, .aload_n 0, 1, [], 0, 0), (111, none, .invokevirtual 116, 3, [107, 1, 1, 0, 0, 0, 7, 0, 815], 0, 0), (114, none, .ifCond .eq 10, 3, [124], 0, 0), (117, none, .aload_n 0, 1, [], 0, 0), (118, none, .iconst 3, 1, [], 3, 0), (119, none, .putfield 72, 3, [6, 1, 0, 0, 671], 0, 0), (122, none, .iconst 0, 1, [], 0, 0), (123, none, .ireturn, 1, [], 0, 0), (124, none, .aload_n 0, 1, [], 0, 0), (125, none, .invokevirtual 120, 3, [108, 1, 0, 0, 0, 0, 7, 0, 819], 0, 0), (128, none, .aload_n 0, 1, [], 0, 0), (129, none, .iconst 1, 1, [], 1, 0), (130, none, .putfield 82, 3, [6, 3, 0, 1, 673], 0, 0), (133, none, .aload_n 0, 1, [], 0, 0), (134, none, .getfield 75, 3, [6, 2, 0, 0, 672], 0, 0), (137, none, .ireturn, 1, [], 0, 0)]
def mt_Md_accept : mMt := (cd_Md_accept, (some .int), 0, 0, [], false)
def cd_Md_findNeeds : List mEn := [(0, none, .aload_n 0, 1, [], 0, 0), (1, none, .getfield 26, 3, [6, 9, 0, 0, 679], 0, 0), (4, none, .iload_n 1, 1, [], 0, 0), (5, none, .iaload, 1, [], 0, 0), (6, none, .ifCond .ne 10, 3, [16], 0, 0), (9, none, .aload_n 0, 1, [], 0, 0), (10, none, .iload_n 1, 1, [], 0, 0), (11, none, .iconst 0, 1, [], 0, 0), (12, none, .iconst 0, 1, [], 0, 0), (13, none, .invokevirtual 106, 3, [104, 4, 0, 0, 0, 0, 7, 0, 803], 0, 0), (16, none, .iconst 0, 1, [], 0, 0), (17, none, .istore_n 2, 1, [], 0, 0), (18, none, .aload_n 0, 1, [], 0, 0), (19, none, .getfield 62, 3, [6, 26, 0, 0, 696], 0, 0), (22, none, .iconst 0, 1, [], 0, 0), (23, none, .iconst 0, 1, [], 0, 0), (24, none, .bastore, 1, [], 0, 0), (25, none, .iconst 0, 1, [], 0, 0), (26, none, .istore_n 3, 1, [], 0, 0), (27, none, .iconst 0, 1, [], 0, 0), (28, none, .istore 4, 2, [], 0, 0), (30, some [0, 1, 2, 3, 4], .iload 4, 2, [], 0, 0), (32, none, .aload_n 0, 1, [], 0, 0), (33, none, .getfield 26, 3, [6, 9, 0, 0, 679], 0, 0), (36, none, .iload_n 1, 1, [], 0, 0), (37, none, .iaload, 1, [], 0, 0), (38, none, .if_icmp .ge 160, 3, [198], 0, 0), (41, none, .aload_n 0, 1, [], 0, 0), (42, none, .iload_n 1, 1, [], 0, 0), (43, none, .iload 4, 2, [], 0, 0), (45, none, .invokevirtual 86, 3, [98, 3, 1, 0, 0, 0, 7, 0, 780], 0, 0), (48, none, .istore 5, 2, [], 0, 0), (50, none, .iload 5, 2, [], 0, 0), (52, none, .invokestatic 96, 3, [101, 1, 1, 0, 0, 0, 0, 0, 792], 0, 0), (55, none, .ifCond .ne 17, 3, [72], 0, 0), (58, none, .iload 5, 2, [], 0, 0), (60, none, .bipush 40, 2, [], 40, 0), (62, none, .if_icmp .eq 10, 3, [72], 0, 0), (65, none, .iload 5, 2, [], 0, 0), (67, none, .bipush 41, 2, [], 41, 0), (69, none, .if_icmp .ne 7, 3, [76], 0, 0), (72, none, .iconst 0, 1, [], 0, 0), (73, none, .goto 10, 3, [83], 0, 0), (76, none, .aload_n 0, 1, [], 0, 0), (77, none, .iload_n 1, 1, [], 0, 0), (78, none, .iload 4, 2, [], 0, 0), (80, none, .invokevirtual 93, 3, [99, 3, 1, 0, 0, 0, 7, 0, 784], 0, 0), (83, none, .istore 6, 2, [], 0, 0), (85, none, .iload 6, 2, [], 0, 0), (87, none, .ifCond .le 38, 3, [125], 0, 0), (90, none, .aload_n 0, 1, [], 0, 0), (91, none, .iload_n 1, 1, [], 0, 0), (92, none, .iload 4, 2, [], 0, 0), (94, none, .aload_n 0, 1, [], 0, 0), (95, none, .getfield 62, 3, [6, 26, 0, 0, 696], 0, 0), (98, none, .iload_n 2, 1, [], 0, 0), (99, none, .baload, 1, [], 0, 0), (100, none, .ifCond .ne 7, 3, [107], 0, 0), (103, none, .iload_n 3, 1, [], 0, 0), (104, none, .ifCond .eq 7, 3, [111], 0, 0), (107, none, .iconst 1, 1, [], 1, 0), (108, none, .goto 4, 3, [112], 0, 0), (111, none, .iconst 0, 1, [], 0, 0), (112, none, .invokevirtual 106, 3, [104, 4, 0, 0, 0, 0, 7, 0, 803], 0, 0), (115, none, .iload 4, 2, [], 0, 0), (117, none, .iload 6, 2, [], 0, 0), (119, none, .iadd, 1, [], 0, 0), (120, none, .istore 4, 2, [], 0, 0), (122, none, .goto (-92), 3, [30], 0, 0), (125, none, .iload 5, 2, [], 0, 0), (127, none, .bipush 40, 2, [], 40, 0), (129, none, .if_icmp .ne 37, 3, [166], 0, 0), (132, none, .aload_n 0, 1, [], 0, 0), (133, none, .getfield 62, 3, [6, 26, 0, 0, 696], 0, 0), (136, none, .iload_n 2, 1, [], 0, 0), (137, none, .iconst 1, 1, [], 1, 0), (138, none, .iadd, 1, [], 0, 0), (139, none, .aload_n 0, 1, [], 0, 0), (140, none, .getfield 62, 3, [6, 26, 0, 0, 696], 0, 0), (143, none, .iload_n 2, 1, [], 0, 0), (144, none, .baload, 1, [], 0, 0), (145, none, .ifCond .ne 7, 3, [152], 0, 0), (148, none, .iload_n 3, 1, [], 0, 0), (149, none, .ifCond .eq 7, 3, [156], 0, 0), (152, none, .iconst 1, 1, [], 1, 0), (153, none, .goto 4, 3, [157], 0, 0), (156, none, .iconst 0, 1, [], 0, 0), (157, none, .bastore, 1, [], 0, 0), (158, none, .iinc 2 1, 3, [], 1, 0), (161, none, .iconst 0, 1, [], 0, 0), (162, none, .istore_n 3, 1, [], 0, 0), (163, none, .goto 29, 3, [192], 0, 0), (166, none, .iload 5, 2, [], 0, 0), (168, none, .bipush 41, 2, [], 41, 0), (170, none, .if_icmp .ne 9, 3, [179], 0, 0), (173, none, .iinc 2 (-1), 3, [], (-1), 0), (176, none, .goto 16, 3, [192], 0, 0), (179, none, .iload 5, 2, [], 0, 0), (181, none, .bipush 45, 2, [], 45, 0), (183, none, .if_icmp .ne 7, 3, [190], 0, 0), (186, none, .iconst 1, 1, [], 1, 0), (187, none, .goto 4, 3, [191], 0, 0), (190, none, .iconst 0, 1, [], 0, 0), (191, none, .istore_n 3, 1, [], 0, 0), (192, none, .iinc 4 1, 3, [], 1, 0), (195, none, .goto (-165), 3, [30], 0, 0), (198, none, .return_, 1, [], 0, 0)]
def mt_Md_findNeeds : mMt := (cd_Md_findNeeds, none, 0, 0, [], false)
def cd_Md_needOf : List mEn := [(0, none, .aload_n 0, 1, [], 0, 0), (1, none, .getfield 26, 3, [6, 9, 0, 0, 679], 0, 0), (4, none, .iload_n 1, 1, [], 0, 0), (5, none, .iaload, 1, [], 0, 0), (6, none, .ifCond .ne 8, 3, [14], 0, 0), (9, none, .bipush 84, 2, [], 84, 0), (11, none, .goto 9, 3, [20], 0, 0), (14, none, .aload_n 0, 1, [], 0, 0), (15, none, .iload_n 1, 1, [], 0, 0), (16, none, .iload_n 2, 1, [], 0, 0), (17, none, .invokevirtual 86, 3, [98, 3, 1, 0, 0, 0, 7, 0, 780], 0, 0), (20, none, .istore 4, 2, [], 0, 0), (22, none, .iload 4, 2, [], 0, 0), (24, none, .bipush 84, 2, [], 84, 0), (26, none, .if_icmp .ne 47, 3, [73], 0, 0), (29, none, .iconst 0, 1, [], 0, 0), (30, none, .istore 5, 2, [], 0, 0), (32, some [0, 1, 2, 3, 4, 5], .iload 5, 2, [], 0, 0), (34, none, .aload_n 0, 1, [], 0, 0), (35, none, .getfield 75, 3, [6, 2, 0, 0, 672], 0, 0), (38, none, .if_icmp .ge 32, 3, [70], 0, 0), (41, none, .aload_n 0, 1, [], 0, 0), (42, none, .getfield 20, 3, [6, 7, 0, 0, 677], 0, 0), (45, none, .iload_n 1, 1, [], 0, 0), (46, none, .iaload, 1, [], 0, 0), (47, none, .iload 5, 2, [], 0, 0), (49, none, .ishr, 1, [], 0, 0), (50, none, .iconst 1, 1, [], 1, 0), (51, none, .iand, 1, [], 0, 0), (52, none, .iconst 1, 1, [], 1, 0), (53, none, .if_icmp .ne 11, 3, [64], 0, 0), (56, none, .aload_n 0, 1, [], 0, 0), (57, none, .iload_n 1, 1, [], 0, 0), (58, none, .iload 5, 2, [], 0, 0), (60, none, .iload_n 3, 1, [], 0, 0), (61, none, .invokevirtual 102, 3, [105, 4, 0, 0, 0, 0, 7, 0, 807], 0, 0), (64, none, .iinc 5 1, 3, [], 1, 0), (67, none, .goto (-35), 3, [32], 0, 0), (70, none, .goto 17, 3, [87], 0, 0), (73, none, .aload_n 0, 1, [], 0, 0), (74, none, .iload_n 1, 1, [], 0, 0), (75, none, .aload_n 0, 1, [], 0, 0), (76, none, .iload_n 1, 1, [], 0, 0), (77, none, .iload_n 2, 1, [], 0, 0), (78, none, .iconst 1, 1, [], 1, 0), (79, none, .iadd, 1, [], 0, 0), (80, none, .invokevirtual 90, 3, [100, 3, 1, 0, 0, 0, 7, 0, 788], 0, 0), (83, none, .iload_n 3, 1, [], 0, 0), (84, none, .invokevirtual 102, 3, [105, 4, 0, 0, 0, 0, 7, 0, 807], 0, 0), (87, none, .iload 4, 2, [], 0, 0), (89, none, .bipush 102, 2, [], 102, 0), (91, none, .if_icmp .ne 17, 3, [108], 0, 0), (94, none, .aload_n 0, 1, [], 0, 0), (95, none, .iload_n 1, 1, [], 0, 0), (96, none, .aload_n 0, 1, [], 0, 0), (97, none, .iload_n 1, 1, [], 0, 0), (98, none, .iload_n 2, 1, [], 0, 0), (99, none, .iconst 2, 1, [], 2, 0), (100, none, .iadd, 1, [], 0, 0), (101, none, .invokevirtual 90, 3, [100, 3, 1, 0, 0, 0, 7, 0, 788], 0, 0), (104, none, .iload_n 3, 1, [], 0, 0), (105, none, .invokevirtual 102, 3, [105, 4, 0, 0, 0, 0, 7, 0, 807], 0, 0), (108, none, .return_, 1, [], 0, 0)]
def mt_Md_needOf : mMt := (cd_Md_needOf, none, 0, 0, [], false)
def cd_Md_need : List mEn := [(0, none, .aload_n 0, 1, [], 0, 0), (1, none, .getfield 29, 3, [6, 10, 0, 0, 680], 0, 0), (4, none, .bipush 9, 2, [], 9, 0), (6, none, .iload_n 1, 1, [], 0, 0), (7, none, .imul, 1, [], 0, 0), (8, none, .iload_n 2, 1, [], 0, 0), (9, none, .iadd, 1, [], 0, 0), (10, none, .iconst 1, 1, [], 1, 0), (11, none, .bastore, 1, [], 0, 0), (12, none, .iload_n 3, 1, [], 0, 0), (13, none, .ifCond .eq 15, 3, [28], 0, 0), (16, none, .aload_n 0, 1, [], 0, 0), (17, none, .getfield 32, 3, [6, 11, 0, 0, 681], 0, 0), (20, none, .bipush 9, 2, [], 9, 0), (22, none, .iload_n 1, 1, [], 0, 0), (23, none, .imul, 1, [], 0, 0), (24, none, .iload_n 2, 1, [], 0, 0), (25, none, .iadd, 1, [], 0, 0), (26, none, .iconst 1, 1, [], 1, 0), (27, none, .bastore, 1, [], 0, 0), (28, none, .return_, 1, [], 0, 0)]
def mt_Md_need : mMt := (cd_Md_need, none, 0, 0, [], false)
def cd_Md_close : List mEn := [(0, none, .iconst 0, 1, [], 0, 0), (1, none, .istore_n 1, 1, [], 0, 0), (2, some [0, 1], .iload_n 1, 1, [], 0, 0), (3, none, .bipush 81, 2, [], 81, 0), (5, none, .if_icmp .ge 21, 3, [26], 0, 0), (8, none, .aload_n 0, 1, [], 0, 0), (9, none, .getfield 35, 3, [6, 12, 0, 0, 682], 0, 0), (12, none, .iload_n 1, 1, [], 0, 0), (13, none, .aload_n 0, 1, [], 0, 0), (14, none, .getfield 29, 3, [6, 10, 0, 0, 680], 0, 0), (17, none, .iload_n 1, 1, [], 0, 0), (18, none, .baload, 1, [], 0, 0), (19, none, .bastore, 1, [], 0, 0), (20, none, .iinc 1 1, 3, [], 1, 0), (23, none, .goto (-21), 3, [2], 0, 0), (26, none, .iconst 0, 1, [], 0, 0), (27, none, .istore_n 1, 1, [], 0, 0), (28, some [0, 1], .iload_n 1, 1, [], 0, 0), (29, none, .bipush 9, 2, [], 9, 0), (31, none, .if_icmp .ge 95, 3, [126], 0, 0), (34, none, .iconst 0, 1, [], 0, 0), (35, none, .istore_n 2, 1, [], 0, 0), (36, some [0, 1, 2], .iload_n 2, 1, [], 0, 0), (37, none, .bipush 9, 2, [], 9, 0), (39, none, .if_icmp .ge 81, 3, [120], 0, 0), (42, none, .iconst 0, 1, [], 0, 0), (43, none, .istore_n 3, 1, [], 0, 0), (44, some [0, 1, 2, 3], .iload_n 3, 1, [], 0, 0), (45, none, .bipush 9, 2, [], 9, 0), (47, none, .if_icmp .ge 67, 3, [114], 0, 0), (50, none, .aload_n 0, 1, [], 0, 0), (51, none, .getfield 35, 3, [6, 12, 0, 0, 682], 0, 0), (54, none, .bipush 9, 2, [], 9, 0), (56, none, .iload_n 2, 1, [], 0, 0), (57, none, .imul, 1, [], 0, 0), (58, none, .iload_n 3, 1, [], 0, 0), (59, none, .iadd, 1, [], 0, 0), (60, none, .aload_n 0, 1, [], 0, 0), (61, none, .getfield 35, 3, [6, 12, 0, 0, 682], 0, 0), (64, none, .bipush 9, 2, [], 9, 0), (66, none, .iload_n 2, 1, [], 0, 0), (67, none, .imul, 1, [], 0, 0), (68, none, .iload_n 3, 1, [], 0, 0), (69, none, .iadd, 1, [], 0, 0), (70, none, .baload, 1, [], 0, 0), (71, none, .ifCond .ne 31, 3, [102], 0, 0), (74, none, .aload_n 0, 1, [], 0, 0), (75, none, .getfield 35, 3, [6, 12, 0, 0, 682], 0, 0), (78, none, .bipush 9, 2, [], 9, 0), (80, none, .iload_n 2, 1, [], 0, 0), (81, none, .imul, 1, [], 0, 0), (82, none, .iload_n 1, 1, [], 0, 0), (83, none, .iadd, 1, [], 0, 0), (84, none, .baload, 1, [], 0, 0), (85, none, .ifCond .eq 21, 3, [106], 0, 0), (88, none, .aload_n 0, 1, [], 0, 0), (89, none, .getfield 35, 3, [6, 12, 0, 0, 682], 0, 0), (92, none, .bipush 9, 2, [], 9, 0), (94, none, .iload_n 1, 1, [], 0, 0), (95, none, .imul, 1, [], 0, 0), (96, none, .iload_n 3, 1, [], 0, 0), (97, none, .iadd, 1, [], 0, 0), (98, none, .baload, 1, [], 0, 0), (99, none, .ifCond .eq 7, 3, [106], 0, 0), (102, none, .iconst 1, 1, [], 1, 0), (103, none, .goto 4, 3, [107], 0, 0), (106, none, .iconst 0, 1, [], 0, 0), (107, none, .bastore, 1, [], 0, 0), (108, none, .iinc 3 1, 3, [], 1, 0), (111, none, .goto (-67), 3, [44], 0, 0), (114, none, .iinc 2 1, 3, [], 1, 0), (117, none, .goto (-81), 3, [36], 0, 0), (120, none, .iinc 1 1, 3, [], 1, 0), (123, none, .goto (-95), 3, [28], 0, 0), (126, none, .return_, 1, [], 0, 0)]
def mt_Md_close : mMt := (cd_Md_close, none, 0, 0, [], false)
def cd_Md_isCircular : List mEn := [(0, none, .iconst 0, 1, [], 0, 0), (1, none, .istore_n 1, 1, [], 0, 0), (2, none, .iconst 0, 1, [], 0, 0), (3, none, .istore_n 2, 1, [], 0, 0), (4, some [0, 1, 2], .iload_n 2, 1, [], 0, 0), (5, none, .bipush 9, 2, [], 9, 0), (7, none, .if_icmp .ge 61, 3, [68], 0, 0), (10, none, .iconst 0, 1, [], 0, 0), (11, none, .istore_n 3, 1, [], 0, 0), (12, some [0, 1, 2, 3], .iload_n 3, 1, [], 0, 0), (13, none, .bipush 9, 2, [], 9, 0), (15, none, .if_icmp .ge 47, 3, [62], 0, 0), (18, none, .iload_n 1, 1, [], 0, 0), (19, none, .ifCond .ne 31, 3, [50], 0, 0), (22, none, .aload_n 0, 1, [], 0, 0), (23, none, .getfield 32, 3, [6, 11, 0, 0, 681], 0, 0), (26, none, .bipush 9, 2, [], 9, 0), (28, none, .iload_n 2, 1, [], 0, 0), (29, none, .imul, 1, [], 0, 0), (30, none, .iload_n 3, 1, [], 0, 0), (31, none, .iadd, 1, [], 0, 0), (32, none, .baload, 1, [], 0, 0), (33, none, .ifCond .eq 21, 3, [54], 0, 0), (36, none, .aload_n 0, 1, [], 0, 0), (37, none, .getfield 35, 3, [6, 12, 0, 0, 682], 0, 0), (40, none, .bipush 9, 2, [], 9, 0), (42, none, .iload_n 3, 1, [], 0, 0), (43, none, .imul, 1, [], 0, 0), (44, none, .iload_n 2, 1, [], 0, 0), (45, none, .iadd, 1, [], 0, 0), (46, none, .baload, 1, [], 0, 0), (47, none, .ifCond .eq 7, 3, [54], 0, 0), (50, none, .iconst 1, 1, [], 1, 0), (51, none, .goto 4, 3, [55], 0, 0), (54, none, .iconst 0, 1, [], 0, 0), (55, none, .istore_n 1, 1, [], 0, 0), (56, none, .iinc 3 1, 3, [], 1, 0), (59, none, .goto (-47), 3, [12], 0, 0), (62, none, .iinc 2 1, 3, [], 1, 0), (65, none, .goto (-61), 3, [4], 0, 0), (68, none, .iload_n 1, 1, [], 0, 0), (69, none, .ireturn, 1, [], 0, 0)]
def mt_Md_isCircular : mMt := (cd_Md_isCircular, (some .boolean), 0, 0, [], false)
def cd_Md_findLevels : List mEn := [(0, none, .iconst 0, 1, [], 0, 0), (1, none, .istore_n 1, 1, [], 0, 0), (2, some [0, 1], .iload_n 1, 1, [], 0, 0), (3, none, .bipush 9, 2, [], 9, 0), (5, none, .if_icmp .ge 16, 3, [21], 0, 0), (8, none, .aload_n 0, 1, [], 0, 0), (9, none, .getfield 38, 3, [6, 13, 0, 0, 683], 0, 0), (12, none, .iload_n 1, 1, [], 0, 0), (13, none, .iconst 0, 1, [], 0, 0), (14, none, .iastore, 1, [], 0, 0), (15, none, .iinc 1 1, 3, [], 1, 0), (18, none, .goto (-16), 3, [2], 0, 0), (21, none, .iconst 0, 1, [], 0, 0), (22, none, .istore_n 1, 1, [], 0, 0), (23, some [0, 1], .iload_n 1, 1, [], 0, 0), (24, none, .bipush 90, 2, [], 90, 0), (26, none, .if_icmp .ge 84, 3, [110], 0, 0), (29, none, .iconst 0, 1, [], 0, 0), (30, none, .istore_n 2, 1, [], 0, 0), (31, some [0, 1, 2], .iload_n 2, 1, [], 0, 0), (32, none, .bipush 81, 2, [], 81, 0), (34, none, .if_icmp .ge 70, 3, [104], 0, 0), (37, none, .aload_n 0, 1, [], 0, 0), (38, none, .getfield 29, 3, [6, 10, 0, 0, 680], 0, 0), (41, none, .iload_n 2, 1, [], 0, 0), (42, none, .baload, 1, [], 0, 0), (43, none, .ifCond .eq 30, 3, [73], 0, 0), (46, none, .aload_n 0, 1, [], 0, 0), (47, none, .getfield 38, 3, [6, 13, 0, 0, 683], 0, 0), (50, none, .iload_n 2, 1, [], 0, 0), (51, none, .bipush 9, 2, [], 9, 0), (53, none, .irem, 1, [], 0, 0), (54, none, .iaload, 1, [], 0, 0), (55, none, .aload_n 0, 1, [], 0, 0), (56, none, .getfield 32, 3, [6, 11, 0, 0, 681], 0, 0), (59, none, .iload_n 2, 1, [], 0, 0), (60, none, .baload, 1, [], 0, 0), (61, none, .ifCond .eq 7, 3, [68], 0, 0), (64, none, .iconst 1, 1, [], 1, 0), (65, none, .goto 4, 3, [69], 0, 0), (68, none, .iconst 0, 1, [], 0, 0), (69, none, .iadd, 1, [], 0, 0), (70, none, .goto 4, 3, [74], 0, 0), (73, none, .iconst 0, 1, [], 0, 0), (74, none, .istore_n 3, 1, [], 0, 0), (75, none, .aload_n 0, 1, [], 0, 0), (76, none, .getfield 38, 3, [6, 13, 0, 0, 683], 0, 0), (79, none, .iload_n 2, 1, [], 0, 0), (80, none, .bipush 9, 2, [], 9, 0), (82, none, .idiv, 1, [], 0, 0), (83, none, .iaload, 1, [], 0, 0), (84, none, .iload_n 3, 1, [], 0, 0), (85, none, .if_icmp .ge 13, 3, [98], 0, 0), (88, none, .aload_n 0, 1, [], 0, 0), (89, none, .getfield 38, 3, [6, 13, 0, 0, 683], 0, 0), (92, none, .iload_n 2, 1, [], 0, 0), (93, none, .bipush 9, 2, [], 9, 0), (95, none, .idiv, 1, [], 0, 0), (96, none, .iload_n 3, 1, [], 0, 0), (97, none, .iastore, 1, [], 0, 0), (98, none, .iinc 2 1, 3, [], 1, 0), (101, none, .goto (-70), 3, [31], 0, 0), (104, none, .iinc 1 1, 3, [], 1, 0), (107, none, .goto (-84), 3, [23], 0, 0), (110, none, .return_, 1, [], 0, 0)]
def mt_Md_findLevels : mMt := (cd_Md_findLevels, none, 0, 0, [], false)
def cd_Md_change : List mEn := [(0, none, .aload_n 0, 1, [], 0, 0), (1, none, .iconst 0, 1, [], 0, 0), (2, none, .putfield 72, 3, [6, 1, 0, 0, 671], 0, 0), (5, none, .aload_n 0, 1, [], 0, 0), (6, none, .aload_n 0, 1, [], 0, 0), (7, none, .getfield 82, 3, [6, 3, 0, 1, 673], 0, 0), (10, none, .ifCond .ne 7, 3, [17], 0, 0), (13, none, .iconst 1, 1, [], 1, 0), (14, none, .goto 35, 3, [49], 0, 0), (17, none, .aload_n 0, 1, [], 0, 0), (18, none, .iload_n 2, 1, [], 0, 0), (19, none, .iload_n 3, 1, [], 0, 0), (20, none, .iload 4, 2, [], 0, 0), (22, none, .iload 5, 2, [], 0, 0), (24, none, .iload 6, 2, [], 0, 0), (26, none, .invokevirtual 127, 3, [110, 6, 1, 0, 0, 0, 7, 0, 827], 0, 0), (29, none, .ifCond .ne 7, 3, [36], 0, 0), (32, none, .iconst 2, 1, [], 2, 0), (33, none, .goto 16, 3, [49], 0, 0), (36, none, .aload_n 0, 1, [], 0, 0), (37, none, .getfield 131, 3, [6, 19, 0, 0, 689], 0, 0), (40, none, .iconst 5, 1, [], 5, 0), (41, none, .if_icmp .ne 7, 3, [48], 0, 0), (44, none, .iconst 3, 1, [], 3, 0), (45, none, .goto 4, 3, [49], 0, 0), (48, none, .iconst 0, 1, [], 0, 0), (49, none, .putfield 72, 3, [6, 1, 0, 0, 671], 0, 0), (52, none, .aload_n 0, 1, [], 0, 0), (53, none, .getfield 72, 3, [6, 1, 0, 0, 671], 0, 0), (56, none, .ifCond .le 5, 3, [61], 0, 0), (59, none, .iconst 0, 1, [], 0, 0), (60, none, .ireturn, 1, [], 0, 0), (61, none, .bipush 6, 2, [], 6, 0), (63, none, .aload_n 0, 1, [], 0, 0), (64, none, .getfield 131, 3, [6, 19, 0, 0, 689], 0, 0), (67, none, .imul, 1, [], 0, 0), (68, none, .istore 7, 2, [], 0, 0), (70, none, .aload_n 0, 1, [], 0, 0), (71, none, .getfield 47, 3, [6, 20, 0, 0, 690], 0, 0), (74, none, .iload 7, 2, [], 0, 0), (76, none, .iload_n 1, 1, [], 0, 0), (77, none, .ifCond .eq 7, 3, [84], 0, 0), (80, none, .iconst 1, 1, [], 1, 0), (81, none, .goto 4, 3, [85], 0, 0), (84, none, .iconst 0, 1, [], 0, 0), (85, none, .iastore, 1, [], 0, 0), (86, none, .aload_n 0, 1, [], 0, 0), (87, none, .getfield 47, 3, [6, 20, 0, 0, 690], 0, 0), (90, none, .iload 7, 2, [], 0, 0), (92, none, .iconst 1, 1, [], 1, 0), (93, none, .iadd, 1, [], 0, 0), (94, none, .iload_n 2, 1, [], 0, 0), (95, none, .iastore, 1, [], 0, 0), (96, none, .aload_n 0, 1, [], 0, 0), (97, none, .getfield 47, 3, [6, 20, 0, 0, 690], 0, 0), (100, none, .iload 7, 2, [], 0, 0), (102, none, .iconst 2, 1, [], 2, 0), (103, none, .iadd, 1, [], 0, 0), (104, none, .iload_n 3, 1, [], 0, 0), (105, none, .iastore, 1, [], 0, 0), (106, none, .aload_n 0, 1, [], 0, 0), (107, none, .getfield 47, 3, [6, 20, 0, 0, 690], 0, 0), (110, none, .iload 7, 2, [], 0, 0), (112, none, .iconst 3, 1, [], 3, 0), (113, none, .iadd, 1, [], 0, 0), (114, none, .iload 4, 2, [], 0, 0), (116, none, .iastore, 1, [], 0, 0), (117, none, .aload_n 0, 1, [], 0, 0), (118, none, .getfield 47, 3, [6, 20, 0, 0, 690], 0, 0), (121, none, .iload 7, 2, [], 0, 0), (123, none, .iconst 4, 1, [], 4, 0), (124, none, .iadd, 1, [], 0, 0), (125, none, .iload 5, 2, [], 0, 0), (127, none, .iastore, 1, [], 0, 0), (128, none, .aload_n 0, 1, [], 0, 0), (129, none, .getfield 47, 3, [6, 20, 0, 0, 690], 0, 0), (132, none, .iload 7, 2, [], 0, 0), (134, none, .iconst 5, 1, [], 5, 0), (135, none, .iadd, 1, [], 0, 0), (136, none, .iload 4, 2, [], 0, 0), (138, none, .iconst 2, 1, [], 2, 0), (139, none, .if_icmp .ne 8, 3, [147], 0, 0), (142, none, .iload 6, 2, [], 0, 0), (144, none, .goto 4, 3, [148], 0, 0), (147, none, .iconst 0, 1, [], 0, 0), (148, none, .iastore, 1, [], 0, 0), (149, none, .aload_n 0, 1, [], 0, 0), (150, none, .dup, 1, [], 0, 0), (151, none, .getfield 131, 3, [6, 19, 0, 0, 689], 0, 0), (154, none, .iconst 1, 1, [], 1, 0), (155, none, .iadd, 1, [], 0, 0), (156, none, .putfield 131, 3, [6, 19, 0, 0, 689], 0, 0), (159, none, .aload_n 0, 1, [], 0, 0), (160, none, .getfield 131, 3, [6, 19, 0, 0, 689], 0, 0), (163, none, .ireturn, 1, [], 0, 0)]
def mt_Md_change : mMt := (cd_Md_change, (some .int), 0, 0, [], false)
def cd_Md_isTuple : List mEn := [(0, none, .aload_n 0, 1, [], 0, 0), (1, none, .iload_n 1, 1, [], 0, 0), (2, none, .iload_n 2, 1, [], 0, 0), (3, none, .invokevirtual 123, 3, [111, 3, 1, 0, 0, 0, 7, 0, 831], 0, 0), (6, none, .ifCond .eq 12, 3, [18], 0, 0), (9, none, .iload_n 3, 1, [], 0, 0), (10, none, .ifCond .lt 8, 3, [18], 0, 0), (13, none, .iload_n 3, 1, [], 0, 0), (14, none, .iconst 2, 1, [], 2, 0), (15, none, .if_icmp .le 5, 3, [20], 0, 0), (18, none, .iconst 0, 1, [], 0, 0), (19, none, .ireturn, 1, [], 0, 0), (20, none, .iload_n 3, 1, [], 0, 0), (21, none, .ifCond .ne 30, 3, [51], 0, 0), (24, none, .iload 4, 2, [], 0, 0), (26, none, .ifCond .lt 23, 3, [49], 0, 0), (29, none, .iload 4, 2, [], 0, 0), (31, none, .bipush 8, 2, [], 8, 0), (33, none, .if_icmp .ge 16, 3, [49], 0, 0), (36, none, .aload_n 0, 1, [], 0, 0), (37, none, .getfield 13, 3, [6, 5, 0, 0, 675], 0, 0), (40, none, .iload_n 2, 1, [], 0, 0), (41, none, .baload, 1, [], 0, 0), (42, none, .ifCond .eq 7, 3, [49], 0, 0), (45, none, .iconst 1, 1, [], 1, 0), (46, none, .goto 4, 3, [50], 0, 0), (49, none, .iconst 0, 1, [], 0, 0), (50, none, .ireturn, 1, [], 0, 0), (51, none, .iload_n 3, 1, [], 0, 0), (52, none, .iconst 1, 1, [], 1, 0), (53, none, .if_icmp .ne 38, 3, [91], 0, 0), (56, none, .iload 4, 2, [], 0, 0), (58, none, .ifCond .lt 31, 3, [89], 0, 0), (61, none, .iload 4, 2, [], 0, 0), (63, none, .bipush 12, 2, [], 12, 0), (65, none, .if_icmp .ge 24, 3, [89], 0, 0), (68, none, .aload_n 0, 1, [], 0, 0), (69, none, .getfield 17, 3, [6, 6, 0, 0, 676], 0, 0), (72, none, .iload_n 2, 1, [], 0, 0), (73, none, .iaload, 1, [], 0, 0), (74, none, .iload 4, 2, [], 0, 0), (76, none, .iconst 4, 1, [], 4, 0), (77, none, .idiv, 1, [], 0, 0), (78, none, .ishr, 1, [], 0, 0), (79, none, .iconst 1, 1, [], 1, 0), (80, none, .iand, 1, [], 0, 0), (81, none, .iconst 1, 1, [], 1, 0), (82, none, .if_icmp .ne 7, 3, [89], 0, 0), (85, none, .iconst 1, 1, [], 1, 0), (86, none, .goto 4, 3, [90], 0, 0), (89, none, .iconst 0, 1, [], 0, 0), (90, none, .ireturn, 1, [], 0, 0), (91, none, .aload_n 0, 1, [], 0, 0), (92, none, .iload 4, 2, [], 0, 0), (94, none, .iload 5, 2, [], 0, 0), (96, none, .invokevirtual 123, 3, [111, 3, 1, 0, 0, 0, 7, 0, 831], 0, 0), (99, none, .ifCond .eq 22, 3, [121], 0, 0), (102, none, .aload_n 0, 1, [], 0, 0), (103, none, .getfield 20, 3, [6, 7, 0, 0, 677], 0, 0), (106, none, .iload_n 2, 1, [], 0, 0), (107, none, .iaload, 1, [], 0, 0), (108, none, .iload 5, 2, [], 0, 0), (110, none, .ishr, 1, [], 0, 0), (111, none, .iconst 1, 1, [], 1, 0), (112, none, .iand, 1, [], 0, 0), (113, none, .iconst 1, 1, [], 1, 0), (114, none, .if_icmp .ne 7, 3, [121], 0, 0), (117, none, .iconst 1, 1, [], 1, 0), (118, none, .goto 4, 3, [122], 0, 0), (121, none, .iconst 0, 1, [], 0, 0), (122, none, .ireturn, 1, [], 0, 0)]
def mt_Md_isTuple : mMt := (cd_Md_isTuple, (some .boolean), 0, 0, [], false)
def cd_Md_isOf : List mEn := [(0, none, .iload_n 1, 1, [], 0, 0), (1, none, .ifCond .lt 33, 3, [34], 0, 0), (4, none, .iload_n 1, 1, [], 0, 0), (5, none, .bipush 12, 2, [], 12, 0), (7, none, .if_icmp .ge 27, 3, [34], 0, 0), (10, none, .aload_n 0, 1, [], 0, 0), (11, none, .iload_n 2, 1, [], 0, 0), (12, none, .invokevirtual 78, 3, [96, 2, 1, 0, 0, 0, 7, 0, 772], 0, 0), (15, none, .ifCond .eq 19, 3, [34], 0, 0), (18, none, .aload_n 0, 1, [], 0, 0), (19, none, .getfield 7, 3, [6, 4, 0, 0, 674], 0, 0), (22, none, .iload_n 2, 1, [], 0, 0), (23, none, .iaload, 1, [], 0, 0), (24, none, .iload_n 1, 1, [], 0, 0), (25, none, .iconst 4, 1, [], 4, 0), (26, none, .idiv, 1, [], 0, 0), (27, none, .if_icmp .ne 7, 3, [34], 0, 0), (30, none, .iconst 1, 1, [], 1, 0), (31, none, .goto 4, 3, [35], 0, 0), (34, none, .iconst 0, 1, [], 0, 0), (35, none, .ireturn, 1, [], 0, 0)]
def mt_Md_isOf : mMt := (cd_Md_isOf, (some .boolean), 0, 0, [], false)
def cd_Md_commit : List mEn := [(0, none, .aload_n 0, 1, [], 0, 0), (1, none, .iconst 0, 1, [], 0, 0), (2, none, .putfield 72, 3, [6, 1, 0, 0, 671], 0, 0), (5, none, .aload_n 0, 1, [], 0, 0), (6, none, .getfield 131, 3, [6, 19, 0, 0, 689], 0, 0), (9, none, .iconst 1, 1, [], 1, 0), (10, none, .iadd, 1, [], 0, 0), (11, none, .istore_n 2, 1, [], 0, 0), (12, none, .aload_n 0, 1, [], 0, 0), (13, none, .getfield 131, 3, [6, 19, 0, 0, 689], 0, 0), (16, none, .ifCond .eq 14, 3, [30], 0, 0), (19, none, .aload_n 0, 1, [], 0, 0), (20, none, .getfield 134, 3, [6, 17, 0, 0, 687], 0, 0), (23, none, .iload_n 2, 1, [], 0, 0), (24, none, .iadd, 1, [], 0, 0), (25, none, .bipush 120, 2, [], 120, 0), (27, none, .if_icmp .le 10, 3, [37], 0, 0), (30, none, .aload_n 0, 1, [], 0, 0), (31, none, .iconst 1, 1, [], 1, 0), (32, none, .putfield 72, 3, [6, 1, 0, 0, 671], 0, 0), (35, none, .iconst 0, 1, [], 0, 0), (36, none, .ireturn, 1, [], 0, 0), (37, none, .iload_n 1, 1, [], 0, 0), (38, none, .ifCond .lt 15, 3, [53], 0, 0), (41, none, .iload_n 1, 1, [], 0, 0), (42, none, .iload_n 2, 1, [], 0, 0), (43, none, .if_icmp .ge 10, 3, [53], 0, 0), (46, none, .aload_n 0, 1, [], 0, 0), (47, none, .iconst 0, 1, [], 0, 0), (48, none, .putfield 131, 3, [6, 19, 0, 0, 689], 0, 0), (51, none, .iconst (-1), 1, [], (-1), 0), (52, none, .ireturn, 1, [], 0, 0), (53, none, .aload_n 0, 1, [], 0, 0), (54, none, .dup, 1, [], 0, 0), (55, none, .getfield 137, 3, [6, 18, 0, 0, 688], 0, 0), (58, none, .iconst 1, 1, [], 1, 0), (59, none, .iadd, 1, [], 0, 0), (60, none, .putfield 137, 3, [6, 18, 0, 0, 688], 0, 0), (63, none, .iconst 0, 1, [], 0, 0), (64, none, .istore_n 3, 1, [], 0, 0), (65, some [0, 1, 2, 3], .iload_n 3, 1, [], 0, 0), (66, none, .bipush 6, 2, [], 6, 0), (68, none, .aload_n 0, 1, [], 0, 0), (69, none, .getfield 131, 3, [6, 19, 0, 0, 689], 0, 0), (72, none, .imul, 1, [], 0, 0), (73, none, .if_icmp .ge 29, 3, [102], 0, 0), (76, none, .aload_n 0, 1, [], 0, 0), (77, none, .getfield 41, 3, [6, 15, 0, 0, 685], 0, 0), (80, none, .bipush 6, 2, [], 6, 0), (82, none, .aload_n 0, 1, [], 0, 0), (83, none, .getfield 140, 3, [6, 14, 0, 0, 684], 0, 0), (86, none, .imul, 1, [], 0, 0), (87, none, .iload_n 3, 1, [], 0, 0), (88, none, .iadd, 1, [], 0, 0), (89, none, .aload_n 0, 1, [], 0, 0), (90, none, .getfield 47, 3, [6, 20, 0, 0, 690], 0, 0), (93, none, .iload_n 3, 1, [], 0, 0), (94, none, .iaload, 1, [], 0, 0), (95, none, .iastore, 1, [], 0, 0), (96, none, .iinc 3 1, 3, [], 1, 0), (99, none, .goto (-34), 3, [65], 0, 0), (102, none, .iconst 0, 1, [], 0, 0), (103, none, .istore_n 3, 1, [], 0, 0), (104, some [0, 1, 2, 3], .iload_n 3, 1, [], 0, 0), (105, none, .aload_n 0, 1, [], 0, 0), (106, none, .getfield 131, 3, [6, 19, 0, 0, 689], 0, 0), (109, none, .if_icmp .ge 24, 3, [133], 0, 0), (112, none, .aload_n 0, 1, [], 0, 0), (113, none, .getfield 44, 3, [6, 16, 0, 0, 686], 0, 0), (116, none, .aload_n 0, 1, [], 0, 0), (117, none, .getfield 140, 3, [6, 14, 0, 0, 684], 0, 0), (120, none, .iload_n 3, 1, [], 0, 0), (121, none, .iadd, 1, [], 0, 0), (122, none, .aload_n 0, 1, [], 0, 0), (123, none, .getfield 137, 3, [6, 18, 0, 0, 688], 0, 0), (126, none, .iastore, 1, [], 0, 0), (127, none, .iinc 3 1, 3, [], 1, 0), (130, none, .goto (-26), 3, [104], 0, 0), (133, none, .aload_n 0, 1, [], 0, 0), (134, none, .dup, 1, [], 0, 0), (135, none, .getfield 140, 3, [6, 14, 0, 0, 684], 0, 0), (138, none, .aload_n 0, 1, [], 0, 0), (139, none, .getfield 131, 3, [6, 19, 0, 0, 689], 0, 0), (142, none, .iadd, 1, [], 0, 0), (143, none, .putfield 140, 3, [6, 14, 0, 0, 684], 0, 0), (146, none, .aload_n 0, 1, [], 0, 0), (147, none, .dup, 1, [], 0, 0), (148, none, .getfield 134, 3, [6, 17, 0, 0, 687], 0, 0), (151, none, .iload_n 2, 1, [], 0, 0), (152, none, .iadd, 1, [], 0, 0), (153, none, .putfield 134, 3, [6, 17, 0, 0, 687], 0, 0), (156, none, .aload_n 0, 1, [], 0, 0), (157, none, .iconst 0, 1, [], 0, 0), (158, none, .putfield 131, 3, [6, 19, 0, 0, 689], 0, 0), (161, none, .aload_n 0, 1, [], 0, 0), (162, none, .getfield 137, 3, [6, 18, 0, 0, 688], 0, 0), (165, none, .ireturn, 1, [], 0, 0)]
def mt_Md_commit : mMt := (cd_Md_commit, (some .int), 0, 0, [], false)
def cd_Md_crash : List mEn := [(0, none, .aload_n 0, 1, [], 0, 0), (1, none, .iconst 0, 1, [], 0, 0), (2, none, .putfield 72, 3, [6, 1, 0, 0, 671], 0, 0), (5, none, .aload_n 0, 1, [], 0, 0), (6, none, .iconst 0, 1, [], 0, 0), (7, none, .putfield 131, 3, [6, 19, 0, 0, 689], 0, 0), (10, none, .return_, 1, [], 0, 0)]
def mt_Md_crash : mMt := (cd_Md_crash, none, 0, 0, [], false)
def cd_Md_latest : List mEn := [(0, none, .aload_n 0, 1, [], 0, 0), (1, none, .iconst 0, 1, [], 0, 0), (2, none, .putfield 72, 3, [6, 1, 0, 0, 671], 0, 0), (5, none, .aload_n 0, 1, [], 0, 0), (6, none, .getfield 137, 3, [6, 18, 0, 0, 688], 0, 0), (9, none, .ireturn, 1, [], 0, 0)]
def mt_Md_latest : mMt := (cd_Md_latest, (some .int), 0, 0, [], false)
def cd_Md_records : List mEn := [(0, none, .aload_n 0, 1, [], 0, 0), (1, none, .iconst 0, 1, [], 0, 0), (2, none, .putfield 72, 3, [6, 1, 0, 0, 671], 0, 0), (5, none, .aload_n 0, 1, [], 0, 0), (6, none, .getfield 134, 3, [6, 17, 0, 0, 687], 0, 0), (9, none, .ireturn, 1, [], 0, 0)]
def mt_Md_records : mMt := (cd_Md_records, (some .int), 0, 0, [], false)
def cd_Md_tuples : List mEn := [(0, none, .aload_n 0, 1, [], 0, 0), (1, none, .iload_n 1, 1, [], 0, 0), (2, none, .iconst 1, 1, [], 1, 0), (3, none, .invokevirtual 152, 3, [117, 3, 1, 0, 0, 0, 7, 0, 855], 0, 0), (6, none, .ifCond .ne 5, 3, [11], 0, 0), (9, none, .iconst 0, 1, [], 0, 0), (10, none, .ireturn, 1, [], 0, 0), (11, none, .aload_n 0, 1, [], 0, 0), (12, none, .iload_n 1, 1, [], 0, 0), (13, none, .invokevirtual 156, 3, [119, 2, 0, 0, 0, 0, 7, 0, 863], 0, 0), (16, none, .aload_n 0, 1, [], 0, 0), (17, none, .getfield 146, 3, [6, 21, 0, 0, 691], 0, 0), (20, none, .ireturn, 1, [], 0, 0)]
def mt_Md_tuples : mMt := (cd_Md_tuples, (some .int), 0, 0, [], false)
def cd_Md_isFine : List mEn := [(0, none, .aload_n 0, 1, [], 0, 0), (1, none, .iconst 0, 1, [], 0, 0), (2, none, .putfield 72, 3, [6, 1, 0, 0, 671], 0, 0), (5, none, .iload_n 1, 1, [], 0, 0), (6, none, .ifCond .lt 15, 3, [21], 0, 0), (9, none, .iload_n 1, 1, [], 0, 0), (10, none, .aload_n 0, 1, [], 0, 0), (11, none, .getfield 137, 3, [6, 18, 0, 0, 688], 0, 0), (14, none, .if_icmp .gt 7, 3, [21], 0, 0), (17, none, .iload_n 2, 1, [], 0, 0), (18, none, .ifCond .ne 9, 3, [27], 0, 0), (21, none, .aload_n 0, 1, [], 0, 0), (22, none, .iconst 1, 1, [], 1, 0), (23, none, .invokevirtual 143, 3, [118, 2, 1, 0, 0, 0, 7, 0, 859], 0, 0), (26, none, .ireturn, 1, [], 0, 0), (27, none, .iload_n 1, 1, [], 0, 0), (28, none, .aload_n 0, 1, [], 0, 0), (29, none, .getfield 137, 3, [6, 18, 0, 0, 688], 0, 0), (32, none, .aload_n 0, 1, [], 0, 0), (33, none, .getfield 68, 3, [6, 0, 0, 0, 670], 0, 0), (36, none, .isub, 1, [], 0, 0), (37, none, .if_icmp .gt 11, 3, [48], 0, 0), (40, none, .aload_n 0, 1, [], 0, 0), (41, none, .iconst 2, 1, [], 2, 0), (42, none, .invokevirtual 143, 3, [118, 2, 1, 0, 0, 0, 7, 0, 859], 0, 0), (45, none, .ifCond .eq 7, 3, [52], 0, 0), (48, none, .iconst 1, 1, [], 1, 0), (49, none, .goto 4, 3, [53], 0, 0), (52, none, .iconst 0, 1, [], 0, 0), (53, none, .ireturn, 1, [], 0, 0)]
def mt_Md_isFine : mMt := (cd_Md_isFine, (some .boolean), 0, 0, [], false)
def cd_Md_fail : List mEn := [(0, none, .aload_n 0, 1, [], 0, 0), (1, none, .iload_n 1, 1, [], 0, 0), (2, none, .putfield 72, 3, [6, 1, 0, 0, 671], 0, 0), (5, none, .iconst 0, 1, [], 0, 0), (6, none, .ireturn, 1, [], 0, 0)]
def mt_Md_fail : mMt := (cd_Md_fail, (some .boolean), 0, 0, [], false)
def cd_Md_play : List mEn := [(0, none, .aload_n 0, 1, [], 0, 0), (1, none, .iconst 0, 1, [], 0, 0), (2, none, .putfield 146, 3, [6, 21, 0, 0, 691], 0, 0), (5, none, .iconst 0, 1, [], 0, 0), (6, none, .istore_n 2, 1, [], 0, 0), (7, some [0, 1, 2], .iload_n 2, 1, [], 0, 0), (8, none, .aload_n 0, 1, [], 0, 0), (9, none, .getfield 140, 3, [6, 14, 0, 0, 684], 0, 0), (12, none, .if_icmp .ge 130, 3, [142], 0, 0), (15, none, .aload_n 0, 1, [], 0, 0), (16, none, .getfield 44, 3, [6, 16, 0, 0, 686], 0, 0), (19, none, .iload_n 2, 1, [], 0, 0), (20, none, .iaload, 1, [], 0, 0), (21, none, .iload_n 1, 1, [], 0, 0), (22, none, .if_icmp .gt 120, 3, [142], 0, 0), (25, none, .iconst 0, 1, [], 0, 0), (26, none, .istore_n 3, 1, [], 0, 0), (27, some [0, 1, 2, 3], .iload_n 3, 1, [], 0, 0), (28, none, .aload_n 0, 1, [], 0, 0), (29, none, .getfield 146, 3, [6, 21, 0, 0, 691], 0, 0), (32, none, .if_icmp .ge 23, 3, [55], 0, 0), (35, none, .aload_n 0, 1, [], 0, 0), (36, none, .aload_n 0, 1, [], 0, 0), (37, none, .getfield 50, 3, [6, 22, 0, 0, 692], 0, 0), (40, none, .iload_n 3, 1, [], 0, 0), (41, none, .iaload, 1, [], 0, 0), (42, none, .iload_n 2, 1, [], 0, 0), (43, none, .invokevirtual 149, 3, [120, 3, 1, 0, 0, 0, 7, 0, 867], 0, 0), (46, none, .ifCond .ne 9, 3, [55], 0, 0), (49, none, .iinc 3 1, 3, [], 1, 0), (52, none, .goto (-25), 3, [27], 0, 0), (55, none, .aload_n 0, 1, [], 0, 0), (56, none, .getfield 41, 3, [6, 15, 0, 0, 685], 0, 0), (59, none, .bipush 6, 2, [], 6, 0), (61, none, .iload_n 2, 1, [], 0, 0), (62, none, .imul, 1, [], 0, 0), (63, none, .iaload, 1, [], 0, 0), (64, none, .iconst 1, 1, [], 1, 0), (65, none, .if_icmp .ne 38, 3, [103], 0, 0), (68, none, .aload_n 0, 1, [], 0, 0), (69, none, .getfield 50, 3, [6, 22, 0, 0, 692], 0, 0), (72, none, .iload_n 3, 1, [], 0, 0), (73, none, .iload_n 2, 1, [], 0, 0), (74, none, .iastore, 1, [], 0, 0), (75, none, .aload_n 0, 1, [], 0, 0), (76, none, .iload_n 3, 1, [], 0, 0), (77, none, .aload_n 0, 1, [], 0, 0), (78, none, .getfield 146, 3, [6, 21, 0, 0, 691], 0, 0), (81, none, .if_icmp .ne 12, 3, [93], 0, 0), (84, none, .aload_n 0, 1, [], 0, 0), (85, none, .getfield 146, 3, [6, 21, 0, 0, 691], 0, 0), (88, none, .iconst 1, 1, [], 1, 0), (89, none, .iadd, 1, [], 0, 0), (90, none, .goto 7, 3, [97], 0, 0), (93, none, .aload_n 0, 1, [], 0, 0), (94, none, .getfield 146, 3, [6, 21, 0, 0, 691], 0, 0), (97, none, .putfield 146, 3, [6, 21, 0, 0, 691], 0, 0), (100, none, .goto 36, 3, [136], 0, 0), (103, none, .iload_n 3, 1, [], 0, 0), (104, none, .aload_n 0, 1, [], 0, 0), (105, none, .getfield 146, 3, [6, 21, 0, 0, 691], 0, 0), (108, none, .if_icmp .ge 28, 3, [136], 0, 0), (111, none, .aload_n 0, 1, [], 0, 0), (112, none, .dup, 1, [], 0, 0), (113, none, .getfield 146, 3, [6, 21, 0, 0, 691], 0, 0), (116, none, .iconst 1, 1, [], 1, 0), (117, none, .isub, 1, [], 0, 0), (118, none, .putfield 146, 3, [6, 21, 0, 0, 691], 0, 0), (121, none, .aload_n 0, 1, [], 0, 0), (122, none, .getfield 50, 3, [6, 22, 0, 0, 692], 0, 0), (125, none, .iload_n 3, 1, [], 0, 0), (126, none, .aload_n 0, 1, [], 0, 0), (127, none, .getfield 50, 3, [6, 22, 0, 0, 692], 0, 0), (130, none, .aload_n 0, 1, [], 0, 0), (131, none, .getfield 146, 3, [6, 21, 0, 0, 691], 0, 0), (134, none, .iaload, 1, [], 0, 0), (135, none, .iastore, 1, [], 0, 0), (136, none, .iinc 2 1, 3, [], 1, 0), (139, none, .goto (-132), 3, [7], 0, 0), (142, none, .return_, 1, [], 0, 0)]
def mt_Md_play : mMt := (cd_Md_play, none, 0, 0, [], false)
def cd_Md_same : List mEn := [(0, none, .iconst 1, 1, [], 1, 0), (1, none, .istore_n 3, 1, [], 0, 0), (2, none, .iconst 1, 1, [], 1, 0), (3, none, .istore 4, 2, [], 0, 0), (5, some [0, 1, 2, 3, 4], .iload 4, 2, [], 0, 0), (7, none, .bipush 6, 2, [], 6, 0), (9, none, .if_icmp .ge 46, 3, [55], 0, 0), (12, none, .iload_n 3, 1, [], 0, 0), (13, none, .ifCond .eq 34, 3, [47], 0, 0), (16, none, .aload_n 0, 1, [], 0, 0), (17, none, .getfield 41, 3, [6, 15, 0, 0, 685], 0, 0), (20, none, .bipush 6, 2, [], 6, 0), (22, none, .iload_n 1, 1, [], 0, 0), (23, none, .imul, 1, [], 0, 0), (24, none, .iload 4, 2, [], 0, 0), (26, none, .iadd, 1, [], 0, 0), (27, none, .iaload, 1, [], 0, 0), (28, none, .aload_n 0, 1, [], 0, 0), (29, none, .getfield 41, 3, [6, 15, 0, 0, 685], 0, 0), (32, none, .bipush 6, 2, [], 6, 0), (34, none, .iload_n 2, 1, [], 0, 0), (35, none, .imul, 1, [], 0, 0), (36, none, .iload 4, 2, [], 0, 0), (38, none, .iadd, 1, [], 0, 0), (39, none, .iaload, 1, [], 0, 0), (40, none, .if_icmp .ne 7, 3, [47], 0, 0), (43, none, .iconst 1, 1, [], 1, 0), (44, none, .goto 4, 3, [48], 0, 0), (47, none, .iconst 0, 1, [], 0, 0), (48, none, .istore_n 3, 1, [], 0, 0), (49, none, .iinc 4 1, 3, [], 1, 0), (52, none, .goto (-47), 3, [5], 0, 0), (55, none, .iload_n 3, 1, [], 0, 0), (56, none, .ireturn, 1, [], 0, 0)]
def mt_Md_same : mMt := (cd_Md_same, (some .boolean), 0, 0, [], false)
def cd_Md_check : List mEn := [(0, none, .aload_n 0, 1, [], 0, 0), (1, none, .iload_n 1, 1, [], 0, 0), (2, none, .aload_n 0, 1, [], 0, 0), (3, none, .getfield 82, 3, [6, 3, 0, 1, 673], 0, 0), (6, none, .ifCond .eq 24, 3, [30], 0, 0), (9, none, .aload_n 0, 1, [], 0, 0), (10, none, .iload_n 2, 1, [], 0, 0), (11, none, .iload_n 3, 1, [], 0, 0), (12, none, .invokevirtual 123, 3, [111, 3, 1, 0, 0, 0, 7, 0, 831], 0, 0), (15, none, .ifCond .eq 15, 3, [30], 0, 0), (18, none, .iload 4, 2, [], 0, 0), (20, none, .invokestatic 176, 3, [122, 1, 1, 0, 0, 0, 0, 0, 875], 0, 0), (23, none, .ifCond .eq 7, 3, [30], 0, 0), (26, none, .iconst 1, 1, [], 1, 0), (27, none, .goto 4, 3, [31], 0, 0), (30, none, .iconst 0, 1, [], 0, 0), (31, none, .invokevirtual 152, 3, [117, 3, 1, 0, 0, 0, 7, 0, 855], 0, 0), (34, none, .ifCond .ne 5, 3, [39], 0, 0), (37, none, .iconst 0, 1, [], 0, 0), (38, none, .ireturn, 1, [], 0, 0), (39, none, .aload_n 0, 1, [], 0, 0), (40, none, .iload_n 1, 1, [], 0, 0), (41, none, .invokevirtual 179, 3, [123, 2, 0, 0, 0, 0, 7, 0, 878], 0, 0), (44, none, .aload_n 0, 1, [], 0, 0), (45, none, .getfield 53, 3, [6, 23, 0, 0, 693], 0, 0), (48, none, .bipush 9, 2, [], 9, 0), (50, none, .iload_n 2, 1, [], 0, 0), (51, none, .imul, 1, [], 0, 0), (52, none, .iload_n 3, 1, [], 0, 0), (53, none, .iadd, 1, [], 0, 0), (54, none, .iaload, 1, [], 0, 0), (55, none, .iload 4, 2, [], 0, 0), (57, none, .ishr, 1, [], 0, 0), (58, none, .iconst 1, 1, [], 1, 0), (59, none, .iand, 1, [], 0, 0), (60, none, .iconst 1, 1, [], 1, 0), (61, none, .if_icmp .ne 7, 3, [68], 0, 0), (64, none, .iconst 1, 1, [], 1, 0), (65, none, .goto 4, 3, [69], 0, 0), (68, none, .iconst 0, 1, [], 0, 0), (69, none, .ireturn, 1, [], 0, 0)]
def mt_Md_check : mMt := (cd_Md_check, (some .boolean), 0, 0, [], false)
def cd_Md_isUser : List mEn := [(0, none, .iload_n 0, 1, [], 0, 0), (1, none, .ifCond .lt 13, 3, [14], 0, 0), (4, none, .iload_n 0, 1, [], 0, 0), (5, none, .bipush 8, 2, [], 8, 0), (7, none, .if_icmp .ge 7, 3, [14], 0, 0), (10, none, .iconst 1, 1, [], 1, 0), (11, none, .goto 4, 3, [15], 0, 0), (14, none, .iconst 0, 1, [], 0, 0), (15, none, .ireturn, 1, [], 0, 0)]
def mt_Md_isUser : mMt := (cd_Md_isUser, (some .boolean), 0, 0, [], false)
def cd_Md_findMembers : List mEn := [(0, none, .aload_n 0, 1, [], 0, 0), (1, none, .iload_n 1, 1, [], 0, 0), (2, none, .invokevirtual 156, 3, [119, 2, 0, 0, 0, 0, 7, 0, 863], 0, 0), (5, none, .iconst 0, 1, [], 0, 0), (6, none, .istore_n 2, 1, [], 0, 0), (7, some [0, 1, 2], .iload_n 2, 1, [], 0, 0), (8, none, .bipush 108, 2, [], 108, 0), (10, none, .if_icmp .ge 16, 3, [26], 0, 0), (13, none, .aload_n 0, 1, [], 0, 0), (14, none, .getfield 53, 3, [6, 23, 0, 0, 693], 0, 0), (17, none, .iload_n 2, 1, [], 0, 0), (18, none, .iconst 0, 1, [], 0, 0), (19, none, .iastore, 1, [], 0, 0), (20, none, .iinc 2 1, 3, [], 1, 0), (23, none, .goto (-16), 3, [7], 0, 0), (26, none, .iconst 0, 1, [], 0, 0), (27, none, .istore_n 2, 1, [], 0, 0), (28, some [0, 1, 2], .iload_n 2, 1, [], 0, 0), (29, none, .bipush 9, 2, [], 9, 0), (31, none, .if_icmp .gt 129, 3, [160], 0, 0), (34, none, .iconst 1, 1, [], 1, 0), (35, none, .istore_n 3, 1, [], 0, 0), (36, none, .iconst 0, 1, [], 0, 0), (37, none, .istore 4, 2, [], 0, 0), (39, some [0, 1, 2, 3, 4], .iload 4, 2, [], 0, 0), (41, none, .sipush 400, 3, [], 400, 0), (44, none, .if_icmp .ge 110, 3, [154], 0, 0), (47, none, .iload_n 3, 1, [], 0, 0), (48, none, .ifCond .eq 106, 3, [154], 0, 0), (51, none, .iconst 0, 1, [], 0, 0), (52, none, .istore_n 3, 1, [], 0, 0), (53, none, .iconst 0, 1, [], 0, 0), (54, none, .istore 5, 2, [], 0, 0), (56, some [0, 1, 2, 3, 4, 5], .iload 5, 2, [], 0, 0), (58, none, .bipush 108, 2, [], 108, 0), (60, none, .if_icmp .ge 88, 3, [148], 0, 0), (63, none, .iload 5, 2, [], 0, 0), (65, none, .bipush 9, 2, [], 9, 0), (67, none, .irem, 1, [], 0, 0), (68, none, .istore 6, 2, [], 0, 0), (70, none, .aload_n 0, 1, [], 0, 0), (71, none, .iload 5, 2, [], 0, 0), (73, none, .bipush 9, 2, [], 9, 0), (75, none, .idiv, 1, [], 0, 0), (76, none, .iload 6, 2, [], 0, 0), (78, none, .invokevirtual 123, 3, [111, 3, 1, 0, 0, 0, 7, 0, 831], 0, 0), (81, none, .ifCond .eq 61, 3, [142], 0, 0), (84, none, .aload_n 0, 1, [], 0, 0), (85, none, .getfield 38, 3, [6, 13, 0, 0, 683], 0, 0), (88, none, .iload 6, 2, [], 0, 0), (90, none, .iaload, 1, [], 0, 0), (91, none, .iload_n 2, 1, [], 0, 0), (92, none, .if_icmp .eq 6, 3, [98], 0, 0), (95, none, .goto 47, 3, [142], 0, 0), (98, none, .aload_n 0, 1, [], 0, 0), (99, none, .iload 5, 2, [], 0, 0), (101, none, .bipush 9, 2, [], 9, 0), (103, none, .idiv, 1, [], 0, 0), (104, none, .iload 6, 2, [], 0, 0), (106, none, .invokevirtual 173, 3, [124, 3, 1, 0, 0, 0, 7, 0, 882], 0, 0), (109, none, .istore 7, 2, [], 0, 0), (111, none, .iload_n 3, 1, [], 0, 0), (112, none, .ifCond .ne 15, 3, [127], 0, 0), (115, none, .iload 7, 2, [], 0, 0), (117, none, .aload_n 0, 1, [], 0, 0), (118, none, .getfield 53, 3, [6, 23, 0, 0, 693], 0, 0), (121, none, .iload 5, 2, [], 0, 0), (123, none, .iaload, 1, [], 0, 0), (124, none, .if_icmp .eq 7, 3, [131], 0, 0), (127, none, .iconst 1, 1, [], 1, 0), (128, none, .goto 4, 3, [132], 0, 0), (131, none, .iconst 0, 1, [], 0, 0), (132, none, .istore_n 3, 1, [], 0, 0), (133, none, .aload_n 0, 1, [], 0, 0), (134, none, .getfield 53, 3, [6, 23, 0, 0, 693], 0, 0), (137, none, .iload 5, 2, [], 0, 0), (139, none, .iload 7, 2, [], 0, 0), (141, none, .iastore, 1, [], 0, 0), (142, none, .iinc 5 1, 3, [], 1, 0), (145, none, .goto (-89), 3, [56], 0, 0), (148, none, .iinc 4 1, 3, [], 1, 0), (151, none, .goto (-112), 3, [39], 0, 0), (154, none, .iinc 2 1, 3, [], 1, 0), (157, none, .goto (-129), 3, [28], 0, 0), (160, none, .return_, 1, [], 0, 0)]
def mt_Md_findMembers : mMt := (cd_Md_findMembers, none, 0, 0, [], false)
def cd_Md_worked : List mEn := [(0, none, .aload_n 0, 1, [], 0, 0), (1, none, .getfield 26, 3, [6, 9, 0, 0, 679], 0, 0), (4, none, .iload_n 2, 1, [], 0, 0), (5, none, .iaload, 1, [], 0, 0), (6, none, .ifCond .ne 10, 3, [16], 0, 0), (9, none, .aload_n 0, 1, [], 0, 0), (10, none, .iload_n 1, 1, [], 0, 0), (11, none, .iload_n 2, 1, [], 0, 0), (12, none, .invokevirtual 159, 3, [125, 3, 1, 0, 0, 0, 7, 0, 886], 0, 0), (15, none, .ireturn, 1, [], 0, 0), (16, none, .iconst 0, 1, [], 0, 0), (17, none, .istore_n 3, 1, [], 0, 0), (18, none, .aload_n 0, 1, [], 0, 0), (19, none, .getfield 59, 3, [6, 25, 0, 0, 695], 0, 0), (22, none, .iconst 0, 1, [], 0, 0), (23, none, .iconst 0, 1, [], 0, 0), (24, none, .iastore, 1, [], 0, 0), (25, none, .iconst 0, 1, [], 0, 0), (26, none, .istore 4, 2, [], 0, 0), (28, some [0, 1, 2, 3, 4], .iload 4, 2, [], 0, 0), (30, none, .aload_n 0, 1, [], 0, 0), (31, none, .getfield 26, 3, [6, 9, 0, 0, 679], 0, 0), (34, none, .iload_n 2, 1, [], 0, 0), (35, none, .iaload, 1, [], 0, 0), (36, none, .if_icmp .ge 110, 3, [146], 0, 0), (39, none, .aload_n 0, 1, [], 0, 0), (40, none, .iload_n 2, 1, [], 0, 0), (41, none, .iload 4, 2, [], 0, 0), (43, none, .invokevirtual 86, 3, [98, 3, 1, 0, 0, 0, 7, 0, 780], 0, 0), (46, none, .istore 5, 2, [], 0, 0), (48, none, .iload 5, 2, [], 0, 0), (50, none, .bipush 40, 2, [], 40, 0), (52, none, .if_icmp .ne 16, 3, [68], 0, 0), (55, none, .iinc 3 1, 3, [], 1, 0), (58, none, .aload_n 0, 1, [], 0, 0), (59, none, .getfield 59, 3, [6, 25, 0, 0, 695], 0, 0), (62, none, .iload_n 3, 1, [], 0, 0), (63, none, .iconst 0, 1, [], 0, 0), (64, none, .iastore, 1, [], 0, 0), (65, none, .goto 75, 3, [140], 0, 0), (68, none, .iload 5, 2, [], 0, 0), (70, none, .bipush 41, 2, [], 41, 0), (72, none, .if_icmp .ne 22, 3, [94], 0, 0), (75, none, .iinc 3 (-1), 3, [], (-1), 0), (78, none, .aload_n 0, 1, [], 0, 0), (79, none, .iload_n 3, 1, [], 0, 0), (80, none, .aload_n 0, 1, [], 0, 0), (81, none, .getfield 56, 3, [6, 24, 0, 0, 694], 0, 0), (84, none, .iload_n 3, 1, [], 0, 0), (85, none, .iconst 1, 1, [], 1, 0), (86, none, .iadd, 1, [], 0, 0), (87, none, .iaload, 1, [], 0, 0), (88, none, .invokevirtual 166, 3, [126, 3, 0, 0, 0, 0, 7, 0, 890], 0, 0), (91, none, .goto 49, 3, [140], 0, 0), (94, none, .iload 5, 2, [], 0, 0), (96, none, .invokestatic 96, 3, [101, 1, 1, 0, 0, 0, 0, 0, 792], 0, 0), (99, none, .ifCond .eq 14, 3, [113], 0, 0), (102, none, .aload_n 0, 1, [], 0, 0), (103, none, .getfield 59, 3, [6, 25, 0, 0, 695], 0, 0), (106, none, .iload_n 3, 1, [], 0, 0), (107, none, .iload 5, 2, [], 0, 0), (109, none, .iastore, 1, [], 0, 0), (110, none, .goto 30, 3, [140], 0, 0), (113, none, .aload_n 0, 1, [], 0, 0), (114, none, .iload_n 3, 1, [], 0, 0), (115, none, .aload_n 0, 1, [], 0, 0), (116, none, .iload_n 1, 1, [], 0, 0), (117, none, .iload_n 2, 1, [], 0, 0), (118, none, .iload 4, 2, [], 0, 0), (120, none, .invokevirtual 170, 3, [127, 4, 1, 0, 0, 0, 7, 0, 894], 0, 0), (123, none, .invokevirtual 166, 3, [126, 3, 0, 0, 0, 0, 7, 0, 890], 0, 0), (126, none, .iload 4, 2, [], 0, 0), (128, none, .aload_n 0, 1, [], 0, 0), (129, none, .iload_n 2, 1, [], 0, 0), (130, none, .iload 4, 2, [], 0, 0), (132, none, .invokevirtual 93, 3, [99, 3, 1, 0, 0, 0, 7, 0, 784], 0, 0), (135, none, .iconst 1, 1, [], 1, 0), (136, none, .isub, 1, [], 0, 0), (137, none, .iadd, 1, [], 0, 0), (138, none, .istore 4, 2, [], 0, 0), (140, none, .iinc 4 1, 3, [], 1, 0), (143, none, .goto (-115), 3, [28], 0, 0), (146, none, .aload_n 0, 1, [], 0, 0), (147, none, .getfield 56, 3, [6, 24, 0, 0, 694], 0, 0), (150, none, .iconst 0, 1, [], 0, 0), (151, none, .iaload, 1, [], 0, 0), (152, none, .ireturn, 1, [], 0, 0)]
def mt_Md_worked : mMt := (cd_Md_worked, (some .int), 0, 0, [], false)
def cd_Md_told : List mEn := [(0, none, .iconst 0, 1, [], 0, 0), (1, none, .istore_n 3, 1, [], 0, 0), (2, none, .iconst 0, 1, [], 0, 0), (3, none, .istore 4, 2, [], 0, 0), (5, some [0, 1, 2, 3, 4], .iload 4, 2, [], 0, 0), (7, none, .aload_n 0, 1, [], 0, 0), (8, none, .getfield 146, 3, [6, 21, 0, 0, 691], 0, 0), (11, none, .if_icmp .ge 119, 3, [130], 0, 0), (14, none, .bipush 6, 2, [], 6, 0), (16, none, .aload_n 0, 1, [], 0, 0), (17, none, .getfield 50, 3, [6, 22, 0, 0, 692], 0, 0), (20, none, .iload 4, 2, [], 0, 0), (22, none, .iaload, 1, [], 0, 0), (23, none, .imul, 1, [], 0, 0), (24, none, .istore 5, 2, [], 0, 0), (26, none, .aload_n 0, 1, [], 0, 0), (27, none, .getfield 41, 3, [6, 15, 0, 0, 685], 0, 0), (30, none, .iload 5, 2, [], 0, 0), (32, none, .iconst 1, 1, [], 1, 0), (33, none, .iadd, 1, [], 0, 0), (34, none, .iaload, 1, [], 0, 0), (35, none, .iload_n 1, 1, [], 0, 0), (36, none, .if_icmp .ne 88, 3, [124], 0, 0), (39, none, .aload_n 0, 1, [], 0, 0), (40, none, .getfield 41, 3, [6, 15, 0, 0, 685], 0, 0), (43, none, .iload 5, 2, [], 0, 0), (45, none, .iconst 2, 1, [], 2, 0), (46, none, .iadd, 1, [], 0, 0), (47, none, .iaload, 1, [], 0, 0), (48, none, .iload_n 2, 1, [], 0, 0), (49, none, .if_icmp .eq 6, 3, [55], 0, 0), (52, none, .goto 72, 3, [124], 0, 0), (55, none, .aload_n 0, 1, [], 0, 0), (56, none, .getfield 41, 3, [6, 15, 0, 0, 685], 0, 0), (59, none, .iload 5, 2, [], 0, 0), (61, none, .iconst 3, 1, [], 3, 0), (62, none, .iadd, 1, [], 0, 0), (63, none, .iaload, 1, [], 0, 0), (64, none, .ifCond .ne 17, 3, [81], 0, 0), (67, none, .iload_n 3, 1, [], 0, 0), (68, none, .iconst 1, 1, [], 1, 0), (69, none, .aload_n 0, 1, [], 0, 0), (70, none, .getfield 41, 3, [6, 15, 0, 0, 685], 0, 0), (73, none, .iload 5, 2, [], 0, 0), (75, none, .iconst 4, 1, [], 4, 0), (76, none, .iadd, 1, [], 0, 0), (77, none, .iaload, 1, [], 0, 0), (78, none, .ishl, 1, [], 0, 0), (79, none, .ior, 1, [], 0, 0), (80, none, .istore_n 3, 1, [], 0, 0), (81, none, .aload_n 0, 1, [], 0, 0), (82, none, .getfield 41, 3, [6, 15, 0, 0, 685], 0, 0), (85, none, .iload 5, 2, [], 0, 0), (87, none, .iconst 3, 1, [], 3, 0), (88, none, .iadd, 1, [], 0, 0), (89, none, .iaload, 1, [], 0, 0), (90, none, .iconst 2, 1, [], 2, 0), (91, none, .if_icmp .ne 33, 3, [124], 0, 0), (94, none, .iload_n 3, 1, [], 0, 0), (95, none, .aload_n 0, 1, [], 0, 0), (96, none, .getfield 53, 3, [6, 23, 0, 0, 693], 0, 0), (99, none, .bipush 9, 2, [], 9, 0), (101, none, .aload_n 0, 1, [], 0, 0), (102, none, .getfield 41, 3, [6, 15, 0, 0, 685], 0, 0), (105, none, .iload 5, 2, [], 0, 0), (107, none, .iconst 4, 1, [], 4, 0), (108, none, .iadd, 1, [], 0, 0), (109, none, .iaload, 1, [], 0, 0), (110, none, .imul, 1, [], 0, 0), (111, none, .aload_n 0, 1, [], 0, 0), (112, none, .getfield 41, 3, [6, 15, 0, 0, 685], 0, 0), (115, none, .iload 5, 2, [], 0, 0), (117, none, .iconst 5, 1, [], 5, 0), (118, none, .iadd, 1, [], 0, 0), (119, none, .iaload, 1, [], 0, 0), (120, none, .iadd, 1, [], 0, 0), (121, none, .iaload, 1, [], 0, 0), (122, none, .ior, 1, [], 0, 0), (123, none, .istore_n 3, 1, [], 0, 0), (124, none, .iinc 4 1, 3, [], 1, 0), (127, none, .goto (-122), 3, [5], 0, 0), (130, none, .iload_n 3, 1, [], 0, 0), (131, none, .ireturn, 1, [], 0, 0)]
def mt_Md_told : mMt := (cd_Md_told, (some .int), 0, 0, [], false)
def cd_Md_join : List mEn := [(0, none, .aload_n 0, 1, [], 0, 0), (1, none, .getfield 59, 3, [6, 25, 0, 0, 695], 0, 0), (4, none, .iload_n 1, 1, [], 0, 0), (5, none, .iaload, 1, [], 0, 0), (6, none, .istore_n 3, 1, [], 0, 0), (7, none, .aload_n 0, 1, [], 0, 0), (8, none, .getfield 56, 3, [6, 24, 0, 0, 694], 0, 0), (11, none, .iload_n 1, 1, [], 0, 0), (12, none, .iaload, 1, [], 0, 0), (13, none, .istore 4, 2, [], 0, 0), (15, none, .aload_n 0, 1, [], 0, 0), (16, none, .getfield 56, 3, [6, 24, 0, 0, 694], 0, 0), (19, none, .iload_n 1, 1, [], 0, 0), (20, none, .iload_n 3, 1, [], 0, 0), (21, none, .bipush 38, 2, [], 38, 0), (23, none, .if_icmp .ne 10, 3, [33], 0, 0), (26, none, .iload 4, 2, [], 0, 0), (28, none, .iload_n 2, 1, [], 0, 0), (29, none, .iand, 1, [], 0, 0), (30, none, .goto 32, 3, [62], 0, 0), (33, none, .iload_n 3, 1, [], 0, 0), (34, none, .bipush 124, 2, [], 124, 0), (36, none, .if_icmp .ne 10, 3, [46], 0, 0), (39, none, .iload 4, 2, [], 0, 0), (41, none, .iload_n 2, 1, [], 0, 0), (42, none, .ior, 1, [], 0, 0), (43, none, .goto 19, 3, [62], 0, 0), (46, none, .iload_n 3, 1, [], 0, 0), (47, none, .bipush 45, 2, [], 45, 0), (49, none, .if_icmp .ne 12, 3, [61], 0, 0), (52, none, .iload 4, 2, [], 0, 0), (54, none, .iload_n 2, 1, [], 0, 0), (55, none, .iconst (-1), 1, [], (-1), 0), (56, none, .ixor, 1, [], 0, 0), (57, none, .iand, 1, [], 0, 0), (58, none, .goto 4, 3, [62], 0, 0), (61, none, .iload_n 2, 1, [], 0, 0), (62, none, .iastore, 1, [], 0, 0), (63, none, .return_, 1, [], 0, 0)]
def mt_Md_join : mMt := (cd_Md_join, none, 0, 0, [], false)
def cd_Md_partOf : List mEn := [(0, none, .aload_n 0, 1, [], 0, 0), (1, none, .iload_n 2, 1, [], 0, 0), (2, none, .iload_n 3, 1, [], 0, 0), (3, none, .invokevirtual 86, 3, [98, 3, 1, 0, 0, 0, 7, 0, 780], 0, 0), (6, none, .istore 4, 2, [], 0, 0), (8, none, .iload 4, 2, [], 0, 0), (10, none, .bipush 84, 2, [], 84, 0), (12, none, .if_icmp .ne 10, 3, [22], 0, 0), (15, none, .aload_n 0, 1, [], 0, 0), (16, none, .iload_n 1, 1, [], 0, 0), (17, none, .iload_n 2, 1, [], 0, 0), (18, none, .invokevirtual 159, 3, [125, 3, 1, 0, 0, 0, 7, 0, 886], 0, 0), (21, none, .ireturn, 1, [], 0, 0), (22, none, .aload_n 0, 1, [], 0, 0), (23, none, .iload_n 2, 1, [], 0, 0), (24, none, .iload_n 3, 1, [], 0, 0), (25, none, .iconst 1, 1, [], 1, 0), (26, none, .iadd, 1, [], 0, 0), (27, none, .invokevirtual 90, 3, [100, 3, 1, 0, 0, 0, 7, 0, 788], 0, 0), (30, none, .istore 5, 2, [], 0, 0), (32, none, .iload 4, 2, [], 0, 0), (34, none, .bipush 99, 2, [], 99, 0), (36, none, .if_icmp .ne 18, 3, [54], 0, 0), (39, none, .aload_n 0, 1, [], 0, 0), (40, none, .getfield 53, 3, [6, 23, 0, 0, 693], 0, 0), (43, none, .bipush 9, 2, [], 9, 0), (45, none, .iload_n 1, 1, [], 0, 0), (46, none, .imul, 1, [], 0, 0), (47, none, .iload 5, 2, [], 0, 0), (49, none, .iadd, 1, [], 0, 0), (50, none, .iaload, 1, [], 0, 0), (51, none, .goto 18, 3, [69], 0, 0), (54, none, .aload_n 0, 1, [], 0, 0), (55, none, .iload_n 1, 1, [], 0, 0), (56, none, .iload 5, 2, [], 0, 0), (58, none, .aload_n 0, 1, [], 0, 0), (59, none, .iload_n 2, 1, [], 0, 0), (60, none, .iload_n 3, 1, [], 0, 0), (61, none, .iconst 2, 1, [], 2, 0), (62, none, .iadd, 1, [], 0, 0), (63, none, .invokevirtual 90, 3, [100, 3, 1, 0, 0, 0, 7, 0, 788], 0, 0), (66, none, .invokevirtual 162, 3, [128, 4, 1, 0, 0, 0, 7, 0, 898], 0, 0), (69, none, .ireturn, 1, [], 0, 0)]
def mt_Md_partOf : mMt := (cd_Md_partOf, (some .int), 0, 0, [], false)
def cd_Md_from : List mEn := [(0, none, .iconst 0, 1, [], 0, 0), (1, none, .istore 4, 2, [], 0, 0), (3, none, .iconst 0, 1, [], 0, 0), (4, none, .istore 5, 2, [], 0, 0), (6, some [0, 1, 2, 3, 4, 5], .iload 5, 2, [], 0, 0), (8, none, .aload_n 0, 1, [], 0, 0), (9, none, .getfield 146, 3, [6, 21, 0, 0, 691], 0, 0), (12, none, .if_icmp .ge 104, 3, [116], 0, 0), (15, none, .bipush 6, 2, [], 6, 0), (17, none, .aload_n 0, 1, [], 0, 0), (18, none, .getfield 50, 3, [6, 22, 0, 0, 692], 0, 0), (21, none, .iload 5, 2, [], 0, 0), (23, none, .iaload, 1, [], 0, 0), (24, none, .imul, 1, [], 0, 0), (25, none, .istore 6, 2, [], 0, 0), (27, none, .aload_n 0, 1, [], 0, 0), (28, none, .getfield 41, 3, [6, 15, 0, 0, 685], 0, 0), (31, none, .iload 6, 2, [], 0, 0), (33, none, .iconst 1, 1, [], 1, 0), (34, none, .iadd, 1, [], 0, 0), (35, none, .iaload, 1, [], 0, 0), (36, none, .iload_n 1, 1, [], 0, 0), (37, none, .if_icmp .ne 73, 3, [110], 0, 0), (40, none, .aload_n 0, 1, [], 0, 0), (41, none, .getfield 41, 3, [6, 15, 0, 0, 685], 0, 0), (44, none, .iload 6, 2, [], 0, 0), (46, none, .iconst 2, 1, [], 2, 0), (47, none, .iadd, 1, [], 0, 0), (48, none, .iaload, 1, [], 0, 0), (49, none, .iload_n 2, 1, [], 0, 0), (50, none, .if_icmp .ne 60, 3, [110], 0, 0), (53, none, .aload_n 0, 1, [], 0, 0), (54, none, .getfield 41, 3, [6, 15, 0, 0, 685], 0, 0), (57, none, .iload 6, 2, [], 0, 0), (59, none, .iconst 3, 1, [], 3, 0), (60, none, .iadd, 1, [], 0, 0), (61, none, .iaload, 1, [], 0, 0), (62, none, .iconst 1, 1, [], 1, 0), (63, none, .if_icmp .ne 47, 3, [110], 0, 0), (66, none, .aload_n 0, 1, [], 0, 0), (67, none, .getfield 41, 3, [6, 15, 0, 0, 685], 0, 0), (70, none, .iload 6, 2, [], 0, 0), (72, none, .iconst 4, 1, [], 4, 0), (73, none, .iadd, 1, [], 0, 0), (74, none, .iaload, 1, [], 0, 0), (75, none, .iconst 4, 1, [], 4, 0), (76, none, .idiv, 1, [], 0, 0), (77, none, .aload_n 0, 1, [], 0, 0), (78, none, .getfield 7, 3, [6, 4, 0, 0, 674], 0, 0), (81, none, .iload_n 3, 1, [], 0, 0), (82, none, .iaload, 1, [], 0, 0), (83, none, .if_icmp .ne 27, 3, [110], 0, 0), (86, none, .iload 4, 2, [], 0, 0), (88, none, .aload_n 0, 1, [], 0, 0), (89, none, .getfield 53, 3, [6, 23, 0, 0, 693], 0, 0), (92, none, .bipush 9, 2, [], 9, 0), (94, none, .aload_n 0, 1, [], 0, 0), (95, none, .getfield 41, 3, [6, 15, 0, 0, 685], 0, 0), (98, none, .iload 6, 2, [], 0, 0), (100, none, .iconst 4, 1, [], 4, 0), (101, none, .iadd, 1, [], 0, 0), (102, none, .iaload, 1, [], 0, 0), (103, none, .imul, 1, [], 0, 0), (104, none, .iload_n 3, 1, [], 0, 0), (105, none, .iadd, 1, [], 0, 0), (106, none, .iaload, 1, [], 0, 0), (107, none, .ior, 1, [], 0, 0), (108, none, .istore 4, 2, [], 0, 0), (110, none, .iinc 5 1, 3, [], 1, 0), (113, none, .goto (-107), 3, [6], 0, 0), (116, none, .iload 4, 2, [], 0, 0), (118, none, .ireturn, 1, [], 0, 0)]
def mt_Md_from : mMt := (cd_Md_from, (some .int), 0, 0, [], false)
def cd_Md_expand : List mEn := [(0, none, .aload_n 0, 1, [], 0, 0), (1, none, .iload_n 1, 1, [], 0, 0), (2, none, .aload_n 0, 1, [], 0, 0), (3, none, .getfield 82, 3, [6, 3, 0, 1, 673], 0, 0), (6, none, .ifCond .eq 16, 3, [22], 0, 0), (9, none, .aload_n 0, 1, [], 0, 0), (10, none, .iload_n 2, 1, [], 0, 0), (11, none, .iload_n 3, 1, [], 0, 0), (12, none, .invokevirtual 123, 3, [111, 3, 1, 0, 0, 0, 7, 0, 831], 0, 0), (15, none, .ifCond .eq 7, 3, [22], 0, 0), (18, none, .iconst 1, 1, [], 1, 0), (19, none, .goto 4, 3, [23], 0, 0), (22, none, .iconst 0, 1, [], 0, 0), (23, none, .invokevirtual 152, 3, [117, 3, 1, 0, 0, 0, 7, 0, 855], 0, 0), (26, none, .ifCond .ne 5, 3, [31], 0, 0), (29, none, .iconst 0, 1, [], 0, 0), (30, none, .ireturn, 1, [], 0, 0), (31, none, .aload_n 0, 1, [], 0, 0), (32, none, .iload_n 1, 1, [], 0, 0), (33, none, .invokevirtual 179, 3, [123, 2, 0, 0, 0, 0, 7, 0, 878], 0, 0), (36, none, .aload_n 0, 1, [], 0, 0), (37, none, .getfield 53, 3, [6, 23, 0, 0, 693], 0, 0), (40, none, .bipush 9, 2, [], 9, 0), (42, none, .iload_n 2, 1, [], 0, 0), (43, none, .imul, 1, [], 0, 0), (44, none, .iload_n 3, 1, [], 0, 0), (45, none, .iadd, 1, [], 0, 0), (46, none, .iaload, 1, [], 0, 0), (47, none, .ireturn, 1, [], 0, 0)]
def mt_Md_expand : mMt := (cd_Md_expand, (some .int), 0, 0, [], false)
def cd_Md_lookup : List mEn := [(0, none, .aload_n 0, 1, [], 0, 0), (1, none, .iload_n 1, 1, [], 0, 0), (2, none, .aload_n 0, 1, [], 0, 0), (3, none, .getfield 82, 3, [6, 3, 0, 1, 673], 0, 0), (6, none, .ifCond .eq 22, 3, [28], 0, 0), (9, none, .aload_n 0, 1, [], 0, 0), (10, none, .iload_n 2, 1, [], 0, 0), (11, none, .invokevirtual 78, 3, [96, 2, 1, 0, 0, 0, 7, 0, 772], 0, 0), (14, none, .ifCond .eq 14, 3, [28], 0, 0), (17, none, .iload_n 3, 1, [], 0, 0), (18, none, .invokestatic 176, 3, [122, 1, 1, 0, 0, 0, 0, 0, 875], 0, 0), (21, none, .ifCond .eq 7, 3, [28], 0, 0), (24, none, .iconst 1, 1, [], 1, 0), (25, none, .goto 4, 3, [29], 0, 0), (28, none, .iconst 0, 1, [], 0, 0), (29, none, .invokevirtual 152, 3, [117, 3, 1, 0, 0, 0, 7, 0, 855], 0, 0), (32, none, .ifCond .ne 5, 3, [37], 0, 0), (35, none, .iconst 0, 1, [], 0, 0), (36, none, .ireturn, 1, [], 0, 0), (37, none, .aload_n 0, 1, [], 0, 0), (38, none, .iload_n 1, 1, [], 0, 0), (39, none, .invokevirtual 179, 3, [123, 2, 0, 0, 0, 0, 7, 0, 878], 0, 0), (42, none, .iconst 0, 1, [], 0, 0), (43, none, .istore 4, 2, [], 0, 0), (45, none, .iconst 0, 1, [], 0, 0), (46, none, .istore 5, 2, [], 0, 0), (48, some [0, 1, 2, 3, 4, 5], .iload 5, 2, [], 0, 0), (50, none, .iconst 4, 1, [], 4, 0), (51, none, .if_icmp .ge 42, 3, [93], 0, 0), (54, none, .iload 4, 2, [], 0, 0), (56, none, .aload_n 0, 1, [], 0, 0), (57, none, .getfield 53, 3, [6, 23, 0, 0, 693], 0, 0), (60, none, .bipush 9, 2, [], 9, 0), (62, none, .iconst 4, 1, [], 4, 0), (63, none, .aload_n 0, 1, [], 0, 0), (64, none, .getfield 7, 3, [6, 4, 0, 0, 674], 0, 0), (67, none, .iload_n 2, 1, [], 0, 0), (68, none, .iaload, 1, [], 0, 0), (69, none, .imul, 1, [], 0, 0), (70, none, .iload 5, 2, [], 0, 0), (72, none, .iadd, 1, [], 0, 0), (73, none, .imul, 1, [], 0, 0), (74, none, .iload_n 2, 1, [], 0, 0), (75, none, .iadd, 1, [], 0, 0), (76, none, .iaload, 1, [], 0, 0), (77, none, .iload_n 3, 1, [], 0, 0), (78, none, .ishr, 1, [], 0, 0), (79, none, .iconst 1, 1, [], 1, 0), (80, none, .iand, 1, [], 0, 0), (81, none, .iload 5, 2, [], 0, 0), (83, none, .ishl, 1, [], 0, 0), (84, none, .ior, 1, [], 0, 0), (85, none, .istore 4, 2, [], 0, 0), (87, none, .iinc 5 1, 3, [], 1, 0), (90, none, .goto (-42), 3, [48], 0, 0), (93, none, .iload 4, 2, [], 0, 0), (95, none, .ireturn, 1, [], 0, 0)]
def mt_Md_lookup : mMt := (cd_Md_lookup, (some .int), 0, 0, [], false)
def cd_Md_nested : List mEn := [(0, none, .aload_n 0, 1, [], 0, 0), (1, none, .iload_n 1, 1, [], 0, 0), (2, none, .aload_n 0, 1, [], 0, 0), (3, none, .getfield 82, 3, [6, 3, 0, 1, 673], 0, 0), (6, none, .ifCond .eq 27, 3, [33], 0, 0), (9, none, .aload_n 0, 1, [], 0, 0), (10, none, .iload_n 2, 1, [], 0, 0), (11, none, .iload_n 3, 1, [], 0, 0), (12, none, .invokevirtual 123, 3, [111, 3, 1, 0, 0, 0, 7, 0, 831], 0, 0), (15, none, .ifCond .eq 18, 3, [33], 0, 0), (18, none, .aload_n 0, 1, [], 0, 0), (19, none, .iload 4, 2, [], 0, 0), (21, none, .iload 5, 2, [], 0, 0), (23, none, .invokevirtual 123, 3, [111, 3, 1, 0, 0, 0, 7, 0, 831], 0, 0), (26, none, .ifCond .eq 7, 3, [33], 0, 0), (29, none, .iconst 1, 1, [], 1, 0), (30, none, .goto 4, 3, [34], 0, 0), (33, none, .iconst 0, 1, [], 0, 0), (34, none, .invokevirtual 152, 3, [117, 3, 1, 0, 0, 0, 7, 0, 855], 0, 0), (37, none, .ifCond .ne 5, 3, [42], 0, 0), (40, none, .iconst 0, 1, [], 0, 0), (41, none, .ireturn, 1, [], 0, 0), (42, some [0, 1, 2, 3, 4, 5], .aload_n 0, 1, [], 0, 0), (43, none, .iload_n 1, 1, [], 0, 0), (44, none, .invokevirtual 156, 3, [119, 2, 0, 0, 0, 0, 7, 0, 863], 0, 0), (47, none, .iconst 0, 1, [], 0, 0), (48, none, .istore 6, 2, [], 0, 0), (50, some [0, 1, 2, 3, 4, 5, 6], .iload 6, 2, [], 0, 0), (52, none, .bipush 108, 2, [], 108, 0), (54, none, .if_icmp .ge 17, 3, [71], 0, 0), (57, none, .aload_n 0, 1, [], 0, 0), (58, none, .getfield 65, 3, [6, 27, 0, 0, 697], 0, 0), (61, none, .iload 6, 2, [], 0, 0), (63, none, .iconst 0, 1, [], 0, 0), (64, none, .bastore, 1, [], 0, 0), (65, none, .iinc 6 1, 3, [], 1, 0), (68, none, .goto (-18), 3, [50], 0, 0), (71, none, .iconst 1, 1, [], 1, 0), (72, none, .istore 6, 2, [], 0, 0), (74, none, .iconst 0, 1, [], 0, 0), (75, none, .istore 7, 2, [], 0, 0), (77, some [0, 1, 2, 3, 4, 5, 6, 7], .iload 7, 2, [], 0, 0), (79, none, .bipush 120, 2, [], 120, 0), (81, none, .if_icmp .ge 176, 3, [257], 0, 0), (84, none, .iload 6, 2, [], 0, 0), (86, none, .ifCond .eq 171, 3, [257], 0, 0), (89, none, .iconst 0, 1, [], 0, 0), (90, none, .istore 6, 2, [], 0, 0), (92, none, .iconst 0, 1, [], 0, 0), (93, none, .istore 8, 2, [], 0, 0), (95, some [0, 1, 2, 3, 4, 5, 6, 7, 8], .iload 8, 2, [], 0, 0), (97, none, .aload_n 0, 1, [], 0, 0), (98, none, .getfield 146, 3, [6, 21, 0, 0, 691], 0, 0), (101, none, .if_icmp .ge 150, 3, [251], 0, 0), (104, none, .bipush 6, 2, [], 6, 0), (106, none, .aload_n 0, 1, [], 0, 0), (107, none, .getfield 50, 3, [6, 22, 0, 0, 692], 0, 0), (110, none, .iload 8, 2, [], 0, 0), (112, none, .iaload, 1, [], 0, 0), (113, none, .imul, 1, [], 0, 0), (114, none, .istore 9, 2, [], 0, 0), (116, none, .aload_n 0, 1, [], 0, 0), (117, none, .getfield 41, 3, [6, 15, 0, 0, 685], 0, 0), (120, none, .iload 9, 2, [], 0, 0), (122, none, .iconst 1, 1, [], 1, 0), (123, none, .iadd, 1, [], 0, 0), (124, none, .iaload, 1, [], 0, 0), (125, none, .iload_n 2, 1, [], 0, 0), (126, none, .if_icmp .ne 16, 3, [142], 0, 0), (129, none, .aload_n 0, 1, [], 0, 0), (130, none, .getfield 41, 3, [6, 15, 0, 0, 685], 0, 0), (133, none, .iload 9, 2, [], 0, 0), (135, none, .iconst 2, 1, [], 2, 0), (136, none, .iadd, 1, [], 0, 0), (137, none, .iaload, 1, [], 0, 0), (138, none, .iload_n 3, 1, [], 0, 0), (139, none, .if_icmp .eq 33, 3, [172], 0, 0), (142, none, .aload_n 0, 1, [], 0, 0), (143, none, .getfield 65, 3, [6, 27, 0, 0, 697], 0, 0), (146, none, .bipush 9, 2, [], 9, 0), (148, none, .aload_n 0, 1, [], 0, 0), (149, none, .getfield 41, 3, [6, 15, 0, 0, 685], 0, 0), (152, none, .iload 9, 2, [], 0, 0), (154, none, .iconst 1, 1, [], 1, 0), (155, none, .iadd, 1, [], 0, 0), (156, none, .iaload, 1, [], 0, 0), (157, none, .imul, 1, [], 0, 0), (158, none, .aload_n 0, 1, [], 0, 0), (159, none, .getfield 41, 3, [6, 15, 0, 0, 685], 0, 0), (162, none, .iload 9, 2, [], 0, 0), (164, none, .iconst 2, 1, [], 2, 0), (165, none, .iadd, 1, [], 0, 0), (166, none, .iaload, 1, [], 0, 0), (167, none, .iadd, 1, [], 0, 0), (168, none, .baload, 1, [], 0, 0), (169, none, .ifCond .eq 7, 3, [176], 0, 0), (172, some [0, 1, 2, 3, 4, 5, 6, 7, 8, 9], .iconst 1, 1, [], 1, 0), (173, none, .goto 4, 3, [177], 0, 0), (176, none, .iconst 0, 1, [], 0, 0), (177, none, .istore 10, 2, [], 0, 0), (179, none, .bipush 9, 2, [], 9, 0), (181, none, .aload_n 0, 1, [], 0, 0), (182, none, .getfield 41, 3, [6, 15, 0, 0, 685], 0, 0), (185, none, .iload 9, 2, [], 0, 0), (187, none, .iconst 4, 1, [], 4, 0), (188, none, .iadd, 1, [], 0, 0), (189, none, .iaload, 1, [], 0, 0), (190, none, .imul, 1, [], 0, 0), (191, none, .aload_n 0, 1, [], 0, 0), (192, none, .getfield 41, 3, [6, 15, 0, 0, 685], 0, 0), (195, none, .iload 9, 2, [], 0, 0), (197, none, .iconst 5, 1, [], 5, 0), (198, none, .iadd, 1, [], 0, 0), (199, none, .iaload, 1, [], 0, 0), (200, none, .iadd, 1, [], 0, 0), (201, none, .istore 11, 2, [], 0, 0), (203, none, .aload_n 0, 1, [], 0, 0), (204, none, .getfield 41, 3, [6, 15, 0, 0, 685], 0, 0), (207, none, .iload 9, 2, [], 0, 0), (209, none, .iconst 3, 1, [], 3, 0), (210, none, .iadd, 1, [], 0, 0), (211, none, .iaload, 1, [], 0, 0), (212, none, .iconst 2, 1, [], 2, 0), (213, none, .if_icmp .ne 32, 3, [245], 0, 0), (216, none, .iload 10, 2, [], 0, 0), (218, none, .ifCond .eq 27, 3, [245], 0, 0), (221, none, .aload_n 0, 1, [], 0, 0), (222, none, .getfield 65, 3, [6, 27, 0, 0, 697], 0, 0), (225, none, .iload 11, 2, [], 0, 0), (227, none, .baload, 1, [], 0, 0), (228, none, .ifCond .eq 6, 3, [234], 0, 0), (231, none, .goto 14, 3, [245], 0, 0), (234, some [0, 1, 2, 3, 4, 5, 6, 7, 8, 9, 10, 11], .aload_n 0, 1, [], 0, 0), (235, none, .getfield 65, 3, [6, 27, 0, 0, 697], 0, 0), (238, none, .iload 11, 2, [], 0, 0), (240, none, .iconst 1, 1, [], 1, 0), (241, none, .bastore, 1, [], 0, 0), (242, none, .iconst 1, 1, [], 1, 0), (243, none, .istore 6, 2, [], 0, 0), (245, some [0, 1, 2, 3, 4, 5, 6, 7, 8, 9, 10, 11], .iinc 8 1, 3, [], 1, 0), (248, none, .goto (-153), 3, [95], 0, 0), (251, none, .iinc 7 1, 3, [], 1, 0), (254, none, .goto (-177), 3, [77], 0, 0), (257, none, .aload_n 0, 1, [], 0, 0), (258, none, .getfield 65, 3, [6, 27, 0, 0, 697], 0, 0), (261, none, .bipush 9, 2, [], 9, 0), (263, none, .iload 4, 2, [], 0, 0), (265, none, .imul, 1, [], 0, 0), (266, none, .iload 5, 2, [], 0, 0), (268, none, .iadd, 1, [], 0, 0), (269, none, .baload, 1, [], 0, 0), (270, none, .ireturn, 1, [], 0, 0)]
def mt_Md_nested : mMt := (cd_Md_nested, (some .boolean), 0, 0, [], false)
def cd_Md_watch : List mEn := [(0, none, .aload_n 0, 1, [], 0, 0), (1, none, .iload_n 1, 1, [], 0, 0), (2, none, .iconst 1, 1, [], 1, 0), (3, none, .invokevirtual 152, 3, [117, 3, 1, 0, 0, 0, 7, 0, 855], 0, 0), (6, none, .ifCond .eq 16, 3, [22], 0, 0), (9, none, .aload_n 0, 1, [], 0, 0), (10, none, .getfield 140, 3, [6, 14, 0, 0, 684], 0, 0), (13, none, .aload_n 0, 1, [], 0, 0), (14, none, .iload_n 1, 1, [], 0, 0), (15, none, .invokevirtual 182, 3, [133, 2, 1, 0, 0, 0, 7, 0, 918], 0, 0), (18, none, .isub, 1, [], 0, 0), (19, none, .goto 4, 3, [23], 0, 0), (22, none, .iconst 0, 1, [], 0, 0), (23, none, .ireturn, 1, [], 0, 0)]
def mt_Md_watch : mMt := (cd_Md_watch, (some .int), 0, 0, [], false)
def cd_Md_since : List mEn := [(0, none, .iconst 0, 1, [], 0, 0), (1, none, .istore_n 2, 1, [], 0, 0), (2, some [0, 1, 2], .iload_n 2, 1, [], 0, 0), (3, none, .aload_n 0, 1, [], 0, 0), (4, none, .getfield 140, 3, [6, 14, 0, 0, 684], 0, 0), (7, none, .if_icmp .ge 19, 3, [26], 0, 0), (10, none, .aload_n 0, 1, [], 0, 0), (11, none, .getfield 44, 3, [6, 16, 0, 0, 686], 0, 0), (14, none, .iload_n 2, 1, [], 0, 0), (15, none, .iaload, 1, [], 0, 0), (16, none, .iload_n 1, 1, [], 0, 0), (17, none, .if_icmp .gt 9, 3, [26], 0, 0), (20, none, .iinc 2 1, 3, [], 1, 0), (23, none, .goto (-21), 3, [2], 0, 0), (26, none, .iload_n 2, 1, [], 0, 0), (27, none, .ireturn, 1, [], 0, 0)]
def mt_Md_since : mMt := (cd_Md_since, (some .int), 0, 0, [], false)
def cd_Md_watched : List mEn := [(0, none, .aload_n 0, 1, [], 0, 0), (1, none, .iload_n 1, 1, [], 0, 0), (2, none, .iconst 1, 1, [], 1, 0), (3, none, .invokevirtual 152, 3, [117, 3, 1, 0, 0, 0, 7, 0, 855], 0, 0), (6, none, .ifCond .ne 5, 3, [11], 0, 0), (9, none, .iconst 0, 1, [], 0, 0), (10, none, .ireturn, 1, [], 0, 0), (11, none, .aload_n 0, 1, [], 0, 0), (12, none, .iload_n 1, 1, [], 0, 0), (13, none, .invokevirtual 182, 3, [133, 2, 1, 0, 0, 0, 7, 0, 918], 0, 0), (16, none, .iload_n 2, 1, [], 0, 0), (17, none, .iadd, 1, [], 0, 0), (18, none, .istore 4, 2, [], 0, 0), (20, none, .iload_n 2, 1, [], 0, 0), (21, none, .ifCond .lt 27, 3, [48], 0, 0), (24, none, .iload_n 2, 1, [], 0, 0), (25, none, .aload_n 0, 1, [], 0, 0), (26, none, .getfield 140, 3, [6, 14, 0, 0, 684], 0, 0), (29, none, .aload_n 0, 1, [], 0, 0), (30, none, .iload_n 1, 1, [], 0, 0), (31, none, .invokevirtual 182, 3, [133, 2, 1, 0, 0, 0, 7, 0, 918], 0, 0), (34, none, .isub, 1, [], 0, 0), (35, none, .if_icmp .ge 13, 3, [48], 0, 0), (38, none, .iload_n 3, 1, [], 0, 0), (39, none, .ifCond .lt 9, 3, [48], 0, 0), (42, none, .iload_n 3, 1, [], 0, 0), (43, none, .bipush 6, 2, [], 6, 0), (45, none, .if_icmp .le 5, 3, [50], 0, 0), (48, none, .iconst (-1), 1, [], (-1), 0), (49, none, .ireturn, 1, [], 0, 0), (50, none, .iload_n 3, 1, [], 0, 0), (51, none, .bipush 6, 2, [], 6, 0), (53, none, .if_icmp .ne 13, 3, [66], 0, 0), (56, none, .aload_n 0, 1, [], 0, 0), (57, none, .getfield 44, 3, [6, 16, 0, 0, 686], 0, 0), (60, none, .iload 4, 2, [], 0, 0), (62, none, .iaload, 1, [], 0, 0), (63, none, .goto 15, 3, [78], 0, 0), (66, none, .aload_n 0, 1, [], 0, 0), (67, none, .getfield 41, 3, [6, 15, 0, 0, 685], 0, 0), (70, none, .bipush 6, 2, [], 6, 0), (72, none, .iload 4, 2, [], 0, 0), (74, none, .imul, 1, [], 0, 0), (75, none, .iload_n 3, 1, [], 0, 0), (76, none, .iadd, 1, [], 0, 0), (77, none, .iaload, 1, [], 0, 0), (78, none, .ireturn, 1, [], 0, 0)]
def mt_Md_watched : mMt := (cd_Md_watched, (some .int), 0, 0, [], false)
def cd_Lw_law : List mEn := [(0, none, .new 8, 3, [0, 0, 62, 63, 46], 0, 0), (3, none, .dup, 1, [], 0, 0), (4, none, .aload_n 0, 1, [], 0, 0), (5, none, .iconst 0, 1, [], 0, 0), (6, none, .invokestatic 51, 3, [30, 2, 1, 0, 0, 0, 0, 0, 336], 0, 0), (9, none, .invokespecial 57, 3, [0, 2, 0, 0, 85, 1952, 1, 0, 64], 0, 0), (12, none, .astore_n 1, 1, [], 0, 0), (13, none, .new 60, 3, [0, 6, 664, 665, 52], 0, 0), (16, none, .dup, 1, [], 0, 0), (17, none, .aload_n 0, 1, [], 0, 0), (18, none, .iconst 0, 1, [], 0, 0), (19, none, .invokestatic 51, 3, [30, 2, 1, 0, 0, 0, 0, 0, 336], 0, 0), (22, none, .invokespecial 62, 3, [91, 2, 0, 0, 19, 1740, 7, 0, 666], 0, 0), (25, none, .astore_n 2, 1, [], 0, 0), (26, none, .iconst 1, 1, [], 1, 0), (27, none, .newarray .long, 2, [], 0, 0), (29, none, .astore_n 3, 1, [], 0, 0), (30, none, .iconst 1, 1, [], 1, 0), (31, none, .istore 4, 2, [], 0, 0), (33, some [0, 1, 2, 3, 4], .iload 4, 2, [], 0, 0), (35, none, .aload_n 0, 1, [], 0, 0), (36, none, .arraylength, 1, [], 0, 0), (37, none, .bipush 7, 2, [], 7, 0), (39, none, .isub, 1, [], 0, 0), (40, none, .if_icmp .gt 1056, 3, [1096], 0, 0), (43, none, .aload_n 0, 1, [], 0, 0), (44, none, .iload 4, 2, [], 0, 0), (46, none, .iaload, 1, [], 0, 0), (47, none, .bipush 15, 2, [], 15, 0), (49, none, .iand, 1, [], 0, 0), (50, none, .tableswitch 1040 0 15 #[78, 155, 182, 207, 251, 385, 441, 452, 465, 478, 534, 633, 713, 793, 904, 960], 78, [1090, 128, 205, 232, 257, 301, 435, 491, 502, 515, 528, 584, 683, 763, 843, 954, 1010], 0, 0), (128, none, .aload_n 1, 1, [], 0, 0), (129, none, .aload_n 0, 1, [], 0, 0), (130, none, .iload 4, 2, [], 0, 0), (132, none, .iconst 1, 1, [], 1, 0), (133, none, .iadd, 1, [], 0, 0), (134, none, .iaload, 1, [], 0, 0), (135, none, .aload_n 0, 1, [], 0, 0), (136, none, .iload 4, 2, [], 0, 0), (138, none, .iconst 2, 1, [], 2, 0), (139, none, .iadd, 1, [], 0, 0), (140, none, .iaload, 1, [], 0, 0), (141, none, .ifCond .eq 7, 3, [148], 0, 0), (144, none, .iconst 1, 1, [], 1, 0), (145, none, .goto 4, 3, [149], 0, 0), (148, none, .iconst 0, 1, [], 0, 0), (149, none, .aload_n 0, 1, [], 0, 0), (150, none, .iload 4, 2, [], 0, 0), (152, none, .iconst 3, 1, [], 3, 0), (153, none, .iadd, 1, [], 0, 0), (154, none, .iaload, 1, [], 0, 0), (155, none, .aload_n 0, 1, [], 0, 0), (156, none, .iload 4, 2, [], 0, 0), (158, none, .iconst 4, 1, [], 4, 0), (159, none, .iadd, 1, [], 0, 0), (160, none, .iaload, 1, [], 0, 0), (161, none, .invokevirtual 63, 3, [6, 5, 1, 0, 0, 0, 1, 0, 241], 0, 0), (164, none, .aload_n 2, 1, [], 0, 0), (165, none, .aload_n 0, 1, [], 0, 0), (166, none, .iload 4, 2, [], 0, 0), (168, none, .iconst 1, 1, [], 1, 0), (169, none, .iadd, 1, [], 0, 0), (170, none, .iaload, 1, [], 0, 0), (171, none, .aload_n 0, 1, [], 0, 0), (172, none, .iload 4, 2, [], 0, 0), (174, none, .iconst 2, 1, [], 2, 0), (175, none, .iadd, 1, [], 0, 0), (176, none, .iaload, 1, [], 0, 0), (177, none, .ifCond .eq 7, 3, [184], 0, 0), (180, none, .iconst 1, 1, [], 1, 0), (181, none, .goto 4, 3, [185], 0, 0), (184, none, .iconst 0, 1, [], 0, 0), (185, none, .aload_n 0, 1, [], 0, 0), (186, none, .iload 4, 2, [], 0, 0), (188, none, .iconst 3, 1, [], 3, 0), (189, none, .iadd, 1, [], 0, 0), (190, none, .iaload, 1, [], 0, 0), (191, none, .aload_n 0, 1, [], 0, 0), (192, none, .iload 4, 2, [], 0, 0), (194, none, .iconst 4, 1, [], 4, 0), (195, none, .iadd, 1, [], 0, 0), (196, none, .iaload, 1, [], 0, 0), (197, none, .invokevirtual 67, 3, [93, 5, 1, 0, 0, 0, 7, 0, 760], 0, 0), (200, none, .if_icmp .eq 890, 3, [1090], 0, 0), (203, none, .iconst 0, 1, [], 0, 0), (204, none, .ireturn, 1, [], 0, 0), (205, none, .aload_n 1, 1, [], 0, 0), (206, none, .aload_n 0, 1, [], 0, 0), (207, none, .iload 4, 2, [], 0, 0), (209, none, .iconst 1, 1, [], 1, 0), (210, none, .iadd, 1, [], 0, 0), (211, none, .iaload, 1, [], 0, 0), (212, none, .i2c, 1, [], 0, 0), (213, none, .invokevirtual 68, 3, [8, 2, 1, 0, 0, 0, 1, 0, 249], 0, 0), (216, none, .aload_n 2, 1, [], 0, 0), (217, none, .aload_n 0, 1, [], 0, 0), (218, none, .iload 4, 2, [], 0, 0), (220, none, .iconst 1, 1, [], 1, 0), (221, none, .iadd, 1, [], 0, 0), (222, none, .iaload, 1, [], 0, 0), (223, none, .i2c, 1, [], 0, 0), (224, none, .invokevirtual 72, 3, [94, 2, 1, 0, 0, 0, 7, 0, 764], 0, 0), (227, none, .if_icmp .eq 863, 3, [1090], 0, 0), (230, none, .iconst 0, 1, [], 0, 0), (231, none, .ireturn, 1, [], 0, 0), (232, none, .aload_n 1, 1, [], 0, 0), (233, none, .aload_n 0, 1, [], 0, 0), (234, none, .iload 4, 2, [], 0, 0), (236, none, .iconst 1, 1, [], 1, 0), (237, none, .iadd, 1, [], 0, 0), (238, none, .iaload, 1, [], 0, 0), (239, none, .invokevirtual 73, 3, [10, 2, 1, 0, 0, 0, 1, 0, 257], 0, 0), (242, none, .aload_n 2, 1, [], 0, 0), (243, none, .aload_n 0, 1, [], 0, 0), (244, none, .iload 4, 2, [], 0, 0), (246, none, .iconst 1, 1, [], 1, 0), (247, none, .iadd, 1, [], 0, 0), (248, none, .iaload, 1, [], 0, 0), (249, none, .invokevirtual 77, 3, [95, 2, 1, 0, 0, 0, 7, 0, 768], 0, 0), (252, none, .if_icmp .eq 838, 3, [1090], 0, 0), (255, none, .iconst 0, 1, [], 0, 0), (256, none, .ireturn, 1, [], 0, 0), (257, none, .aload_n 1, 1, [], 0, 0), (258, none, .aload_n 3, 1, [], 0, 0), (259, none, .invokestatic 78, 3, [31, 2, 1, 0, 1, 6, 0, 0, 339], 0, 0), (262, none, .istore 5, 2, [], 0, 0), (264, none, .aload_n 2, 1, [], 0, 0), (265, none, .invokevirtual 81, 3, [102, 1, 1, 0, 0, 0, 7, 0, 795], 0, 0), (268, none, .istore 6, 2, [], 0, 0), (270, none, .aload_n 2, 1, [], 0, 0), (271, none, .invokevirtual 82, 3, [92, 1, 1, 0, 0, 0, 7, 0, 756], 0, 0), (274, none, .iload 5, 2, [], 0, 0), (276, none, .if_icmp .eq 5, 3, [281], 0, 0), (279, none, .iconst 0, 1, [], 0, 0), (280, none, .ireturn, 1, [], 0, 0), (281, none, .iload 5, 2, [], 0, 0), (283, none, .ifCond .ne 15, 3, [298], 0, 0), (286, none, .aload_n 3, 1, [], 0, 0), (287, none, .iconst 0, 1, [], 0, 0), (288, none, .laload, 1, [], 0, 0), (289, none, .iload 6, 2, [], 0, 0), (291, none, .i2l, 1, [], 0, 0), (292, none, .lcmp, 1, [], 0, 0), (293, none, .ifCond .eq 5, 3, [298], 0, 0), (296, none, .iconst 0, 1, [], 0, 0), (297, none, .ireturn, 1, [], 0, 0), (298, none, .goto 792, 3, [1090], 0, 0), (301, none, .aload_n 1, 1, [], 0, 0), (302, none, .aload_n 0, 1, [], 0, 0), (303, none, .iload 4, 2, [], 0, 0), (305, none, .iconst 1, 1, [], 1, 0), (306, none, .iadd, 1, [], 0, 0), (307, none, .iaload, 1, [], 0, 0), (308, none, .ifCond .eq 7, 3, [315], 0, 0), (311, none, .iconst 1, 1, [], 1, 0), (312, none, .goto 4, 3, [316], 0, 0), (315, none, .iconst 0, 1, [], 0, 0), (316, none, .aload_n 0, 1, [], 0, 0), (317, none, .iload 4, 2, [], 0, 0), (319, none, .iconst 2, 1, [], 2, 0), (320, none, .iadd, 1, [], 0, 0), (321, none, .iaload, 1, [], 0, 0), (322, none, .aload_n 0, 1, [], 0, 0), (323, none, .iload 4, 2, [], 0, 0), (325, none, .iconst 3, 1, [], 3, 0), (326, none, .iadd, 1, [], 0, 0), (327, none, .iaload, 1, [], 0, 0), (328, none, .aload_n 0, 1, [], 0, 0), (329, none, .iload 4, 2, [], 0, 0), (331, none, .iconst 4, 1, [], 4, 0), (332, none, .iadd, 1, [], 0, 0), (333, none, .iaload, 1, [], 0, 0), (334, none, .aload_n 0, 1, [], 0, 0), (335, none, .iload 4, 2, [], 0, 0), (337, none, .iconst 5, 1, [], 5, 0), (338, none, .iadd, 1, [], 0, 0), (339, none, .iaload, 1, [], 0, 0), (340, none, .aload_n 0, 1, [], 0, 0), (341, none, .iload 4, 2, [], 0, 0), (343, none, .bipush 6, 2, [], 6, 0), (345, none, .iadd, 1, [], 0, 0), (346, none, .iaload, 1, [], 0, 0), (347, none, .aload_n 3, 1, [], 0, 0), (348, none, .invokestatic 85, 3, [40, 8, 1, 0, 1, 6, 0, 0, 468], 0, 0), (351, none, .istore 5, 2, [], 0, 0), (353, none, .aload_n 2, 1, [], 0, 0), (354, none, .aload_n 0, 1, [], 0, 0), (355, none, .iload 4, 2, [], 0, 0), (357, none, .iconst 1, 1, [], 1, 0), (358, none, .iadd, 1, [], 0, 0), (359, none, .iaload, 1, [], 0, 0), (360, none, .ifCond .eq 7, 3, [367], 0, 0), (363, none, .iconst 1, 1, [], 1, 0), (364, none, .goto 4, 3, [368], 0, 0), (367, none, .iconst 0, 1, [], 0, 0), (368, none, .aload_n 0, 1, [], 0, 0), (369, none, .iload 4, 2, [], 0, 0), (371, none, .iconst 2, 1, [], 2, 0), (372, none, .iadd, 1, [], 0, 0), (373, none, .iaload, 1, [], 0, 0), (374, none, .aload_n 0, 1, [], 0, 0), (375, none, .iload 4, 2, [], 0, 0), (377, none, .iconst 3, 1, [], 3, 0), (378, none, .iadd, 1, [], 0, 0), (379, none, .iaload, 1, [], 0, 0), (380, none, .aload_n 0, 1, [], 0, 0), (381, none, .iload 4, 2, [], 0, 0), (383, none, .iconst 4, 1, [], 4, 0), (384, none, .iadd, 1, [], 0, 0), (385, none, .iaload, 1, [], 0, 0), (386, none, .aload_n 0, 1, [], 0, 0), (387, none, .iload 4, 2, [], 0, 0), (389, none, .iconst 5, 1, [], 5, 0), (390, none, .iadd, 1, [], 0, 0), (391, none, .iaload, 1, [], 0, 0), (392, none, .aload_n 0, 1, [], 0, 0), (393, none, .iload 4, 2, [], 0, 0), (395, none, .bipush 6, 2, [], 6, 0), (397, none, .iadd, 1, [], 0, 0), (398, none, .iaload, 1, [], 0, 0), (399, none, .invokevirtual 88, 3, [109, 7, 1, 0, 0, 0, 7, 0, 823], 0, 0), (402, none, .istore 6, 2, [], 0, 0), (404, none, .aload_n 2, 1, [], 0, 0), (405, none, .invokevirtual 82, 3, [92, 1, 1, 0, 0, 0, 7, 0, 756], 0, 0), (408, none, .iload 5, 2, [], 0, 0), (410, none, .if_icmp .eq 5, 3, [415], 0, 0), (413, none, .iconst 0, 1, [], 0, 0), (414, none, .ireturn, 1, [], 0, 0), (415, none, .iload 5, 2, [], 0, 0), (417, none, .ifCond .ne 15, 3, [432], 0, 0), (420, none, .aload_n 3, 1, [], 0, 0), (421, none, .iconst 0, 1, [], 0, 0), (422, none, .laload, 1, [], 0, 0), (423, none, .iload 6, 2, [], 0, 0), (425, none, .i2l, 1, [], 0, 0), (426, none, .lcmp, 1, [], 0, 0), (427, none, .ifCond .eq 5, 3, [432], 0, 0), (430, none, .iconst 0, 1, [], 0, 0), (431, none, .ireturn, 1, [], 0, 0), (432, none, .goto 658, 3, [1090], 0, 0), (435, none, .aload_n 1, 1, [], 0, 0), (436, none, .aload_n 0, 1, [], 0, 0), (437, none, .iload 4, 2, [], 0, 0), (439, none, .iconst 1, 1, [], 1, 0), (440, none, .iadd, 1, [], 0, 0), (441, none, .iaload, 1, [], 0, 0), (442, none, .aload_n 3, 1, [], 0, 0), (443, none, .invokestatic 89, 3, [48, 3, 1, 0, 1, 6, 0, 0, 496], 0, 0), (446, none, .istore 5, 2, [], 0, 0), (448, none, .aload_n 2, 1, [], 0, 0), (449, none, .aload_n 0, 1, [], 0, 0), (450, none, .iload 4, 2, [], 0, 0), (452, none, .iconst 1, 1, [], 1, 0), (453, none, .iadd, 1, [], 0, 0), (454, none, .iaload, 1, [], 0, 0), (455, none, .invokevirtual 92, 3, [112, 2, 1, 0, 0, 0, 7, 0, 835], 0, 0), (458, none, .istore 6, 2, [], 0, 0), (460, none, .aload_n 2, 1, [], 0, 0), (461, none, .invokevirtual 82, 3, [92, 1, 1, 0, 0, 0, 7, 0, 756], 0, 0), (464, none, .iload 5, 2, [], 0, 0), (466, none, .if_icmp .eq 5, 3, [471], 0, 0), (469, none, .iconst 0, 1, [], 0, 0), (470, none, .ireturn, 1, [], 0, 0), (471, none, .iload 5, 2, [], 0, 0), (473, none, .ifCond .ne 15, 3, [488], 0, 0), (476, none, .aload_n 3, 1, [], 0, 0), (477, none, .iconst 0, 1, [], 0, 0), (478, none, .laload, 1, [], 0, 0), (479, none, .iload 6, 2, [], 0, 0), (481, none, .i2l, 1, [], 0, 0), (482, none, .lcmp, 1, [], 0, 0), (483, none, .ifCond .eq 5, 3, [488], 0, 0), (486, none, .iconst 0, 1, [], 0, 0), (487, none, .ireturn, 1, [], 0, 0), (488, none, .goto 602, 3, [1090], 0, 0), (491, none, .aload_n 1, 1, [], 0, 0), (492, none, .invokevirtual 93, 3, [26, 1, 0, 0, 0, 0, 1, 0, 320], 0, 0), (495, none, .aload_n 2, 1, [], 0, 0), (496, none, .invokevirtual 96, 3, [113, 1, 0, 0, 0, 0, 7, 0, 839], 0, 0), (499, none, .goto 591, 3, [1090], 0, 0), (502, none, .aload_n 1, 1, [], 0, 0), (503, none, .invokevirtual 97, 3, [28, 1, 1, 0, 0, 0, 1, 0, 328], 0, 0), (506, none, .aload_n 2, 1, [], 0, 0), (507, none, .invokevirtual 100, 3, [114, 1, 1, 0, 0, 0, 7, 0, 843], 0, 0), (510, none, .if_icmp .eq 580, 3, [1090], 0, 0), (513, none, .iconst 0, 1, [], 0, 0), (514, none, .ireturn, 1, [], 0, 0), (515, none, .aload_n 1, 1, [], 0, 0), (516, none, .invokevirtual 101, 3, [29, 1, 1, 0, 0, 0, 1, 0, 332], 0, 0), (519, none, .aload_n 2, 1, [], 0, 0), (520, none, .invokevirtual 104, 3, [115, 1, 1, 0, 0, 0, 7, 0, 847], 0, 0), (523, none, .if_icmp .eq 567, 3, [1090], 0, 0), (526, none, .iconst 0, 1, [], 0, 0), (527, none, .ireturn, 1, [], 0, 0), (528, none, .aload_n 1, 1, [], 0, 0), (529, none, .aload_n 0, 1, [], 0, 0), (530, none, .iload 4, 2, [], 0, 0), (532, none, .iconst 1, 1, [], 1, 0), (533, none, .iadd, 1, [], 0, 0), (534, none, .iaload, 1, [], 0, 0), (535, none, .aload_n 3, 1, [], 0, 0), (536, none, .invokestatic 105, 3, [53, 3, 1, 0, 1, 6, 0, 0, 516], 0, 0), (539, none, .istore 5, 2, [], 0, 0), (541, none, .aload_n 2, 1, [], 0, 0), (542, none, .aload_n 0, 1, [], 0, 0), (543, none, .iload 4, 2, [], 0, 0), (545, none, .iconst 1, 1, [], 1, 0), (546, none, .iadd, 1, [], 0, 0), (547, none, .iaload, 1, [], 0, 0), (548, none, .invokevirtual 107, 3, [116, 2, 1, 0, 0, 0, 7, 0, 851], 0, 0), (551, none, .istore 6, 2, [], 0, 0), (553, none, .aload_n 2, 1, [], 0, 0), (554, none, .invokevirtual 82, 3, [92, 1, 1, 0, 0, 0, 7, 0, 756], 0, 0), (557, none, .iload 5, 2, [], 0, 0), (559, none, .if_icmp .eq 5, 3, [564], 0, 0), (562, none, .iconst 0, 1, [], 0, 0), (563, none, .ireturn, 1, [], 0, 0), (564, none, .iload 5, 2, [], 0, 0), (566, none, .ifCond .ne 15, 3, [581], 0, 0), (569, none, .aload_n 3, 1, [], 0, 0), (570, none, .iconst 0, 1, [], 0, 0), (571, none, .laload, 1, [], 0, 0), (572, none, .iload 6, 2, [], 0, 0), (574, none, .i2l, 1, [], 0, 0), (575, none, .lcmp, 1, [], 0, 0), (576, none, .ifCond .eq 5, 3, [581], 0, 0), (579, none, .iconst 0, 1, [], 0, 0), (580, none, .ireturn, 1, [], 0, 0), (581, none, .goto 509, 3, [1090], 0, 0), (584, none, .aload_n 1, 1, [], 0, 0), (585, none, .aload_n 0, 1, [], 0, 0), (586, none, .iload 4, 2, [], 0, 0), (588, none, .iconst 1, 1, [], 1, 0), (589, none, .iadd, 1, [], 0, 0), (590, none, .iaload, 1, [], 0, 0), (591, none, .aload_n 0, 1, [], 0, 0), (592, none, .iload 4, 2, [], 0, 0), (594, none, .iconst 2, 1, [], 2, 0), (595, none, .iadd, 1, [], 0, 0), (596, none, .iaload, 1, [], 0, 0), (597, none, .aload_n 0, 1, [], 0, 0), (598, none, .iload 4, 2, [], 0, 0), (600, none, .iconst 3, 1, [], 3, 0), (601, none, .iadd, 1, [], 0, 0), (602, none, .iaload, 1, [], 0, 0), (603, none, .aload_n 0, 1, [], 0, 0), (604, none, .iload 4, 2, [], 0, 0), (606, none, .iconst 4, 1, [], 4, 0), (607, none, .iadd, 1, [], 0, 0), (608, none, .iaload, 1, [], 0, 0), (609, none, .aload_n 3, 1, [], 0, 0), (610, none, .invokestatic 108, 3, [66, 6, 1, 0, 1, 6, 0, 0, 566], 0, 0), (613, none, .istore 5, 2, [], 0, 0), (615, none, .aload_n 2, 1, [], 0, 0), (616, none, .aload_n 0, 1, [], 0, 0), (617, none, .iload 4, 2, [], 0, 0), (619, none, .iconst 1, 1, [], 1, 0), (620, none, .iadd, 1, [], 0, 0), (621, none, .iaload, 1, [], 0, 0), (622, none, .aload_n 0, 1, [], 0, 0), (623, none, .iload 4, 2, [], 0, 0), (625, none, .iconst 2, 1, [], 2, 0), (626, none, .iadd, 1, [], 0, 0), (627, none, .iaload, 1, [], 0, 0), (628, none, .aload_n 0, 1, [], 0, 0), (629, none, .iload 4, 2, [], 0, 0), (631, none, .iconst 3, 1, [], 3, 0), (632, none, .iadd, 1, [], 0, 0), (633, none, .iaload, 1, [], 0, 0), (634, none, .aload_n 0, 1, [], 0, 0), (635, none, .iload 4, 2, [], 0, 0), (637, none, .iconst 4, 1, [], 4, 0), (638, none, .iadd, 1, [], 0, 0), (639, none, .iaload, 1, [], 0, 0), (640, none, .invokevirtual 111, 3, [121, 5, 1, 0, 0, 0, 7, 0, 871], 0, 0), (643, none, .istore 6, 2, [], 0, 0), (645, none, .aload_n 2, 1, [], 0, 0), (646, none, .invokevirtual 82, 3, [92, 1, 1, 0, 0, 0, 7, 0, 756], 0, 0), (649, none, .iload 5, 2, [], 0, 0), (651, none, .if_icmp .eq 5, 3, [656], 0, 0), (654, none, .iconst 0, 1, [], 0, 0), (655, none, .ireturn, 1, [], 0, 0), (656, none, .iload 5, 2, [], 0, 0), (658, none, .ifCond .ne 22, 3, [680], 0, 0), (661, none, .aload_n 3, 1, [], 0, 0), (662, none, .iconst 0, 1, [], 0, 0), (663, none, .laload, 1, [], 0, 0), (664, none, .iload 6, 2, [], 0, 0), (666, none, .ifCond .eq 7, 3, [673], 0, 0), (669, none, .lconst 1, 1, [], 0, 1), (670, none, .goto 4, 3, [674], 0, 0), (673, none, .lconst 0, 1, [], 0, 0), (674, none, .lcmp, 1, [], 0, 0), (675, none, .ifCond .eq 5, 3, [680], 0, 0), (678, none, .iconst 0, 1, [], 0, 0), (679, none, .ireturn, 1, [], 0, 0), (680, none, .goto 410, 3, [1090], 0, 0), (683, none, .aload_n 1, 1, [], 0, 0), (684, none, .aload_n 0, 1, [], 0, 0), (685, none, .iload 4, 2, [], 0, 0), (687, none, .iconst 1, 1, [], 1, 0), (688, none, .iadd, 1, [], 0, 0), (689, none, .iaload, 1, [], 0, 0), (690, none, .aload_n 0, 1, [], 0, 0), (691, none, .iload 4, 2, [], 0, 0), (693, none, .iconst 2, 1, [], 2, 0), (694, none, .iadd, 1, [], 0, 0), (695, none, .iaload, 1, [], 0, 0), (696, none, .aload_n 0, 1, [], 0, 0), (697, none, .iload 4, 2, [], 0, 0), (699, none, .iconst 3, 1, [], 3, 0), (700, none, .iadd, 1, [], 0, 0), (701, none, .iaload, 1, [], 0, 0), (702, none, .aload_n 3, 1, [], 0, 0), (703, none, .invokestatic 112, 3, [77, 5, 1, 0, 1, 6, 0, 0, 610], 0, 0), (706, none, .istore 5, 2, [], 0, 0), (708, none, .aload_n 2, 1, [], 0, 0), (709, none, .aload_n 0, 1, [], 0, 0), (710, none, .iload 4, 2, [], 0, 0), (712, none, .iconst 1, 1, [], 1, 0), (713, none, .iadd, 1, [], 0, 0), (714, none, .iaload, 1, [], 0, 0), (715, none, .aload_n 0, 1, [], 0, 0), (716, none, .iload 4, 2, [], 0, 0), (718, none, .iconst 2, 1, [], 2, 0), (719, none, .iadd, 1, [], 0, 0), (720, none, .iaload, 1, [], 0, 0), (721, none, .aload_n 0, 1, [], 0, 0), (722, none, .iload 4, 2, [], 0, 0), (724, none, .iconst 3, 1, [], 3, 0), (725, none, .iadd, 1, [], 0, 0), (726, none, .iaload, 1, [], 0, 0), (727, none, .invokevirtual 115, 3, [129, 4, 1, 0, 0, 0, 7, 0, 902], 0, 0), (730, none, .istore 6, 2, [], 0, 0), (732, none, .aload_n 2, 1, [], 0, 0), (733, none, .invokevirtual 82, 3, [92, 1, 1, 0, 0, 0, 7, 0, 756], 0, 0), (736, none, .iload 5, 2, [], 0, 0), (738, none, .if_icmp .eq 5, 3, [743], 0, 0), (741, none, .iconst 0, 1, [], 0, 0), (742, none, .ireturn, 1, [], 0, 0), (743, none, .iload 5, 2, [], 0, 0), (745, none, .ifCond .ne 15, 3, [760], 0, 0), (748, none, .aload_n 3, 1, [], 0, 0), (749, none, .iconst 0, 1, [], 0, 0), (750, none, .laload, 1, [], 0, 0), (751, none, .iload 6, 2, [], 0, 0), (753, none, .i2l, 1, [], 0, 0), (754, none, .lcmp, 1, [], 0, 0), (755, none, .ifCond .eq 5, 3, [760], 0, 0), (758, none, .iconst 0, 1, [], 0, 0), (759, none, .ireturn, 1, [], 0, 0), (760, none, .goto 330, 3, [1090], 0, 0), (763, none, .aload_n 1, 1, [], 0, 0), (764, none, .aload_n 0, 1, [], 0, 0), (765, none, .iload 4, 2, [], 0, 0), (767, none, .iconst 1, 1, [], 1, 0), (768, none, .iadd, 1, [], 0, 0), (769, none, .iaload, 1, [], 0, 0), (770, none, .aload_n 0, 1, [], 0, 0), (771, none, .iload 4, 2, [], 0, 0), (773, none, .iconst 2, 1, [], 2, 0), (774, none, .iadd, 1, [], 0, 0), (775, none, .iaload, 1, [], 0, 0), (776, none, .aload_n 0, 1, [], 0, 0), (777, none, .iload 4, 2, [], 0, 0), (779, none, .iconst 3, 1, [], 3, 0), (780, none, .iadd, 1, [], 0, 0), (781, none, .iaload, 1, [], 0, 0), (782, none, .aload_n 3, 1, [], 0, 0), (783, none, .invokestatic 116, 3, [79, 5, 1, 0, 1, 6, 0, 0, 617], 0, 0), (786, none, .istore 5, 2, [], 0, 0), (788, none, .aload_n 2, 1, [], 0, 0), (789, none, .aload_n 0, 1, [], 0, 0), (790, none, .iload 4, 2, [], 0, 0), (792, none, .iconst 1, 1, [], 1, 0), (793, none, .iadd, 1, [], 0, 0), (794, none, .iaload, 1, [], 0, 0), (795, none, .aload_n 0, 1, [], 0, 0), (796, none, .iload 4, 2, [], 0, 0), (798, none, .iconst 2, 1, [], 2, 0), (799, none, .iadd, 1, [], 0, 0), (800, none, .iaload, 1, [], 0, 0), (801, none, .aload_n 0, 1, [], 0, 0), (802, none, .iload 4, 2, [], 0, 0), (804, none, .iconst 3, 1, [], 3, 0), (805, none, .iadd, 1, [], 0, 0), (806, none, .iaload, 1, [], 0, 0), (807, none, .invokevirtual 118, 3, [130, 4, 1, 0, 0, 0, 7, 0, 906], 0, 0), (810, none, .istore 6, 2, [], 0, 0), (812, none, .aload_n 2, 1, [], 0, 0), (813, none, .invokevirtual 82, 3, [92, 1, 1, 0, 0, 0, 7, 0, 756], 0, 0), (816, none, .iload 5, 2, [], 0, 0), (818, none, .if_icmp .eq 5, 3, [823], 0, 0), (821, none, .iconst 0, 1, [], 0, 0), (822, none, .ireturn, 1, [], 0, 0), (823, none, .iload 5, 2, [], 0, 0), (825, none, .ifCond .ne 15, 3, [840], 0, 0), (828, none, .aload_n 3, 1, [], 0, 0), (829, none, .iconst 0, 1, [], 0, 0), (830, none, .laload, 1, [], 0, 0), (831, none, .iload 6, 2, [], 0, 0), (833, none, .i2l, 1, [], 0, 0), (834, none, .lcmp, 1, [], 0, 0), (835, none, .ifCond .eq 5, 3, [840], 0, 0), (838, none, .iconst 0, 1, [], 0, 0), (839, none, .ireturn, 1, [], 0, 0), (840, none, .goto 250, 3, [1090], 0, 0), (843, none, .aload_n 1, 1, [], 0, 0), (844, none, .aload_n 0, 1, [], 0, 0), (845, none, .iload 4, 2, [], 0, 0), (847, none, .iconst 1, 1, [], 1, 0), (848, none, .iadd, 1, [], 0, 0), (849, none, .iaload, 1, [], 0, 0), (850, none, .aload_n 0, 1, [], 0, 0), (851, none, .iload 4, 2, [], 0, 0), (853, none, .iconst 2, 1, [], 2, 0), (854, none, .iadd, 1, [], 0, 0), (855, none, .iaload, 1, [], 0, 0), (856, none, .aload_n 0, 1, [], 0, 0), (857, none, .iload 4, 2, [], 0, 0), (859, none, .iconst 3, 1, [], 3, 0), (860, none, .iadd, 1, [], 0, 0), (861, none, .iaload, 1, [], 0, 0), (862, none, .aload_n 0, 1, [], 0, 0), (863, none, .iload 4, 2, [], 0, 0), (865, none, .iconst 4, 1, [], 4, 0), (866, none, .iadd, 1, [], 0, 0), (867, none, .iaload, 1, [], 0, 0), (868, none, .aload_n 0, 1, [], 0, 0), (869, none, .iload 4, 2, [], 0, 0), (871, none, .iconst 5, 1, [], 5, 0), (872, none, .iadd, 1, [], 0, 0), (873, none, .iaload, 1, [], 0, 0), (874, none, .aload_n 3, 1, [], 0, 0), (875, none, .invokestatic 119, 3, [81, 7, 1, 0, 1, 6, 0, 0, 625], 0, 0), (878, none, .istore 5, 2, [], 0, 0), (880, none, .aload_n 2, 1, [], 0, 0), (881, none, .aload_n 0, 1, [], 0, 0), (882, none, .iload 4, 2, [], 0, 0), (884, none, .iconst 1, 1, [], 1, 0), (885, none, .iadd, 1, [], 0, 0), (886, none, .iaload, 1, [], 0, 0), (887, none, .aload_n 0, 1, [], 0, 0), (888, none, .iload 4, 2, [], 0, 0), (890, none, .iconst 2, 1, [], 2, 0), (891, none, .iadd, 1, [], 0, 0), (892, none, .iaload, 1, [], 0, 0), (893, none, .aload_n 0, 1, [], 0, 0), (894, none, .iload 4, 2, [], 0, 0), (896, none, .iconst 3, 1, [], 3, 0), (897, none, .iadd, 1, [], 0, 0), (898, none, .iaload, 1, [], 0, 0), (899, none, .aload_n 0, 1, [], 0, 0), (900, none, .iload 4, 2, [], 0, 0), (902, none, .iconst 4, 1, [], 4, 0), (903, none, .iadd, 1, [], 0, 0), (904, none, .iaload, 1, [], 0, 0), (905, none, .aload_n 0, 1, [], 0, 0), (906, none, .iload 4, 2, [], 0, 0), (908, none, .iconst 5, 1, [], 5, 0), (909, none, .iadd, 1, [], 0, 0), (910, none, .iaload, 1, [], 0, 0), (911, none, .invokevirtual 122, 3, [131, 6, 1, 0, 0, 0, 7, 0, 910], 0, 0), (914, none, .istore 6, 2, [], 0, 0), (916, none, .aload_n 2, 1, [], 0, 0), (917, none, .invokevirtual 82, 3, [92, 1, 1, 0, 0, 0, 7, 0, 756], 0, 0), (920, none, .iload 5, 2, [], 0, 0), (922, none, .if_icmp .eq 5, 3, [927], 0, 0), (925, none, .iconst 0, 1, [], 0, 0), (926, none, .ireturn, 1, [], 0, 0), (927, none, .iload 5, 2, [], 0, 0), (929, none, .ifCond .ne 22, 3, [951], 0, 0), (932, none, .aload_n 3, 1, [], 0, 0), (933, none, .iconst 0, 1, [], 0, 0), (934, none, .laload, 1, [], 0, 0), (935, none, .iload 6, 2, [], 0, 0), (937, none, .ifCond .eq 7, 3, [944], 0, 0), (940, none, .lconst 1, 1, [], 0, 1), (941, none, .goto 4, 3, [945], 0, 0), (944, none, .lconst 0, 1, [], 0, 0), (945, none, .lcmp, 1, [], 0, 0), (946, none, .ifCond .eq 5, 3, [951], 0, 0), (949, none, .iconst 0, 1, [], 0, 0), (950, none, .ireturn, 1, [], 0, 0), (951, none, .goto 139, 3, [1090], 0, 0), (954, none, .aload_n 1, 1, [], 0, 0), (955, none, .aload_n 0, 1, [], 0, 0), (956, none, .iload 4, 2, [], 0, 0), (958, none, .iconst 1, 1, [], 1, 0), (959, none, .iadd, 1, [], 0, 0), (960, none, .iaload, 1, [], 0, 0), (961, none, .aload_n 3, 1, [], 0, 0), (962, none, .invokestatic 123, 3, [84, 3, 1, 0, 1, 6, 0, 0, 636], 0, 0), (965, none, .istore 5, 2, [], 0, 0), (967, none, .aload_n 2, 1, [], 0, 0), (968, none, .aload_n 0, 1, [], 0, 0), (969, none, .iload 4, 2, [], 0, 0), (971, none, .iconst 1, 1, [], 1, 0), (972, none, .iadd, 1, [], 0, 0), (973, none, .iaload, 1, [], 0, 0), (974, none, .invokevirtual 125, 3, [132, 2, 1, 0, 0, 0, 7, 0, 914], 0, 0), (977, none, .istore 6, 2, [], 0, 0), (979, none, .aload_n 2, 1, [], 0, 0), (980, none, .invokevirtual 82, 3, [92, 1, 1, 0, 0, 0, 7, 0, 756], 0, 0), (983, none, .iload 5, 2, [], 0, 0), (985, none, .if_icmp .eq 5, 3, [990], 0, 0), (988, none, .iconst 0, 1, [], 0, 0), (989, none, .ireturn, 1, [], 0, 0), (990, none, .iload 5, 2, [], 0, 0), (992, none, .ifCond .ne 15, 3, [1007], 0, 0), (995, none, .aload_n 3, 1, [], 0, 0), (996, none, .iconst 0, 1, [], 0, 0), (997, none, .laload, 1, [], 0, 0), (998, none, .iload 6, 2, [], 0, 0), (1000, none, .i2l, 1, [], 0, 0), (1001, none, .lcmp, 1, [], 0, 0), (1002, none, .ifCond .eq 5, 3, [1007], 0, 0), (1005, none, .iconst 0, 1, [], 0, 0), (1006, none, .ireturn, 1, [], 0, 0), (1007, none, .goto 83, 3, [1090], 0, 0), (1010, none, .aload_n 1, 1, [], 0, 0), (1011, none, .aload_n 0, 1, [], 0, 0), (1012, none, .iload 4, 2, [], 0, 0), (1014, none, .iconst 1, 1, [], 1, 0), (1015, none, .iadd, 1, [], 0, 0), (1016, none, .iaload, 1, [], 0, 0), (1017, none, .aload_n 0, 1, [], 0, 0), (1018, none, .iload 4, 2, [], 0, 0), (1020, none, .iconst 2, 1, [], 2, 0), (1021, none, .iadd, 1, [], 0, 0), (1022, none, .iaload, 1, [], 0, 0), (1023, none, .aload_n 0, 1, [], 0, 0), (1024, none, .iload 4, 2, [], 0, 0), (1026, none, .iconst 3, 1, [], 3, 0), (1027, none, .iadd, 1, [], 0, 0), (1028, none, .iaload, 1, [], 0, 0), (1029, none, .aload_n 3, 1, [], 0, 0), (1030, none, .invokestatic 126, 3, [87, 5, 1, 0, 1, 6, 0, 0, 648], 0, 0), (1033, none, .istore 5, 2, [], 0, 0), (1035, none, .aload_n 2, 1, [], 0, 0), (1036, none, .aload_n 0, 1, [], 0, 0), (1037, none, .iload 4, 2, [], 0, 0), (1039, none, .iconst 1, 1, [], 1, 0), (1040, none, .iadd, 1, [], 0, 0), (1041, none, .iaload, 1, [], 0, 0), (1042, none, .aload_n 0, 1, [], 0, 0), (1043, none, .iload 4, 2, [], 0, 0), (1045, none, .iconst 2, 1, [], 2, 0), (1046, none, .iadd, 1, [], 0, 0), (1047, none, .iaload, 1, [], 0, 0), (1048, none, .aload_n 0, 1, [], 0, 0), (1049, none, .iload 4, 2, [], 0, 0), (1051, none, .iconst 3, 1, [], 3, 0), (1052, none, .iadd, 1, [], 0, 0), (1053, none, .iaload, 1, [], 0, 0), (1054, none, .invokevirtual 128, 3, [134, 4, 1, 0, 0, 0, 7, 0, 922], 0, 0), (1057, none, .istore 6, 2, [], 0, 0), (1059, none, .aload_n 2, 1, [], 0, 0), (1060, none, .invokevirtual 82, 3, [92, 1, 1, 0, 0, 0, 7, 0, 756], 0, 0), (1063, none, .iload 5, 2, [], 0, 0), (1065, none, .if_icmp .eq 5, 3, [1070], 0, 0), (1068, none, .iconst 0, 1, [], 0, 0), (1069, none, .ireturn, 1, [], 0, 0), (1070, none, .iload 5, 2, [], 0, 0), (1072, none, .ifCond .ne 15, 3, [1087], 0, 0), (1075, none, .aload_n 3, 1, [], 0, 0), (1076, none, .iconst 0, 1, [], 0, 0), (1077, none, .laload, 1, [], 0, 0), (1078, none, .iload 6, 2, [], 0, 0), (1080, none, .i2l, 1, [], 0, 0), (1081, none, .lcmp, 1, [], 0, 0), (1082, none, .ifCond .eq 5, 3, [1087], 0, 0), (1085, none, .iconst 0, 1, [], 0, 0), (1086, none, .ireturn, 1, [], 0, 0), (1087, none, .goto 3, 3, [1090], 0, 0), (1090, none, .iinc 4 7, 3, [], 7, 0), (1093, none, .goto (-1060), 3, [33], 0, 0), (1096, none, .iconst 1, 1, [], 1, 0), (1097, none, .ireturn, 1, [], 0, 0)]
def mt_Lw_law : mMt := (cd_Lw_law, (some .boolean), 2000, 40000, [], false)
def mx_mts : List mMt := [mt_Rs_init, mt_Cf_init, mt_Rd_init, mt_Rl_init, mt_Lg_init, mt_Vs_init, mt_Rs_relation, mt_Cf_add, mt_Rs_type, mt_Cf_append, mt_Rs_sound, mt_Cf_isRule, mt_Cf_isRelation, mt_Rd_reads, mt_Rl_forgetRule, mt_Rd_readTuples, mt_Rl_need, mt_Rl_addStep, mt_Rd_readExpression, mt_Rd_readPart, mt_Rd_next, mt_Rd_readSame, mt_Rd_readName, mt_Rd_isOfOwnNamespace, mt_Rd_readFrom, mt_Rd_isOperator, mt_Rs_crash, mt_Rs_forget, mt_Rs_latest, mt_Rs_records, mt_Lw_cell, mt_Lw_accept, mt_Rs_accept, mt_Cf_allAreRules, mt_Cf_hasBarredRing, mt_Cf_findReached, mt_Rs_hasBit, mt_Cf_findLevels, mt_Cf_levelAbove, mt_Ma_max, mt_Lw_change, mt_Rs_change, mt_Cf_isTuple, mt_Cf_isNode, mt_Rs_isObject, mt_Cf_isListed, mt_Rs_isUser, mt_Rs_packed, mt_Lw_commit, mt_Rs_commit, mt_Lg_hasRoomFor, mt_Lg_write, mt_Lg_mark, mt_Lw_tuples, mt_Rs_tuples, mt_Rs_refuseUnless, mt_Rs_versionOf, mt_Vs_replay, mt_Ar_fillJJ, mt_Lg_lengthAt, mt_Vs_apply, mt_Rs_field, mt_Rs_nodeOf, mt_Vs_subjectBit, mt_Vs_size, mt_Lo_bitCount, mt_Lw_check, mt_Rs_check, mt_Cf_mayAsk, mt_Vs_membersOf, mt_Ar_fillII, mt_Vs_settle, mt_Vs_grow, mt_Vs_workOut, mt_Vs_tupleMembers, mt_Vs_objectMembers, mt_Vs_joined, mt_Lw_expand, mt_Rs_expand, mt_Lw_lookup, mt_Rs_lookup, mt_Lw_nested, mt_Rs_nested, mt_Vs_leads, mt_Lw_watch, mt_Rs_watch, mt_Lg_changesSince, mt_Lw_watched, mt_Rs_watched, mt_Lg_placeOf, mt_Lg_marksBefore, mt_Md_init, mt_Md_thrown, mt_Md_relation, mt_Md_type, mt_Md_sound, mt_Md_isRelation, mt_Md_isRule, mt_Md_at, mt_Md_partAt, mt_Md_named, mt_Md_isSign, mt_Md_accept, mt_Md_findNeeds, mt_Md_needOf, mt_Md_need, mt_Md_close, mt_Md_isCircular, mt_Md_findLevels, mt_Md_change, mt_Md_isTuple, mt_Md_isOf, mt_Md_commit, mt_Md_crash, mt_Md_latest, mt_Md_records, mt_Md_tuples, mt_Md_isFine, mt_Md_fail, mt_Md_play, mt_Md_same, mt_Md_check, mt_Md_isUser, mt_Md_findMembers, mt_Md_worked, mt_Md_told, mt_Md_join, mt_Md_partOf, mt_Md_from, mt_Md_expand, mt_Md_lookup, mt_Md_nested, mt_Md_watch, mt_Md_since, mt_Md_watched, mt_Lw_law]
def mx_mt (mi : Nat) : mMt := mx_mts.getD mi ([], none, 0, 0, [], false)
def mx_mLs : List Nat := [3, 2, 1, 1, 1, 1, 5, 6, 2, 3, 2, 2, 2, 4, 1, 2, 3, 4, 4, 4, 1, 3, 2, 2, 4, 1, 1, 2, 1, 1, 2, 3, 1, 2, 3, 3, 2, 3, 4, 2, 9, 7, 6, 3, 1, 5, 1, 7, 4, 6, 2, 3, 2, 4, 2, 3, 3, 5, 5, 4, 5, 2, 2, 3, 3, 2, 7, 6, 3, 4, 4, 6, 7, 9, 6, 7, 3, 6, 4, 6, 7, 8, 6, 9, 4, 2, 2, 6, 5, 5, 4, 2, 1, 5, 3, 2, 2, 7, 3, 5, 4, 1, 2, 7, 6, 4, 4, 4, 4, 8, 6, 3, 4, 1, 1, 1, 2, 3, 2, 4, 5, 5, 1, 8, 6, 6, 5, 6, 7, 4, 6, 12, 2, 3, 5, 7]
def mx_nM : Nat := 135
def mx_mws : List (List Nat) := [[2, 1, 66, 46, 65, 0], [2, 0, 74, 47, 73, 0], [2, 0, 82, 48, 81, 0], [2, 0, 100, 49, 99, 0], [2, 0, 181, 50, 180, 0], [2, 0, 202, 51, 201, 0], [0, 4, 244, 46, 242, 243], [0, 4, 248, 47, 246, 247], [0, 1, 252, 46, 250, 251], [0, 1, 256, 47, 254, 255], [0, 1, 260, 46, 258, 259], [0, 1, 264, 47, 262, 263], [0, 1, 268, 47, 266, 267], [0, 3, 272, 48, 270, 271], [0, 0, 276, 49, 274, 275], [0, 1, 280, 48, 279, 0], [0, 2, 284, 49, 282, 283], [0, 3, 288, 49, 286, 287], [0, 2, 292, 48, 291, 1], [0, 2, 296, 48, 295, 2], [0, 0, 300, 48, 299, 3], [0, 1, 304, 48, 303, 4], [0, 0, 308, 48, 307, 5], [0, 1, 312, 48, 311, 6], [0, 1, 316, 48, 315, 7], [1, 1, 319, 48, 318, 0], [0, 0, 323, 46, 321, 322], [0, 0, 327, 46, 326, 8], [0, 0, 331, 46, 329, 330], [0, 0, 335, 46, 333, 334], [1, 2, 338, 45, 337, 0], [1, 2, 341, 45, 340, 0], [0, 0, 348, 46, 346, 347], [0, 0, 415, 47, 413, 414], [0, 0, 434, 47, 432, 433], [0, 0, 438, 47, 437, 10], [1, 2, 441, 46, 440, 0], [0, 0, 460, 47, 458, 459], [0, 1, 464, 47, 463, 11], [1, 2, 467, 59, 466, 0], [1, 8, 470, 45, 469, 0], [0, 6, 474, 46, 472, 473], [0, 5, 478, 47, 476, 477], [0, 2, 482, 47, 480, 481], [1, 1, 485, 46, 484, 0], [0, 4, 489, 47, 488, 12], [1, 1, 492, 46, 491, 0], [1, 6, 495, 46, 494, 0], [1, 3, 498, 45, 497, 0], [0, 1, 502, 46, 500, 501], [0, 1, 506, 50, 504, 505], [0, 2, 510, 50, 508, 509], [0, 1, 514, 50, 512, 513], [1, 3, 518, 45, 517, 0], [0, 1, 522, 46, 520, 521], [0, 2, 526, 46, 525, 13], [0, 1, 530, 46, 529, 14], [0, 2, 534, 51, 532, 533], [1, 2, 537, 60, 536, 0], [0, 1, 541, 50, 539, 540], [0, 1, 545, 51, 544, 15], [1, 2, 548, 46, 547, 0], [1, 2, 551, 46, 550, 0], [1, 3, 554, 51, 553, 0], [0, 0, 559, 51, 557, 558], [1, 1, 562, 61, 561, 0], [1, 6, 568, 45, 567, 0], [0, 4, 572, 46, 570, 571], [0, 2, 576, 47, 574, 575], [0, 2, 582, 51, 580, 581], [1, 2, 585, 60, 584, 0], [0, 2, 589, 51, 588, 16], [0, 2, 593, 51, 592, 17], [0, 3, 597, 51, 596, 18], [0, 1, 601, 51, 600, 19], [0, 3, 605, 51, 604, 20], [1, 3, 608, 51, 607, 0], [1, 5, 612, 45, 611, 0], [0, 3, 616, 46, 614, 615], [1, 5, 619, 45, 618, 0], [0, 3, 623, 46, 621, 622], [1, 7, 627, 45, 626, 0], [0, 5, 631, 46, 629, 630], [0, 2, 635, 51, 633, 634], [1, 3, 638, 45, 637, 0], [0, 1, 642, 46, 640, 641], [0, 1, 646, 50, 644, 645], [1, 5, 650, 45, 649, 0], [0, 3, 654, 46, 652, 653], [0, 2, 658, 50, 656, 657], [0, 1, 662, 50, 660, 661], [2, 1, 668, 52, 667, 0], [0, 0, 759, 52, 757, 758], [0, 4, 763, 52, 761, 762], [0, 1, 767, 52, 765, 766], [0, 1, 771, 52, 769, 770], [0, 1, 775, 52, 774, 21], [0, 1, 779, 52, 778, 22], [0, 2, 783, 52, 782, 23], [0, 2, 787, 52, 786, 24], [0, 2, 791, 52, 790, 25], [1, 1, 794, 52, 793, 0], [0, 0, 798, 52, 796, 797], [0, 1, 802, 52, 801, 26], [0, 3, 806, 52, 805, 27], [0, 3, 810, 52, 809, 28], [0, 0, 814, 52, 813, 29], [0, 0, 818, 52, 817, 30], [0, 0, 822, 52, 821, 31], [0, 6, 826, 52, 824, 825], [0, 5, 830, 52, 829, 32], [0, 2, 834, 52, 833, 33], [0, 1, 838, 52, 836, 837], [0, 0, 842, 52, 840, 841], [0, 0, 846, 52, 844, 845], [0, 0, 850, 52, 848, 849], [0, 1, 854, 52, 852, 853], [0, 2, 858, 52, 857, 34], [0, 1, 862, 52, 861, 35], [0, 1, 866, 52, 865, 36], [0, 2, 870, 52, 869, 37], [0, 4, 874, 52, 872, 873], [1, 1, 877, 52, 876, 0], [0, 1, 881, 52, 880, 38], [0, 2, 885, 52, 884, 39], [0, 2, 889, 52, 888, 40], [0, 2, 893, 52, 892, 41], [0, 3, 897, 52, 896, 42], [0, 3, 901, 52, 900, 43], [0, 3, 905, 52, 903, 904], [0, 3, 909, 52, 907, 908], [0, 5, 913, 52, 911, 912], [0, 1, 917, 52, 915, 916], [0, 1, 921, 52, 920, 44], [0, 3, 925, 52, 923, 924], [1, 1, 0, 0, 0, 0]]
def mx_hrs : List (List (Nat × Nat × Nat × Nat)) := [[], [], [], [], [], [], [], [], [], [], [], [], [], [], [], [], [], [], [], [], [], [], [], [], [], [], [], [], [], [], [], [(0, 8, 11, 13), (0, 8, 14, 15), (0, 8, 17, 17)], [], [], [], [], [], [], [], [], [(0, 18, 21, 13), (0, 18, 25, 15), (0, 18, 29, 17)], [], [], [], [], [], [], [], [(0, 9, 12, 17)], [], [], [], [], [(0, 9, 12, 15), (0, 9, 15, 17)], [], [], [], [], [], [], [], [], [], [], [], [], [(0, 21, 24, 15), (0, 21, 28, 17)], [], [], [], [], [], [], [], [], [], [], [(0, 12, 15, 15), (0, 12, 19, 17)], [], [(0, 12, 15, 15), (0, 12, 19, 17)], [], [(0, 23, 26, 15), (0, 23, 30, 17)], [], [], [(0, 9, 12, 15), (0, 9, 15, 17)], [], [], [(0, 12, 15, 15), (0, 12, 19, 17)], [], [], [], [], [], [], [], [], [], [], [], [], [], [], [], [], [], [], [], [], [], [], [], [], [], [], [], [], [], [], [], [], [], [], [], [], [], [], [], [], [], [], [], [], [], [], [], []]
def mx_hws : List (List Nat) := [[], [], [], [], [], [], [], [], [], [], [], [], [], [], [], [], [], [], [], [], [], [], [], [], [], [], [], [], [], [], [], [342, 343, 344], [], [], [], [], [], [], [], [], [342, 343, 344], [], [], [], [], [], [], [], [344], [], [], [], [], [343, 344], [], [], [], [], [], [], [], [], [], [], [], [], [343, 344], [], [], [], [], [], [], [], [], [], [], [343, 344], [], [343, 344], [], [343, 344], [], [], [343, 344], [], [], [343, 344], [], [], [], [], [], [], [], [], [], [], [], [], [], [], [], [], [], [], [], [], [], [], [], [], [], [], [], [], [], [], [], [], [], [], [], [], [], [], [], [], [], [], [], [], [], [], [], []]
def mx_makers : List Nat := [0, 1, 2, 3, 4, 5, 30, 91]
def mx_maker (mi : Nat) : Bool := mx_makers.contains mi
def mx_ys : List (MethodName × ByteArray × Nat) := [(y_Rs_init, b_Rs_init, 3), (y_Cf_init, b_Cf_init, 2), (y_Rd_init, b_Rd_init, 1), (y_Rl_init, b_Rl_init, 1), (y_Lg_init, b_Lg_init, 1), (y_Vs_init, b_Vs_init, 1), (y_Rs_relation, b_Rs_relation, 5), (y_Cf_add, b_Cf_add, 6), (y_Rs_type, b_Rs_type, 2), (y_Cf_append, b_Cf_append, 3), (y_Rs_sound, b_Rs_sound, 2), (y_Cf_isRule, b_Cf_isRule, 2), (y_Cf_isRelation, b_Cf_isRelation, 2), (y_Rd_reads, b_Rd_reads, 4), (y_Rl_forgetRule, b_Rl_forgetRule, 1), (y_Rd_readTuples, b_Rd_readTuples, 2), (y_Rl_need, b_Rl_need, 3), (y_Rl_addStep, b_Rl_addStep, 4), (y_Rd_readExpression, b_Rd_readExpression, 4), (y_Rd_readPart, b_Rd_readPart, 4), (y_Rd_next, b_Rd_next, 1), (y_Rd_readSame, b_Rd_readSame, 3), (y_Rd_readName, b_Rd_readName, 2), (y_Rd_isOfOwnNamespace, b_Rd_isOfOwnNamespace, 2), (y_Rd_readFrom, b_Rd_readFrom, 4), (y_Rd_isOperator, b_Rd_isOperator, 1), (y_Rs_crash, b_Rs_crash, 1), (y_Rs_forget, b_Rs_forget, 2), (y_Rs_latest, b_Rs_latest, 1), (y_Rs_records, b_Rs_records, 1), (y_Lw_cell, b_Lw_cell, 2), (y_Lw_accept, b_Lw_accept, 3), (y_Rs_accept, b_Rs_accept, 1), (y_Cf_allAreRules, b_Cf_allAreRules, 2), (y_Cf_hasBarredRing, b_Cf_hasBarredRing, 3), (y_Cf_findReached, b_Cf_findReached, 3), (y_Rs_hasBit, b_Rs_hasBit, 2), (y_Cf_findLevels, b_Cf_findLevels, 3), (y_Cf_levelAbove, b_Cf_levelAbove, 4), (y_Ma_max, b_Ma_max, 2), (y_Lw_change, b_Lw_change, 9), (y_Rs_change, b_Rs_change, 7), (y_Cf_isTuple, b_Cf_isTuple, 6), (y_Cf_isNode, b_Cf_isNode, 3), (y_Rs_isObject, b_Rs_isObject, 1), (y_Cf_isListed, b_Cf_isListed, 5), (y_Rs_isUser, b_Rs_isUser, 1), (y_Rs_packed, b_Rs_packed, 7), (y_Lw_commit, b_Lw_commit, 4), (y_Rs_commit, b_Rs_commit, 6), (y_Lg_hasRoomFor, b_Lg_hasRoomFor, 2), (y_Lg_write, b_Lg_write, 3), (y_Lg_mark, b_Lg_mark, 2), (y_Lw_tuples, b_Lw_tuples, 4), (y_Rs_tuples, b_Rs_tuples, 2), (y_Rs_refuseUnless, b_Rs_refuseUnless, 3), (y_Rs_versionOf, b_Rs_versionOf, 3), (y_Vs_replay, b_Vs_replay, 5), (y_Ar_fillJJ, b_Ar_fillJJ, 5), (y_Lg_lengthAt, b_Lg_lengthAt, 4), (y_Vs_apply, b_Vs_apply, 5), (y_Rs_field, b_Rs_field, 2), (y_Rs_nodeOf, b_Rs_nodeOf, 2), (y_Vs_subjectBit, b_Vs_subjectBit, 3), (y_Vs_size, b_Vs_size, 3), (y_Lo_bitCount, b_Lo_bitCount, 2), (y_Lw_check, b_Lw_check, 7), (y_Rs_check, b_Rs_check, 6), (y_Cf_mayAsk, b_Cf_mayAsk, 3), (y_Vs_membersOf, b_Vs_membersOf, 4), (y_Ar_fillII, b_Ar_fillII, 4), (y_Vs_settle, b_Vs_settle, 6), (y_Vs_grow, b_Vs_grow, 7), (y_Vs_workOut, b_Vs_workOut, 9), (y_Vs_tupleMembers, b_Vs_tupleMembers, 6), (y_Vs_objectMembers, b_Vs_objectMembers, 7), (y_Vs_joined, b_Vs_joined, 3), (y_Lw_expand, b_Lw_expand, 6), (y_Rs_expand, b_Rs_expand, 4), (y_Lw_lookup, b_Lw_lookup, 6), (y_Rs_lookup, b_Rs_lookup, 7), (y_Lw_nested, b_Lw_nested, 8), (y_Rs_nested, b_Rs_nested, 6), (y_Vs_leads, b_Vs_leads, 9), (y_Lw_watch, b_Lw_watch, 4), (y_Rs_watch, b_Rs_watch, 2), (y_Lg_changesSince, b_Lg_changesSince, 2), (y_Lw_watched, b_Lw_watched, 6), (y_Rs_watched, b_Rs_watched, 5), (y_Lg_placeOf, b_Lg_placeOf, 5), (y_Lg_marksBefore, b_Lg_marksBefore, 4), (y_Md_init, b_Md_init, 2), (y_Md_thrown, b_Md_thrown, 1), (y_Md_relation, b_Md_relation, 5), (y_Md_type, b_Md_type, 3), (y_Md_sound, b_Md_sound, 2), (y_Md_isRelation, b_Md_isRelation, 2), (y_Md_isRule, b_Md_isRule, 7), (y_Md_at, b_Md_at, 3), (y_Md_partAt, b_Md_partAt, 5), (y_Md_named, b_Md_named, 4), (y_Md_isSign, b_Md_isSign, 1), (y_Md_accept, b_Md_accept, 2), (y_Md_findNeeds, b_Md_findNeeds, 7), (y_Md_needOf, b_Md_needOf, 6), (y_Md_need, b_Md_need, 4), (y_Md_close, b_Md_close, 4), (y_Md_isCircular, b_Md_isCircular, 4), (y_Md_findLevels, b_Md_findLevels, 4), (y_Md_change, b_Md_change, 8), (y_Md_isTuple, b_Md_isTuple, 6), (y_Md_isOf, b_Md_isOf, 3), (y_Md_commit, b_Md_commit, 4), (y_Md_crash, b_Md_crash, 1), (y_Md_latest, b_Md_latest, 1), (y_Md_records, b_Md_records, 1), (y_Md_tuples, b_Md_tuples, 2), (y_Md_isFine, b_Md_isFine, 3), (y_Md_fail, b_Md_fail, 2), (y_Md_play, b_Md_play, 4), (y_Md_same, b_Md_same, 5), (y_Md_check, b_Md_check, 5), (y_Md_isUser, b_Md_isUser, 1), (y_Md_findMembers, b_Md_findMembers, 8), (y_Md_worked, b_Md_worked, 6), (y_Md_told, b_Md_told, 6), (y_Md_join, b_Md_join, 5), (y_Md_partOf, b_Md_partOf, 6), (y_Md_from, b_Md_from, 7), (y_Md_expand, b_Md_expand, 4), (y_Md_lookup, b_Md_lookup, 6), (y_Md_nested, b_Md_nested, 12), (y_Md_watch, b_Md_watch, 2), (y_Md_since, b_Md_since, 3), (y_Md_watched, b_Md_watched, 5), (y_Lw_law, b_Lw_law, 7)]
end
section
def mx_u3 {α : Type} (f : Nat → Nat → Nat → α) (a b c : Nat) (v : α) : Nat → Nat → Nat → α := fun x y z => if x = a ∧ y = b ∧ z = c then v else f x y z
def mx_u2 {α : Type} (f : Nat → Nat → Nat → α) (a b : Nat) (v : α) : Nat → Nat → Nat → α := fun x y z => if x = a ∧ y = b then v else f x y z
def mx_si (s : mSt) (f i j : Nat) (v : Int32) : mSt := (mx_u3 s.1 f i j v, s.2.1, s.2.2.1, s.2.2.2)
def mx_sl (s : mSt) (f i j : Nat) (v : Int64) : mSt := (s.1, mx_u3 s.2.1 f i j v, s.2.2.1, s.2.2.2)
def mx_sp (s : mSt) (f i j : Nat) (v : Nat) : mSt := (s.1, s.2.1, mx_u3 s.2.2.1 f i j (some v), s.2.2.2)
def mx_sn (s : mSt) (f i : Nat) : mSt := (mx_u2 s.1 f i 0, mx_u2 s.2.1 f i 0, mx_u2 s.2.2.1 f i none, s.2.2.2 + 1)
def mx_fN (f : Nat) : Nat := (mx_fam.getD f (0, 0, 0, 9, 0, 0)).1
def mx_fS (f : Nat) : Nat := (mx_fam.getD f (0, 0, 0, 9, 0, 0)).2.1
def mx_fC (f : Nat) : Nat := (mx_fam.getD f (0, 0, 0, 9, 0, 0)).2.2.1
def mx_fK (f : Nat) : Nat := (mx_fam.getD f (0, 0, 0, 9, 0, 0)).2.2.2.1
def mx_fX (f : Nat) : Nat := (mx_fam.getD f (0, 0, 0, 9, 0, 0)).2.2.2.2.1
def mx_fY (f : Nat) : Nat := (mx_fam.getD f (0, 0, 0, 9, 0, 0)).2.2.2.2.2
def mx_num (f i : Nat) : Nat := mx_fN f + mx_fS f * i
def mx_fR (ci j : Nat) : Nat := (mx_fld.getD ci []).getD j 0
def mx_cat : mAV → Nat
  | .inr (.inl _) => 2
  | _ => 1
def mx_wt : List mAV → Nat
  | [] => 0
  | v :: S => mx_cat v + mx_wt S
def mx_p1 (S : List mAV) (k : Int32 → List mAV → Prop) : Prop := match S with
  | .inl x :: S => k x S
  | _ => False
def mx_p2 (S : List mAV) (k : Int32 → Int32 → List mAV → Prop) : Prop := match S with
  | .inl y :: .inl x :: S => k x y S
  | _ => False
def mx_q1 (S : List mAV) (k : Int64 → List mAV → Prop) : Prop := match S with
  | .inr (.inl x) :: S => k x S
  | _ => False
def mx_q2 (S : List mAV) (k : Int64 → Int64 → List mAV → Prop) : Prop := match S with
  | .inr (.inl y) :: .inr (.inl x) :: S => k x y S
  | _ => False
def mx_qi (S : List mAV) (k : Int64 → Int32 → List mAV → Prop) : Prop := match S with
  | .inl y :: .inr (.inl x) :: S => k x y S
  | _ => False
def mx_ix (S : List mAV) (k : Int32 → Nat → Nat → List mAV → Prop) : Prop := match S with
  | .inl j :: .inr (.inr (.inl (f, i))) :: S => k j f i S
  | _ => False
def mx_rf (S : List mAV) (k : Nat → Nat → List mAV → Prop) : Prop := match S with
  | .inr (.inr (.inl (f, i))) :: S => k f i S
  | _ => False
def mx_li (o : Option mAV) (k : Int32 → Prop) : Prop := match o with
  | some (.inl x) => k x
  | _ => False
def mx_ll (o : Option mAV) (k : Int64 → Prop) : Prop := match o with
  | some (.inr (.inl x)) => k x
  | _ => False
def mx_la (o : Option mAV) (k : (Nat × Nat) ⊕ Nat → Prop) : Prop := match o with
  | some (.inr (.inr r)) => k r
  | _ => False
def mx_r1 (S : List mAV) (k : (Nat × Nat) ⊕ Nat → List mAV → Prop) : Prop := match S with
  | .inr (.inr r) :: S => k r S
  | _ => False
def mx_d1 (S : List mAV) (k : mAV → List mAV → Prop) : Prop := match S with
  | .inl x :: S => k (.inl x) S
  | .inr (.inr r) :: S => k (.inr (.inr r)) S
  | _ => False
def mx_d2 (S : List mAV) (k : Int32 → (Nat × Nat) ⊕ Nat → List mAV → Prop) : Prop := match S with
  | .inl j :: .inr (.inr r) :: S => k j r S
  | _ => False
def mx_pf (S : List mAV) (k : Int32 → Nat → Nat → List mAV → Prop) (kr : Nat → Nat → Nat → Nat → List mAV → Prop) : Prop := match S with
  | .inl x :: .inr (.inr (.inl (f, i))) :: S => k x f i S
  | .inr (.inr (.inl (g, y))) :: .inr (.inr (.inl (f, i))) :: S => kr g y f i S
  | _ => False
def mx_ca (r : (Nat × Nat) ⊕ Nat) (k1 : Nat → Nat → Prop) (k2 : Nat → Prop) : Prop := match r with
  | .inl (f, i) => k1 f i
  | .inr a => k2 a
def mx_a1 (aux : List Nat) (k : Nat → Prop) : Prop := match aux with
  | [t] => k t
  | _ => False
def mx_aq (aux : List Nat) (k : Nat → List Nat → Prop) : Prop := match aux with
  | t :: r => k t r
  | [] => False
def mx_a4 (aux : List Nat) (k : Nat → Nat → Nat → Prop) : Prop := match aux with
  | ci :: j :: _ :: z :: _ => k ci j z
  | _ => False
def mx_eq (a b : Nat) (P : Prop) : Prop := match Nat.beq a b with
  | true => P
  | false => False
def mx_kd (f kd : Nat) (P : Prop) : Prop := mx_eq (mx_fK f) kd P
def mx_kn (f : Nat) (P : Prop) : Prop := match Nat.beq (mx_fK f) 0 with
  | true => False
  | false => P
def mx_no (md : Bool) (P : Prop) : Prop := match md with
  | true => False
  | false => P
def mx_or (md : Bool) (ci : Nat) (P : Prop) : Prop := match md, Nat.beq ci 3 with
  | true, false => False
  | _, _ => P
def mx_nz (z : Nat) (x : Int32) (P : Prop) : Prop := match z with
  | 0 => P
  | _ + 1 => narrow .boolean (.int x) = .int x ∧ P
def mx_nw (s : mSt) (k : Nat → Nat → Prop) : Prop := match mx_cod.getD s.2.2.2 (99, 0) with
  | (f, i) => k f i
def mx_ty : ArrayType → Nat
  | .int => 1
  | .char => 2
  | .boolean => 3
  | .long => 4
  | _ => 77
def mx_pop : Nat → List mAV → List mAV → Option (List mAV × List mAV)
  | 0, acc, S => some (acc, S)
  | n + 1, acc, v :: S => mx_pop n (v :: acc) S
  | _ + 1, _, [] => none
def mx_lk (i : Nat) : mLV → Option mAV
  | [] => none
  | (j, v) :: L => match Nat.beq i j with
    | true => some v
    | false => mx_lk i L
def mx_st1 (i : Nat) (v : mAV) (L : mLV) : mLV := (i, v) :: L.filter (fun q => !(Nat.beq q.1 i) && !(Nat.beq (q.1 + 1) i && Nat.beq (mx_cat q.2) 2))
def mx_st2 (i : Nat) (v : mAV) (L : mLV) : mLV := (i, v) :: L.filter (fun q => !(Nat.beq q.1 i) && (!(Nat.beq q.1 (i + 1)) && !(Nat.beq (q.1 + 1) i && Nat.beq (mx_cat q.2) 2)))
def mx_pk (L : mLV) : List Nat → mLV
  | [] => []
  | i :: is => match mx_lk i L with
    | some v => (i, v) :: mx_pk L is
    | none => mx_pk L is
def mx_args : Nat → List mAV → mLV
  | _, [] => []
  | i, v :: r => (i, v) :: mx_args (i + mx_cat v) r
def mx_br (md : Bool) (c A B : Prop) [Decidable c] : Prop := match md with
  | true => (c → A) ∧ (¬ c → B)
  | false => if c then A else B
def mx_sw (x : Int32) : Nat → List Nat → (Nat → Prop) → Prop → Prop
  | _, [], _, d => d
  | j, t :: ts, K, d => (x = nI j → K t) ∧ (¬ x = nI j → mx_sw x (j + 1) ts K d)
def mx_jp (C : List mEn) (t : Nat) : List mEn := C.dropWhile (fun e => !(Nat.beq e.1 t))
def mx_kV (k : mSt → Prop) : mPo := (k, fun _ _ => False, fun _ _ _ => False)
def mx_kI (k : Int32 → mSt → Prop) : mPo := (fun _ => False, k, fun _ _ _ => False)
def mx_kF (g : Nat) (k : Nat → mSt → Prop) : mPo := (fun _ => False, fun _ _ => False, fun f i s => mx_eq f g (k i s))
def mx_nr (ty : FieldType) (x : Int32) : Prop := narrow ty (.int x) = .int x
def mx_hd (hs : List (Nat × Nat × Nat × Nat)) (pc kk : Nat) : Option Nat := match hs with
  | [] => none
  | (a, b, h, c) :: r => match Nat.ble a pc && (Nat.blt pc b && Nat.beq c kk) with
    | true => some h
    | false => mx_hd r pc kk
def mx_al (s : mSt) (g : Nat) (r : Option Nat) (k : mAV → Prop) : Prop := match r with
  | some y => match Nat.blt y (mx_fC g) && Nat.blt (mx_num g y) s.2.2.2 with
    | true => k (.inr (.inr (.inl (g, y))))
    | false => False
  | none => False
def mx_em (S : List mAV) (P : Prop) : Prop := match S with
  | [] => P
  | _ :: _ => False
def mx_th (b : Bool) (S : List mAV) (P : Prop) : Prop := match b, S with
  | true, [] => P
  | _, _ => False
def mx_rt0 (S : List mAV) (r : Option FieldType) (P : Prop) : Prop := match S, r with
  | [], none => P
  | _, _ => False
def mx_rt1 (S : List mAV) (r : Option FieldType) (x : Int32) (P : Prop) : Prop := match S, r with
  | [], some .int => P
  | [], some .boolean => mx_nr .boolean x ∧ P
  | [], some .char => mx_nr .char x ∧ P
  | _, _ => False
def mx_rt2 (S : List mAV) (r : Option FieldType) (P : Prop) : Prop := match S, r with
  | [], some (.object _) => P
  | _, _ => False
def mx_to (md : Bool) (t : mSt) (k : mSt → Prop) : Prop := match md with
  | true => ∀ t', t' = t → k t'
  | false => k t
def mx_bg (a b : Nat) (M : mMt) (P : Prop) : Prop := mx_eq (Nat.ble a M.2.2.1 && Nat.ble b M.2.2.2.1).toNat 1 P
section
variable (md : Bool) (scr : mSc) (cal : Nat → List mAV → mSt → mPo → (Nat → mSt → Prop) → Prop) (M : mMt) (post : mPo) (ex : Nat → mSt → Prop)
def mx_ex (pc : Nat) (kk : Nat) (k : Nat → Nat → mSt → Prop) (s : mSt) : Prop := match mx_hd M.2.2.2.2.1 pc kk with
  | some h => ∀ a, k h a s
  | none => match M.2.2.2.2.2 with
    | true => ex kk s
    | false => False
def mx_gr (s : mSt) (g i : Nat) (r : Option Nat) (k : mAV → Prop) : Prop := match md with
  | true => k (.inr (.inr (.inl (g, i))))
  | false => mx_al s g r k
def mx_get (s : mSt) (f i ci j : Nat) (k : mAV → Prop) : Prop := match mx_fR ci j with
  | 0 => k (.inl (s.1 f i j))
  | g + 1 => match md, Nat.beq ci 3 with
    | true, true => ∃ y, s.2.2.1 f i j = some y ∧ y < mx_fC g ∧ k (.inr (.inr (.inl (g, y))))
    | _, _ => mx_gr md s g i (s.2.2.1 f i j) k
def mx_kc (s : mSt) (mc : Nat) (k : mSt → Prop) (t : mSt) : Prop := match md with
  | true => k t
  | false => mx_eq t.2.2.2 (s.2.2.2 + mc) (k t)
def mx_kr (rk : Nat) (S : List mAV) (k : List mAV → mSt → Prop) : mPo := match rk with
  | 0 => mx_kV (fun s => k S s)
  | 1 => mx_kI (fun x s => k (.inl x :: S) s)
  | g + 2 => mx_kF g (fun i s => k (.inr (.inr (.inl (g, i))) :: S) s)
def mx_xs (th pc : Nat) (k : Nat → Nat → mSt → Prop) : Nat → mSt → Prop := match th with
  | 0 => fun _ _ => False
  | _ + 1 => fun kk s => (kk = 1 → mx_ex M ex pc 1 k s) ∧ (kk = 2 → mx_ex M ex pc 2 k s) ∧ (kk = 3 → mx_ex M ex pc 3 k s)
def mx_rc (rc : Nat) (as : List mAV) (P : Prop) : Prop := match rc with
  | 0 => P
  | c + 1 => mx_rf as (fun f _ _ => mx_kd f 0 (mx_eq (mx_fX f) c P))
def mx_inv (aux : List Nat) (es : List mEn) (L : mLV) (S : List mAV) (s : mSt) (u : Nat × Nat) (k : List mEn → mLV → List mAV → mSt → Nat × Nat → Prop) (pc : Nat) : Prop := match aux with
  | mi :: np :: rk :: th :: mc :: ms :: rc :: _ => match mx_pop np [] S with
    | some (as, S') => mx_eq (Nat.ble (mx_wt S') 8).toNat 1 (mx_rc rc as (match mc with
        | 0 => cal mi as s (mx_kr rk S' (fun S t => mx_kc md s 0 (fun t => k es L S t u) t)) (mx_xs M ex th pc (fun h a s => k (mx_jp M.1 h) L [.inr (.inr (.inr a))] s u))
        | mc + 1 => mx_bg (u.1 + (mc + 1)) (u.2 + ms) M (cal mi as s (mx_kr rk S' (fun S t => mx_kc md s (mc + 1) (fun t => k es L S t (u.1 + (mc + 1), u.2 + ms)) t)) (mx_xs M ex th pc (fun h a s => k (mx_jp M.1 h) L [.inr (.inr (.inr a))] s (u.1 + (mc + 1), u.2 + ms))))))
    | none => False
  | _ => False
def mx_stp (k : List mEn → mLV → List mAV → mSt → Nat × Nat → Prop) (e : mEn) (es : List mEn) (L : mLV) (S : List mAV) (s : mSt) (u : Nat × Nat) : Prop :=
  match e with
  | (pc, _, ins, _, aux, ic, lc) => match ins with
    | .iconst _ => k es L (.inl ic :: S) s u
    | .bipush _ => k es L (.inl ic :: S) s u
    | .sipush _ => k es L (.inl ic :: S) s u
    | .lconst _ => k es L (.inr (.inl lc) :: S) s u
    | .ldc2_w _ => k es L (.inr (.inl lc) :: S) s u
    | .iload i => mx_li (mx_lk i L) (fun x => k es L (.inl x :: S) s u)
    | .iload_n i => mx_li (mx_lk i.val L) (fun x => k es L (.inl x :: S) s u)
    | .lload i => mx_ll (mx_lk i L) (fun x => k es L (.inr (.inl x) :: S) s u)
    | .lload_n i => mx_ll (mx_lk i.val L) (fun x => k es L (.inr (.inl x) :: S) s u)
    | .aload i => mx_la (mx_lk i L) (fun r => k es L (.inr (.inr r) :: S) s u)
    | .aload_n i => mx_la (mx_lk i.val L) (fun r => k es L (.inr (.inr r) :: S) s u)
    | .istore i => mx_p1 S (fun x S => k es (mx_st1 i (.inl x) L) S s u)
    | .istore_n i => mx_p1 S (fun x S => k es (mx_st1 i.val (.inl x) L) S s u)
    | .lstore i => mx_q1 S (fun x S => k es (mx_st2 i (.inr (.inl x)) L) S s u)
    | .lstore_n i => mx_q1 S (fun x S => k es (mx_st2 i.val (.inr (.inl x)) L) S s u)
    | .astore i => mx_r1 S (fun r S => k es (mx_st1 i (.inr (.inr r)) L) S s u)
    | .astore_n i => mx_r1 S (fun r S => k es (mx_st1 i.val (.inr (.inr r)) L) S s u)
    | .iinc i _ => mx_li (mx_lk i L) (fun x => k es (mx_st1 i (.inl (x + ic)) L) S s u)
    | .iadd => mx_p2 S (fun x y S => k es L (.inl (x + y) :: S) s u)
    | .isub => mx_p2 S (fun x y S => k es L (.inl (x - y) :: S) s u)
    | .imul => mx_p2 S (fun x y S => k es L (.inl (x * y) :: S) s u)
    | .iand => mx_p2 S (fun x y S => k es L (.inl (x &&& y) :: S) s u)
    | .ior => mx_p2 S (fun x y S => k es L (.inl (x ||| y) :: S) s u)
    | .ixor => mx_p2 S (fun x y S => k es L (.inl (x ^^^ y) :: S) s u)
    | .ishl => mx_p2 S (fun x y S => k es L (.inl (x <<< (y &&& 31)) :: S) s u)
    | .ishr => mx_p2 S (fun x y S => k es L (.inl (x >>> (y &&& 31)) :: S) s u)
    | .idiv => mx_p2 S (fun x y S => ¬ y = 0 ∧ k es L (.inl (x / y) :: S) s u)
    | .irem => mx_p2 S (fun x y S => ¬ y = 0 ∧ k es L (.inl (x - x / y * y) :: S) s u)
    | .ladd => mx_q2 S (fun x y S => k es L (.inr (.inl (x + y)) :: S) s u)
    | .lsub => mx_q2 S (fun x y S => k es L (.inr (.inl (x - y)) :: S) s u)
    | .land => mx_q2 S (fun x y S => k es L (.inr (.inl (x &&& y)) :: S) s u)
    | .lor => mx_q2 S (fun x y S => k es L (.inr (.inl (x ||| y)) :: S) s u)
    | .lxor => mx_q2 S (fun x y S => k es L (.inr (.inl (x ^^^ y)) :: S) s u)
    | .lushr => mx_qi S (fun x y S => k es L (.inr (.inl ((x.toUInt64 >>> (y.toInt64.toUInt64 &&& Int64.toUInt64 63)).toInt64)) :: S) s u)
    | .lshl => mx_qi S (fun x y S => k es L (.inr (.inl (x <<< (y.toInt64 &&& 63))) :: S) s u)
    | .i2l => mx_p1 S (fun x S => k es L (.inr (.inl x.toInt64) :: S) s u)
    | .l2i => mx_q1 S (fun x S => k es L (.inl x.toInt32 :: S) s u)
    | .i2c => mx_p1 S (fun x S => k es L (.inl (x.toUInt32 % 65536).toInt32 :: S) s u)
    | .lcmp => mx_q2 S (fun x y S => k es L (.inl (lg_cmp x y) :: S) s u)
    | .dup => mx_d1 S (fun v S => k es L (v :: v :: S) s u)
    | .dup2 => mx_d2 S (fun j r S => k es L (.inl j :: .inr (.inr r) :: .inl j :: .inr (.inr r) :: S) s u)
    | .dup_x1 => mx_d2 S (fun x r S => k es L (.inl x :: .inr (.inr r) :: .inl x :: S) s u)
    | .pop => mx_p1 S (fun _ S => k es L S s u)
    | .goto _ => mx_a1 aux (fun t => k (mx_jp M.1 t) L S s u)
    | .ifCond c _ => mx_a1 aux (fun t => mx_p1 S (fun x S => match c with
        | .eq => mx_br md (x = 0) (k (mx_jp M.1 t) L S s u) (k es L S s u)
        | .ne => mx_br md (x = 0) (k es L S s u) (k (mx_jp M.1 t) L S s u)
        | .lt => mx_br md (x < 0) (k (mx_jp M.1 t) L S s u) (k es L S s u)
        | .ge => mx_br md (0 ≤ x) (k (mx_jp M.1 t) L S s u) (k es L S s u)
        | .gt => mx_br md (0 < x) (k (mx_jp M.1 t) L S s u) (k es L S s u)
        | .le => mx_br md (x ≤ 0) (k (mx_jp M.1 t) L S s u) (k es L S s u)))
    | .if_icmp c _ => mx_a1 aux (fun t => mx_p2 S (fun x y S => match c with
        | .eq => mx_br md (x = y) (k (mx_jp M.1 t) L S s u) (k es L S s u)
        | .ne => mx_br md (x = y) (k es L S s u) (k (mx_jp M.1 t) L S s u)
        | .lt => mx_br md (x < y) (k (mx_jp M.1 t) L S s u) (k es L S s u)
        | .ge => mx_br md (y ≤ x) (k (mx_jp M.1 t) L S s u) (k es L S s u)
        | .gt => mx_br md (y < x) (k (mx_jp M.1 t) L S s u) (k es L S s u)
        | .le => mx_br md (x ≤ y) (k (mx_jp M.1 t) L S s u) (k es L S s u)))
    | .tableswitch _ _ _ _ => mx_aq aux (fun d ts => mx_p1 S (fun x S => mx_sw x 0 ts (fun t => k (mx_jp M.1 t) L S s u) (k (mx_jp M.1 d) L S s u)))
    | .arraylength => mx_r1 S (fun r S => mx_ca r (fun f _ => mx_kn f (k es L (.inl (nI (mx_fX f)) :: S) s u)) (fun a => a = scr.1 ∧ k es L (.inl (nI scr.2.1) :: S) s u))
    | .iaload => mx_d2 S (fun j r S => mx_ca r (fun f i => mx_kd f 1 (vp_in j (mx_fX f) ∧ k es L (.inl (s.1 f i j.toNatClampNeg) :: S) s u)) (fun a => a = scr.1 ∧ vp_in j scr.2.1 ∧ k es L (.inl (scr.2.2 j.toNatClampNeg) :: S) s u))
    | .caload => mx_ix S (fun j f i S => mx_kd f 2 (vp_in j (mx_fX f) ∧ k es L (.inl (s.1 f i j.toNatClampNeg) :: S) s u))
    | .baload => mx_ix S (fun j f i S => mx_kd f 3 (vp_in j (mx_fX f) ∧ k es L (.inl (s.1 f i j.toNatClampNeg) :: S) s u))
    | .laload => mx_ix S (fun j f i S => mx_kd f 4 (vp_in j (mx_fX f) ∧ k es L (.inr (.inl (s.2.1 f i j.toNatClampNeg)) :: S) s u))
    | .aaload => mx_ix S (fun j f i S => mx_kd f 5 (vp_in j (mx_fX f) ∧ mx_gr md s (mx_fY f) j.toNatClampNeg (s.2.2.1 f i j.toNatClampNeg) (fun v => k es L (v :: S) s u)))
    | .iastore => mx_p1 S (fun x S => mx_ix S (fun j f i S => mx_kd f 1 (vp_in j (mx_fX f) ∧ mx_to md (mx_si s f i j.toNatClampNeg x) (fun t => k es L S t u))))
    | .castore => mx_p1 S (fun x S => mx_ix S (fun j f i S => mx_kd f 2 (vp_in j (mx_fX f) ∧ mx_to md (mx_si s f i j.toNatClampNeg (vp_nar .char x)) (fun t => k es L S t u))))
    | .bastore => mx_p1 S (fun x S => mx_ix S (fun j f i S => mx_kd f 3 (vp_in j (mx_fX f) ∧ mx_to md (mx_si s f i j.toNatClampNeg (vp_nar .boolean x)) (fun t => k es L S t u))))
    | .lastore => mx_q1 S (fun x S => mx_ix S (fun j f i S => mx_kd f 4 (vp_in j (mx_fX f) ∧ mx_to md (mx_sl s f i j.toNatClampNeg x) (fun t => k es L S t u))))
    | .aastore => mx_rf S (fun g y S => mx_ix S (fun j f i S => mx_kd f 5 (mx_no md (mx_eq (mx_fY f) g (vp_in j (mx_fX f) ∧ k es L S (mx_sp s f i j.toNatClampNeg y) u)))))
    | .getfield _ => mx_aq aux (fun ci r => mx_aq r (fun j _ => mx_rf S (fun f i S => mx_kd f 0 (mx_eq (mx_fX f) ci (mx_get md s f i ci j (fun v => k es L (v :: S) s u))))))
    | .putfield _ => mx_a4 aux (fun ci j z => mx_pf S (fun x f i S => mx_kd f 0 (mx_eq (mx_fX f) ci (mx_eq (mx_fR ci j) 0 (mx_nz z x (mx_to md (mx_si s f i j x) (fun t => k es L S t u))))))
        (fun g y f i S => mx_kd f 0 (mx_eq (mx_fX f) ci (mx_eq (mx_fR ci j) (g + 1) (mx_or md ci (mx_to md (mx_sp s f i j y) (fun t => k es L S t u)))))))
    | .new _ => mx_aq aux (fun z r => mx_aq r (fun ci _ => match z with
      | 0 => mx_no md (mx_nw s (fun f i => mx_kd f 0 (mx_eq (mx_fX f) ci (mx_bg (u.1 + 1) (u.2 + mx_nF ci) M (k es L (.inr (.inr (.inl (f, i))) :: S) (mx_sn s f i) (u.1 + 1, u.2 + mx_nF ci))))))
      | _ + 1 => mx_th M.2.2.2.2.2 S (mx_bg (u.1 + 1) (u.2 + 6) M (ex ci s))))
    | .newarray ty => mx_no md (mx_nw s (fun f i => mx_p1 S (fun n S => mx_eq (mx_fK f) (mx_ty ty) (n = nI (mx_fX f) ∧ mx_bg (u.1 + 1) (u.2 + mx_fX f) M (k es L (.inr (.inr (.inl (f, i))) :: S) (mx_sn s f i) (u.1 + 1, u.2 + mx_fX f))))))
    | .anewarray _ => mx_aq aux (fun g _ => mx_no md (mx_nw s (fun f i => mx_p1 S (fun n S => mx_eq (mx_fK f) 5 (mx_eq (mx_fY f) g (n = nI (mx_fX f) ∧ mx_bg (u.1 + 1) (u.2 + mx_fX f) M (k es L (.inr (.inr (.inl (f, i))) :: S) (mx_sn s f i) (u.1 + 1, u.2 + mx_fX f))))))))
    | .invokevirtual _ => mx_inv md cal M ex aux es L S s u k pc
    | .invokestatic _ => mx_inv md cal M ex aux es L S s u k pc
    | .invokespecial _ => match aux with
      | [] => mx_no md (mx_r1 S (fun _ S => mx_em S (k es L [] s u)))
      | a :: r => mx_inv md cal M ex (a :: r) es L S s u k pc
    | .return_ => mx_rt0 S M.2.1 (post.1 s)
    | .ireturn => mx_p1 S (fun x S => mx_rt1 S M.2.1 x (post.2.1 x s))
    | .areturn => mx_rf S (fun f i S => mx_rt2 S M.2.1 (post.2.2 f i s))
    | _ => False
def mx_blk (q : Nat → mLV → mSt → Nat × Nat → Prop) : Nat → Bool → List mEn → mLV → List mAV → mSt → Nat × Nat → Prop
  | 0 => fun _ _ _ _ _ _ => False
  | n + 1 => fun b es L S s u => match es with
    | [] => False
    | e :: es' => match b, e.2.1 with
      | false, some lv => match S with
        | [] => q e.1 (mx_pk L lv) s u
        | _ :: _ => False
      | _, _ => mx_stp md scr cal M post ex (mx_blk q n false) e es' L S s u
def mx_xq : Nat → Nat → mLV → mSt → Nat × Nat → Prop
  | 0 => fun _ _ _ _ => False
  | n + 1 => fun pc L s u => mx_blk md scr cal M post ex (mx_xq n) 700 true (mx_jp M.1 pc) L [] s u
end
def mx_XW (md : Bool) (scr : mSc) : Nat → Nat → List mAV → mSt → mPo → (Nat → mSt → Prop) → Prop
  | 0 => fun _ _ _ _ _ => False
  | d + 1 => fun mi as s post ex => mx_eq (Nat.ble (mx_wt as) (mx_mLs.getD mi 0)).toNat 1 (∃ n, mx_blk md scr (mx_XW md scr d) (mx_mt mi) post ex (mx_xq md scr (mx_XW md scr d) (mx_mt mi) post ex n) 700 true (mx_mt mi).1 (mx_args 0 as) [] s (0, 0))
end
section
def mx_vv (bs : Nat) : mAV → Value
  | .inl x => .int x
  | .inr (.inl y) => .long y
  | .inr (.inr (.inl (f, i))) => .ref (bs + mx_num f i)
  | .inr (.inr (.inr a)) => .ref a
theorem mx_vvc (bs : Nat) (v : mAV) : (mx_vv bs v).category = mx_cat v := by
  rcases v with x | y | ⟨f, i⟩ | a <;> rfl
def mx_ok (s : mSt) : mAV → Prop
  | .inr (.inr (.inl (f, i))) => i < mx_fC f ∧ mx_num f i < s.2.2.2
  | _ => True
def mx_oS (s : mSt) (S : List mAV) : Prop := ∀ v ∈ S, mx_ok s v
def mx_oL (s : mSt) (L : mLV) : Prop := ∀ q ∈ L, mx_ok s q.2
def mx_VL (bs : Nat) (L : mLV) : List (Nat × Value) := L.map (fun q => (q.1, mx_vv bs q.2))
theorem mx_oS_t {s : mSt} {v : mAV} {S : List mAV} (h : mx_oS s (v :: S)) : mx_oS s S := fun w hw => h w (List.mem_cons_of_mem _ hw)
theorem mx_oS_h {s : mSt} {v : mAV} {S : List mAV} (h : mx_oS s (v :: S)) : mx_ok s v := h v List.mem_cons_self
theorem mx_oS_c {s : mSt} {v : mAV} {S : List mAV} (hv : mx_ok s v) (h : mx_oS s S) : mx_oS s (v :: S) := fun w hw => by
  rcases List.mem_cons.mp hw with rfl | hw
  · exact hv
  · exact h w hw
theorem mx_oS_n {s : mSt} : mx_oS s [] := fun _ h => absurd h List.not_mem_nil
theorem mx_beq (a b : Nat) : (a == b) = Nat.beq a b := by
  cases h : Nat.beq a b with
  | true => simp [Nat.eq_of_beq_eq_true h]
  | false => simp [Nat.ne_of_beq_eq_false h]
theorem mx_lk_mem {i : Nat} {v : mAV} : ∀ {L : mLV}, mx_lk i L = some v → (i, v) ∈ L
  | [], h => by cases h
  | (j, w) :: L, h => by
    unfold mx_lk at h
    cases hb : Nat.beq i j with
    | true =>
      rw [hb] at h
      have e1 := Nat.eq_of_beq_eq_true hb
      cases h
      rw [e1]
      exact List.mem_cons_self
    | false =>
      rw [hb] at h
      exact List.mem_cons_of_mem _ (mx_lk_mem h)
theorem mx_lv {bs : Nat} {ls : Array Slot} {n i : Nat} {v : mAV} {L : mLV} (hl : lv_has ls n (mx_VL bs L)) (h : mx_lk i L = some v) : ls[i]? = some (.val (mx_vv bs v)) := hl.2.2 (i, mx_vv bs v) (List.mem_map.mpr ⟨(i, v), mx_lk_mem h, rfl⟩)
theorem mx_VL_st1 (bs i : Nat) (v : mAV) (L : mLV) : (i, mx_vv bs v) :: (mx_VL bs L).filter (fun q => !(q.1 == i) && !(q.1 + 1 == i && q.2.category == 2)) = mx_VL bs (mx_st1 i v L) := by
  unfold mx_VL mx_st1
  rw [List.map_cons, List.filter_map]
  have e : ((fun q : Nat × Value => !(q.1 == i) && !(q.1 + 1 == i && q.2.category == 2)) ∘ fun q : Nat × mAV => (q.1, mx_vv bs q.2)) = fun q : Nat × mAV => !(Nat.beq q.1 i) && !(Nat.beq (q.1 + 1) i && Nat.beq (mx_cat q.2) 2) := by
    funext q
    simp only [Function.comp, mx_beq, mx_vvc]
  rw [e]
theorem mx_VL_st2 (bs i : Nat) (v : mAV) (L : mLV) : (i, mx_vv bs v) :: (mx_VL bs L).filter (fun q => !(q.1 == i) && (!(q.1 == i + 1) && !(q.1 + 1 == i && q.2.category == 2))) = mx_VL bs (mx_st2 i v L) := by
  unfold mx_VL mx_st2
  rw [List.map_cons, List.filter_map]
  have e : ((fun q : Nat × Value => !(q.1 == i) && (!(q.1 == i + 1) && !(q.1 + 1 == i && q.2.category == 2))) ∘ fun q : Nat × mAV => (q.1, mx_vv bs q.2)) = fun q : Nat × mAV => !(Nat.beq q.1 i) && (!(Nat.beq q.1 (i + 1)) && !(Nat.beq (q.1 + 1) i && Nat.beq (mx_cat q.2) 2)) := by
    funext q
    simp only [Function.comp, mx_beq, mx_vvc]
  rw [e]
theorem mx_oL_st1 {s : mSt} {i : Nat} {v : mAV} {L : mLV} (hv : mx_ok s v) (h : mx_oL s L) : mx_oL s (mx_st1 i v L) := fun q hq => by
  rcases List.mem_cons.mp hq with rfl | hq
  · exact hv
  · exact h q (List.mem_filter.mp hq).1
theorem mx_oL_st2 {s : mSt} {i : Nat} {v : mAV} {L : mLV} (hv : mx_ok s v) (h : mx_oL s L) : mx_oL s (mx_st2 i v L) := fun q hq => by
  rcases List.mem_cons.mp hq with rfl | hq
  · exact hv
  · exact h q (List.mem_filter.mp hq).1
theorem mx_pk_in {L : mLV} {q : Nat × mAV} : ∀ {is : List Nat}, q ∈ mx_pk L is → q ∈ L
  | [], h => absurd h List.not_mem_nil
  | i :: is, h => by
    unfold mx_pk at h
    cases hl : mx_lk i L with
    | none =>
      rw [hl] at h
      exact mx_pk_in h
    | some v =>
      rw [hl] at h
      rcases List.mem_cons.mp h with rfl | h
      · exact mx_lk_mem hl
      · exact mx_pk_in h
theorem mx_lv_pk {bs : Nat} {ls : Array Slot} {n : Nat} {L : mLV} {is : List Nat} (hl : lv_has ls n (mx_VL bs L)) : lv_has ls n (mx_VL bs (mx_pk L is)) := ⟨hl.1, hl.2.1, fun q hq => by
  obtain ⟨x, hx, rfl⟩ := List.mem_map.mp hq
  exact hl.2.2 _ (List.mem_map.mpr ⟨x, mx_pk_in hx, rfl⟩)⟩
theorem mx_lv_args (bs : Nat) : ∀ (vs : List mAV) (i : Nat), lv_args i (vs.map (mx_vv bs)) = mx_VL bs (mx_args i vs)
  | [], _ => rfl
  | v :: vs, i => by
    have ih := mx_lv_args bs vs
    have hc := mx_vvc bs v
    rcases v with x | y | ⟨f, j⟩ | a
    all_goals
      simp only [List.map_cons, lv_args, mx_args, mx_VL, mx_vv, Value.category, mx_cat] at ih ⊢
      simp [ih]
theorem mx_oL_args {s : mSt} : ∀ {vs : List mAV} {i : Nat}, mx_oS s vs → mx_oL s (mx_args i vs)
  | [], _, _ => fun _ h => absurd h List.not_mem_nil
  | v :: vs, i, h => fun q hq => by
    rcases List.mem_cons.mp hq with rfl | hq
    · exact mx_oS_h h
    · exact mx_oL_args (mx_oS_t h) q hq
theorem mx_p1_o {S : List mAV} {k : Int32 → List mAV → Prop} (h : mx_p1 S k) : ∃ x S', S = .inl x :: S' ∧ k x S' := by
  unfold mx_p1 at h
  split at h
  · exact ⟨_, _, rfl, h⟩
  · exact h.elim
theorem mx_p2_o {S : List mAV} {k : Int32 → Int32 → List mAV → Prop} (h : mx_p2 S k) : ∃ x y S', S = .inl y :: .inl x :: S' ∧ k x y S' := by
  unfold mx_p2 at h
  split at h
  · exact ⟨_, _, _, rfl, h⟩
  · exact h.elim
theorem mx_q1_o {S : List mAV} {k : Int64 → List mAV → Prop} (h : mx_q1 S k) : ∃ x S', S = .inr (.inl x) :: S' ∧ k x S' := by
  unfold mx_q1 at h
  split at h
  · exact ⟨_, _, rfl, h⟩
  · exact h.elim
theorem mx_q2_o {S : List mAV} {k : Int64 → Int64 → List mAV → Prop} (h : mx_q2 S k) : ∃ x y S', S = .inr (.inl y) :: .inr (.inl x) :: S' ∧ k x y S' := by
  unfold mx_q2 at h
  split at h
  · exact ⟨_, _, _, rfl, h⟩
  · exact h.elim
theorem mx_qi_o {S : List mAV} {k : Int64 → Int32 → List mAV → Prop} (h : mx_qi S k) : ∃ x y S', S = .inl y :: .inr (.inl x) :: S' ∧ k x y S' := by
  unfold mx_qi at h
  split at h
  · exact ⟨_, _, _, rfl, h⟩
  · exact h.elim
theorem mx_ix_o {S : List mAV} {k : Int32 → Nat → Nat → List mAV → Prop} (h : mx_ix S k) : ∃ j f i S', S = .inl j :: .inr (.inr (.inl (f, i))) :: S' ∧ k j f i S' := by
  unfold mx_ix at h
  split at h
  · exact ⟨_, _, _, _, rfl, h⟩
  · exact h.elim
theorem mx_rf_o {S : List mAV} {k : Nat → Nat → List mAV → Prop} (h : mx_rf S k) : ∃ f i S', S = .inr (.inr (.inl (f, i))) :: S' ∧ k f i S' := by
  unfold mx_rf at h
  split at h
  · exact ⟨_, _, _, rfl, h⟩
  · exact h.elim
theorem mx_br_o {md : Bool} {c A B : Prop} [Decidable c] (h : mx_br md c A B) : (c → A) ∧ (¬ c → B) := by
  unfold mx_br at h
  cases md with
  | true => exact h
  | false =>
    have h : (if c then A else B) := h
    by_cases hc : c
    · rw [if_pos hc] at h
      exact ⟨fun _ => h, fun z => absurd hc z⟩
    · rw [if_neg hc] at h
      exact ⟨fun z => absurd z hc, fun _ => h⟩
theorem mx_to_o {md : Bool} {t : mSt} {k : mSt → Prop} (h : mx_to md t k) : k t := by
  unfold mx_to at h
  cases md with
  | true => exact h t rfl
  | false => exact h
theorem mx_pop_o : ∀ {n : Nat} {acc S as S' : List mAV}, mx_pop n acc S = some (as, S') → ∃ P, as = P ++ acc ∧ S = P.reverse ++ S' ∧ P.length = n
  | 0, acc, S, as, S', h => by
    simp only [mx_pop, Option.some.injEq, Prod.mk.injEq] at h
    exact ⟨[], by simp [h.1], by simp [h.2], rfl⟩
  | n + 1, acc, [], as, S', h => by simp [mx_pop] at h
  | n + 1, acc, v :: S, as, S', h => by
    simp only [mx_pop] at h
    obtain ⟨P, h1, h2, h3⟩ := mx_pop_o h
    exact ⟨P ++ [v], by simp [h1], by simp [h2], by simp [h3]⟩
theorem mx_wt_o (bs : Nat) : ∀ (S : List mAV), ((S.map (mx_vv bs)).map fun v => v.category).sum = mx_wt S
  | [] => rfl
  | v :: S => by
    have ih := mx_wt_o bs S
    simp only [List.map_cons, List.sum_cons, mx_wt, mx_vvc, ih]
theorem mx_li_o {o : Option mAV} {k : Int32 → Prop} (h : mx_li o k) : ∃ x, o = some (.inl x) ∧ k x := by
  unfold mx_li at h
  split at h
  · exact ⟨_, rfl, h⟩
  · exact h.elim
theorem mx_ll_o {o : Option mAV} {k : Int64 → Prop} (h : mx_ll o k) : ∃ x, o = some (.inr (.inl x)) ∧ k x := by
  unfold mx_ll at h
  split at h
  · exact ⟨_, rfl, h⟩
  · exact h.elim
theorem mx_la_o {o : Option mAV} {k : (Nat × Nat) ⊕ Nat → Prop} (h : mx_la o k) : ∃ x, o = some (.inr (.inr x)) ∧ k x := by
  unfold mx_la at h
  split at h
  · exact ⟨_, rfl, h⟩
  · exact h.elim
theorem mx_r1_o {S : List mAV} {k : (Nat × Nat) ⊕ Nat → List mAV → Prop} (h : mx_r1 S k) : ∃ r S', S = .inr (.inr r) :: S' ∧ k r S' := by
  unfold mx_r1 at h
  split at h
  · exact ⟨_, _, rfl, h⟩
  · exact h.elim
theorem mx_d1_o {S : List mAV} {k : mAV → List mAV → Prop} (h : mx_d1 S k) : ∃ v S', S = v :: S' ∧ mx_cat v = 1 ∧ k v S' := by
  unfold mx_d1 at h
  split at h
  · exact ⟨_, _, rfl, rfl, h⟩
  · exact ⟨_, _, rfl, rfl, h⟩
  · exact h.elim
theorem mx_d2_o {S : List mAV} {k : Int32 → (Nat × Nat) ⊕ Nat → List mAV → Prop} (h : mx_d2 S k) : ∃ j r S', S = .inl j :: .inr (.inr r) :: S' ∧ k j r S' := by
  unfold mx_d2 at h
  split at h
  · exact ⟨_, _, _, rfl, h⟩
  · exact h.elim
theorem mx_pf_o {S : List mAV} {k : Int32 → Nat → Nat → List mAV → Prop} {kr : Nat → Nat → Nat → Nat → List mAV → Prop} (h : mx_pf S k kr) : (∃ x f i S', S = .inl x :: .inr (.inr (.inl (f, i))) :: S' ∧ k x f i S') ∨ ∃ g y f i S', S = .inr (.inr (.inl (g, y))) :: .inr (.inr (.inl (f, i))) :: S' ∧ kr g y f i S' := by
  unfold mx_pf at h
  split at h
  · exact Or.inl ⟨_, _, _, _, rfl, h⟩
  · exact Or.inr ⟨_, _, _, _, _, rfl, h⟩
  · exact h.elim
theorem mx_a1_o {aux : List Nat} {k : Nat → Prop} (h : mx_a1 aux k) : ∃ t, aux = [t] ∧ k t := by
  unfold mx_a1 at h
  split at h
  · exact ⟨_, rfl, h⟩
  · exact h.elim
theorem mx_aq_o {aux : List Nat} {k : Nat → List Nat → Prop} (h : mx_aq aux k) : ∃ t r, aux = t :: r ∧ k t r := by
  unfold mx_aq at h
  split at h
  · exact ⟨_, _, rfl, h⟩
  · exact h.elim
theorem mx_a4_o {aux : List Nat} {k : Nat → Nat → Nat → Prop} (h : mx_a4 aux k) : ∃ ci j n z r, aux = ci :: j :: n :: z :: r ∧ k ci j z := by
  unfold mx_a4 at h
  split at h
  · exact ⟨_, _, _, _, _, rfl, h⟩
  · exact h.elim
theorem mx_eq_o {a b : Nat} {P : Prop} (h : mx_eq a b P) : a = b ∧ P := by
  unfold mx_eq at h
  split at h
  · rename_i hb
    exact ⟨Nat.eq_of_beq_eq_true hb, h⟩
  · exact h.elim
theorem mx_kn_o {f : Nat} {P : Prop} (h : mx_kn f P) : ¬ mx_fK f = 0 ∧ P := by
  unfold mx_kn at h
  split at h
  · exact h.elim
  · rename_i hb
    exact ⟨Nat.ne_of_beq_eq_false hb, h⟩
theorem mx_no_o {md : Bool} {P : Prop} (h : mx_no md P) : md = false ∧ P := by
  cases md with
  | true => exact False.elim h
  | false => exact ⟨rfl, h⟩
theorem mx_or_o {md : Bool} {ci : Nat} {P : Prop} (h : mx_or md ci P) : (md = false ∨ ci = 3) ∧ P := by
  unfold mx_or at h
  cases md with
  | false => exact ⟨Or.inl rfl, h⟩
  | true =>
    cases hb : Nat.beq ci 3 with
    | true =>
      rw [hb] at h
      exact ⟨Or.inr (Nat.eq_of_beq_eq_true hb), h⟩
    | false =>
      rw [hb] at h
      exact False.elim h
theorem mx_bg_o {a b : Nat} {M : mMt} {P : Prop} (h : mx_bg a b M P) : a ≤ M.2.2.1 ∧ b ≤ M.2.2.2.1 ∧ P := by
  obtain ⟨h1, h⟩ := mx_eq_o (show mx_eq (Nat.ble a M.2.2.1 && Nat.ble b M.2.2.2.1).toNat 1 P from h)
  cases h2 : Nat.ble a M.2.2.1 with
  | false =>
    rw [h2] at h1
    cases h1
  | true =>
    cases h3 : Nat.ble b M.2.2.2.1 with
    | false =>
      rw [h2, h3] at h1
      cases h1
    | true => exact ⟨Nat.le_of_ble_eq_true h2, Nat.le_of_ble_eq_true h3, h⟩
theorem mx_nw_o {s : mSt} {k : Nat → Nat → Prop} (h : mx_nw s k) : ∃ f i, mx_cod.getD s.2.2.2 (99, 0) = (f, i) ∧ k f i := ⟨(mx_cod.getD s.2.2.2 (99, 0)).1, (mx_cod.getD s.2.2.2 (99, 0)).2, rfl, h⟩
end
section
theorem mx_t0 {f i : Nat} (h : i < mx_fC f) : f < mx_fam.length := by
  refine Nat.lt_of_not_le fun hf => ?_
  have e : mx_fC f = 0 := by
    unfold mx_fC
    rw [List.getD_eq_getElem?_getD, List.getElem?_eq_none hf]
    rfl
  omega
theorem mx_t1 : ∀ f, f < mx_fam.length → ∀ i, i < mx_fC f → mx_cod.getD (mx_num f i) (99, 0) = (f, i) ∧ mx_num f i < mx_KT := by decide +kernel
theorem mx_t2 : ∀ q, q < mx_KT → mx_num (mx_cod.getD q (99, 0)).1 (mx_cod.getD q (99, 0)).2 = q ∧ (mx_cod.getD q (99, 0)).2 < mx_fC (mx_cod.getD q (99, 0)).1 := by decide +kernel
def mx_tA (f : Nat) : Nat := match mx_fK f with
  | 1 => 0
  | 2 => 2
  | 3 => 5
  | 4 => 1
  | _ => match mx_fY f with
    | 5 => 3
    | _ => 4
def mx_fv (bs : Nat) (s : mSt) (f i j : Nat) : Value := match mx_fR (mx_fX f) j with
  | 0 => .int (s.1 f i j)
  | g + 1 => va_rf ((s.2.2.1 f i j).map (fun y => bs + mx_num g y))
def mx_enc (ca : Nat → ClassId) (bs : Nat) (s : mSt) (f i : Nat) : va_E := match mx_fK f with
  | 0 => .inr (mx_fX f, (List.range (mx_nF (mx_fX f))).map (mx_fv bs s f i))
  | 4 => .inl (ca (mx_tA f), mx_fX f, .inr (.inl (s.2.1 f i)))
  | 5 => .inl (ca (mx_tA f), mx_fX f, .inr (.inr (.inr (.inr (fun k => (s.2.2.1 f i k).map (fun y => bs + mx_num (mx_fY f) y))))))
  | _ => .inl (ca (mx_tA f), mx_fX f, .inl (s.1 f i))
def mx_ws (ca : Nat → ClassId) (bs : Nat) (s : mSt) : va_W := (List.range s.2.2.2).map (fun q => (bs + q, mx_enc ca bs s (mx_cod.getD q (99, 0)).1 (mx_cod.getD q (99, 0)).2))
section
variable {ca : Nat → ClassId} {bs : Nat} {s s' : mSt} {f i : Nat}
theorem mx_enc0 (h : mx_fK f = 0) : mx_enc ca bs s f i = .inr (mx_fX f, (List.range (mx_nF (mx_fX f))).map (mx_fv bs s f i)) := by
  unfold mx_enc
  rw [h]
  rfl
theorem mx_enc1 (h : mx_fK f = 1) : mx_enc ca bs s f i = .inl (ca 0, mx_fX f, .inl (s.1 f i)) := by
  unfold mx_enc mx_tA
  rw [h]
  rfl
theorem mx_enc2 (h : mx_fK f = 2) : mx_enc ca bs s f i = .inl (ca 2, mx_fX f, .inl (s.1 f i)) := by
  unfold mx_enc mx_tA
  rw [h]
  rfl
theorem mx_enc3 (h : mx_fK f = 3) : mx_enc ca bs s f i = .inl (ca 5, mx_fX f, .inl (s.1 f i)) := by
  unfold mx_enc mx_tA
  rw [h]
  rfl
theorem mx_enc4 (h : mx_fK f = 4) : mx_enc ca bs s f i = .inl (ca 1, mx_fX f, .inr (.inl (s.2.1 f i))) := by
  unfold mx_enc mx_tA
  rw [h]
  rfl
theorem mx_enc5 (h : mx_fK f = 5) : mx_enc ca bs s f i = .inl (ca (mx_tA f), mx_fX f, .inr (.inr (.inr (.inr (fun k => (s.2.2.1 f i k).map (fun y => bs + mx_num (mx_fY f) y)))))) := by
  unfold mx_enc
  rw [h]
  rfl
theorem mx_encC (h1 : s'.1 f i = s.1 f i) (h2 : s'.2.1 f i = s.2.1 f i) (h3 : s'.2.2.1 f i = s.2.2.1 f i) : mx_enc ca bs s' f i = mx_enc ca bs s f i := by
  have e : mx_fv bs s' f i = mx_fv bs s f i := by
    funext j
    unfold mx_fv
    rw [h1, h3]
  unfold mx_enc
  rw [e, h1, h2, h3]
theorem mx_at (h : i < mx_fC f ∧ mx_num f i < s.2.2.2) : (mx_ws ca bs s)[mx_num f i]? = some (bs + mx_num f i, mx_enc ca bs s f i) := by
  have h1 := (mx_t1 f (mx_t0 h.1) i h.1).1
  unfold mx_ws
  rw [List.getElem?_map, List.getElem?_range h.2]
  simp only [Option.map_some, h1]
theorem mx_len : (mx_ws ca bs s).length = s.2.2.2 := by simp [mx_ws]
theorem mx_set (hK : s.2.2.2 ≤ mx_KT) (e : s'.2.2.2 = s.2.2.2) (h : i < mx_fC f ∧ mx_num f i < s.2.2.2) (hn : ∀ f' i', ¬ (f' = f ∧ i' = i) → mx_enc ca bs s' f' i' = mx_enc ca bs s f' i') : (mx_ws ca bs s).set (mx_num f i) (bs + mx_num f i, mx_enc ca bs s' f i) = mx_ws ca bs s' := by
  apply List.ext_getElem?
  intro q
  by_cases hq : q < s.2.2.2
  · rw [List.getElem?_set]
    by_cases hqn : mx_num f i = q
    · subst hqn
      rw [if_pos rfl, if_pos (by rw [mx_len]; exact h.2)]
      exact (mx_at (by rw [e]; exact h)).symm
    · rw [if_neg hqn]
      unfold mx_ws
      rw [List.getElem?_map, List.getElem?_map, List.getElem?_range hq, List.getElem?_range (by rw [e]; exact hq)]
      simp only [Option.map_some]
      rw [hn]
      rintro ⟨h1, h2⟩
      have h3 := (mx_t2 q (by omega)).1
      rw [h1, h2] at h3
      exact hqn h3
  · rw [List.getElem?_eq_none (by rw [List.length_set, mx_len]; omega), List.getElem?_eq_none (by rw [mx_len, e]; omega)]
theorem mx_D : va_D (fun q => bs ≤ q) (mx_ws ca bs s) := by
  have g : ∀ (k : Nat) (q : Nat × va_E), (mx_ws ca bs s)[k]? = some q → q.1 = bs + k := by
    intro k q h
    have hk : k < s.2.2.2 := by rw [← mx_len (ca := ca) (bs := bs)]; exact (List.getElem?_eq_some_iff.mp h).1
    unfold mx_ws at h
    rw [List.getElem?_map, List.getElem?_range hk] at h
    cases h
    rfl
  refine ⟨fun i j p q hi hj e => ?_, fun k q hk => ?_⟩
  · have h1 := g i p hi
    have h2 := g j q hj
    omega
  · have h1 := g k q hk
    show bs ≤ q.1
    omega
end
theorem mx_u3n {α : Type} {F : Nat → Nat → Nat → α} {f i j : Nat} {v : α} {f' i' : Nat} (h : ¬ (f' = f ∧ i' = i)) : mx_u3 F f i j v f' i' = F f' i' := by
  funext z
  unfold mx_u3
  rw [if_neg]
  rintro ⟨a, b, -⟩
  exact h ⟨a, b⟩
theorem mx_u3i {F : Nat → Nat → Nat → Int32} {f i j : Nat} {v : Int32} : mx_u3 F f i j v f i = upd (F f i) j v := by
  funext z
  simp [mx_u3, upd]
theorem mx_u3l {F : Nat → Nat → Nat → Int64} {f i j : Nat} {v : Int64} : mx_u3 F f i j v f i = vp_updL (F f i) j v := by
  funext z
  simp [mx_u3, vp_updL]
theorem mx_u3r {F : Nat → Nat → Nat → Option Nat} {f i j : Nat} {v : Option Nat} : mx_u3 F f i j v f i = va_up (F f i) j v := by
  funext z
  simp [mx_u3, va_up]
theorem mx_u2n {α : Type} {F : Nat → Nat → Nat → α} {f i : Nat} {v : α} {f' i' : Nat} (h : ¬ (f' = f ∧ i' = i)) : mx_u2 F f i v f' i' = F f' i' := by
  funext z
  unfold mx_u2
  rw [if_neg h]
theorem mx_u2s {α : Type} {F : Nat → Nat → Nat → α} {f i : Nat} {v : α} : mx_u2 F f i v f i = fun _ => v := by
  funext z
  simp [mx_u2]
def mx_Made (s : mSt) : Prop := s.2.2.2 = mx_KT ∧ (∀ f i j g, i < mx_fC f → mx_fK f = 0 → ¬ mx_fX f = 3 → mx_fR (mx_fX f) j = g + 1 → s.2.2.1 f i j = some i) ∧ ∀ f i j, i < mx_fC f → mx_fK f = 5 → j < mx_fX f → s.2.2.1 f i j = some j
def mx_WH (md : Bool) (D : va_G) (ca : Nat → ClassId) (bs : Nat) (s : mSt) (H : Heap) : Prop := va_P D cls (mx_ws ca bs s) H ∧ s.2.2.2 ≤ mx_KT ∧ (md = true → mx_Made s)
def mx_VM (D : va_G) (ca : Nat → ClassId) (U : State) : Prop := va_K D cls (tyl ca) U ∧ NW U ∧ va_AO R_Rl U ∧ va_AO R_Vs U
theorem mx_VM.moved {D : va_G} {ca : Nat → ClassId} {u U : State} (hW : u.WarmedH U.vm) (h : mx_VM D ca u) : mx_VM D ca U := ⟨va_K.moved hW.alike h.1, h.2.1.warm hW, va_AO.moved hW.alike h.2.2.1, va_AO.moved hW.alike h.2.2.2⟩
def mx_WS (md : Bool) (D : va_G) (ca : Nat → ClassId) (bs : Nat) (scr : Nat × Nat × (Nat → Int32)) (s : mSt) (U : State) : Prop := mx_WH md D ca bs s U.heap ∧ mx_VM D ca U ∧ bs ≤ U.heap.size ∧ (va_X scr.1 scr.2.1 scr.2.2 U U.heap ∧ scr.1 < bs) ∧ (md = false → U.heap.size = bs + s.2.2.2) ∧ xt_T bs U
theorem mx_t3a : ∀ f, f < mx_fam.length → ∀ j, j < 28 → ∀ g, g < mx_fam.length → (mx_fK f = 0 ∧ ¬ mx_fX f = 3 ∧ mx_fR (mx_fX f) j = g + 1) → mx_fC g = mx_fC f := by decide +kernel
theorem mx_t3b : ∀ f, f < mx_fam.length → mx_fK f = 0 → mx_nF (mx_fX f) ≤ 28 := by decide +kernel
theorem mx_t3 {f j g : Nat} (hf : f < mx_fam.length) (h0 : mx_fK f = 0) (h3 : ¬ mx_fX f = 3) (hj : j < mx_nF (mx_fX f)) (hg : g < mx_fam.length) (hr : mx_fR (mx_fX f) j = g + 1) : mx_fC g = mx_fC f := mx_t3a f hf j (Nat.lt_of_lt_of_le hj (mx_t3b f hf h0)) g hg ⟨h0, h3, hr⟩
theorem mx_t4 : ∀ f, f < mx_fam.length → mx_fK f = 5 → mx_fC (mx_fY f) = mx_fX f := by decide +kernel
theorem mx_t5 : ∀ c, c < 7 → ∀ j, mx_nF c ≤ j → mx_fR c j = 0 := by
  intro c hc j hj
  rcases (show c = 0 ∨ c = 1 ∨ c = 2 ∨ c = 3 ∨ c = 4 ∨ c = 5 ∨ c = 6 by omega) with rfl | rfl | rfl | rfl | rfl | rfl | rfl
  all_goals
    unfold mx_fR
    rw [List.getD_eq_getElem?_getD, List.getElem?_eq_none (by exact hj)]
    rfl
end
section
def mx_wd (n : Nat) (w : Cond) : Bool := decide (lw_tbl[n]? = some w)
theorem mx_wd_g {n : Nat} {w : Cond} (h : mx_wd n w = true) (hg : goodWord w = true) : w ∈ wg := wg_in (List.mem_of_getElem? (of_decide_eq_true h)) hg
theorem mx_wd_n {n : Nat} {w : Cond} (h : mx_wd n w = true) (hg : isNest w = true) : w ∈ wn := List.mem_filter.mpr ⟨List.mem_of_getElem? (of_decide_eq_true h), hg⟩
def mx_lt (pc : Nat) (off : Int) (aux : List Nat) : Bool := match aux with
  | [t] => decide ((pc : Int) + off = (t : Int))
  | _ => false
def mx_tg (pc : Nat) : List Int → List Nat → Bool
  | [], [] => true
  | o :: os, t :: ts => decide ((pc : Int) + o = (t : Int)) && mx_tg pc os ts
  | _, _ => false
def mx_fl (own : String) (idx : Nat) (aux : List Nat) : Bool := match aux with
  | ci :: j :: nest :: _ :: n :: _ => match cls[ci]? with
    | some (C, T, N) => decide (j < N) && (decide ((T j).1 = C) && (match nest with
      | 0 => mx_wd n (.fieldLink own idx C (T j).2.1 (T j).2.2.1)
      | _ + 1 => mx_wd n (.fieldLinkNest own idx C (T j).2.1 (T j).2.2.1 R_Rs)))
    | none => false
  | _ => false
def mx_fw (own mn : String) (aux : List Nat) : Bool := match aux with
  | ci :: j :: nest :: z :: _ => match cls[ci]? with
    | some (C, T, _) => (match mx_fR ci j, z with
      | 0, 0 => decide ((T j).2.2.1 = "I")
      | 0, _ + 1 => decide ((T j).2.2.1 = "Z")
      | _ + 1, _ => match parseFieldDescriptor (T j).2.2.1 with
        | some (.object _) => true
        | some (.array _) => true
        | _ => false) && (match (T j).2.2.2 with
      | true => decide (mn = "<init>") && (decide (own = C) && decide (nest = 0))
      | false => true)
    | none => false
  | _ => false
def mx_ts (pc : Nat) (d : Int) (offs : List Int) (aux : List Nat) : Bool := match aux with
  | t :: ts => decide ((pc : Int) + d = (t : Int)) && mx_tg pc offs ts
  | [] => false
theorem mx_tg_o {pc : Nat} : ∀ {offs : List Int} {ts : List Nat}, mx_tg pc offs ts = true → offs.length = ts.length ∧ ∀ n (hn : n < ts.length), ∃ o, offs[n]? = some o ∧ (pc : Int) + o = ((ts[n] : Nat) : Int)
  | [], [], _ => ⟨rfl, fun n hn => absurd hn (Nat.not_lt_zero n)⟩
  | [], _ :: _, h => by cases h
  | _ :: _, [], h => by cases h
  | o :: os, t :: ts, h => by
    obtain ⟨h1, h2⟩ := Bool.and_eq_true_iff.mp (show (decide ((pc : Int) + o = (t : Int)) && mx_tg pc os ts) = true from h)
    obtain ⟨h3, h4⟩ := mx_tg_o h2
    refine ⟨by simp [h3], fun n hn => ?_⟩
    cases n with
    | zero => exact ⟨o, rfl, of_decide_eq_true h1⟩
    | succ n => exact h4 n (by simpa using hn)
theorem mx_sw_o {x : Int32} {K : Nat → Prop} {d : Prop} : ∀ {ts : List Nat} {j : Nat}, j + ts.length < 2 ^ 31 → mx_sw x j ts K d → (∀ n (hn : n < ts.length), x = nI (j + n) → K ts[n]) ∧ ((∀ n, n < ts.length → ¬ x = nI (j + n)) → d)
  | [], _, _, h => ⟨fun n hn => absurd hn (Nat.not_lt_zero n), fun _ => h⟩
  | t :: ts, j, hb, h => by
    have hb1 : j + 1 + ts.length < 2 ^ 31 := by simp at hb; omega
    obtain ⟨h1, h2⟩ := (show (x = nI j → K t) ∧ (¬ x = nI j → mx_sw x (j + 1) ts K d) from h)
    refine ⟨fun n hn hx => ?_, fun hall => ?_⟩
    · by_cases h0 : x = nI j
      · cases n with
        | zero => exact h1 h0
        | succ n =>
          have hn : n + 1 < ts.length + 1 := by simpa using hn
          have h9 := (nI_eq (by omega) (by omega)).mp (h0.symm.trans hx)
          omega
      · cases n with
        | zero => exact absurd hx h0
        | succ n => exact (mx_sw_o hb1 (h2 h0)).1 n (by simpa using hn) (by rw [hx]; congr 1; omega)
    · have h0 : ¬ x = nI j := hall 0 (by simp)
      exact (mx_sw_o hb1 (h2 h0)).2 (fun n hn => by
        have h9 := hall (n + 1) (by simpa using hn)
        rw [show j + 1 + n = j + (n + 1) by omega]
        exact h9)
def mx_nk (own : String) (n : Nat) (aux : List Nat) : Bool := match aux with
  | 0 :: ci :: w1 :: w2 :: w3 :: _ => match cls[ci]? with
    | some (C, _, N) => mx_wd w1 (.classLink own n C) && (mx_wd w2 (.instantiable C N) && mx_wd w3 (.initialized C))
    | none => false
  | (_ + 1) :: _ => true
  | _ => false
theorem mx_nk_o {own : String} {n ci : Nat} {r : List Nat} (h : mx_nk own n (0 :: ci :: r) = true) : ∃ C T N, cls[ci]? = some (C, T, N) ∧ Cond.classLink own n C ∈ wg ∧ Cond.instantiable C N ∈ wg ∧ Cond.initialized C ∈ wg := by
  match r, h with
  | [], h => cases h
  | [_], h => cases h
  | [_, _], h => cases h
  | w1 :: w2 :: w3 :: r, h =>
    unfold mx_nk at h
    dsimp only at h
    split at h
    · rename_i C T N hc
      obtain ⟨h1, h2⟩ := Bool.and_eq_true_iff.mp h
      obtain ⟨h2, h3⟩ := Bool.and_eq_true_iff.mp h2
      exact ⟨C, T, N, hc, mx_wd_g h1 rfl, mx_wd_g h2 rfl, mx_wd_g h3 rfl⟩
    · cases h
def mx_ak (own : String) (n : Nat) (aux : List Nat) : Bool := match aux with
  | g :: w :: _ => match cls[mx_fX g]? with
    | some (C, _, _) => mx_wd w (.classLink own n C) && (decide (g = 5 ∧ C = R_Rl) || decide (g = 14 ∧ C = R_Vs))
    | none => false
  | _ => false
theorem mx_ak_o {own : String} {n g : Nat} {r : List Nat} (h : mx_ak own n (g :: r) = true) : ∃ C T N, cls[mx_fX g]? = some (C, T, N) ∧ Cond.classLink own n C ∈ wg ∧ ((g = 5 ∧ C = R_Rl) ∨ (g = 14 ∧ C = R_Vs)) := by
  match r, h with
  | [], h => cases h
  | w :: r, h =>
    unfold mx_ak at h
    dsimp only at h
    split at h
    · rename_i C T N hc
      obtain ⟨h1, h2⟩ := Bool.and_eq_true_iff.mp h
      refine ⟨C, T, N, hc, mx_wd_g h1 rfl, ?_⟩
      rcases Bool.or_eq_true_iff.mp h2 with h3 | h3
      · exact Or.inl (of_decide_eq_true h3)
      · exact Or.inr (of_decide_eq_true h3)
    · cases h
def mx_ok0 (own : String) (n : Nat) (aux : List Nat) : Bool := match aux with
  | [] => decide (Cond.methodLink own n Lib.objectInit ∈ lw_tbl) || decide (own = R_Rs ∧ (n = 59 ∨ n = 66 ∨ n = 72))
  | _ :: _ => true
def mx_c1 (own : String) (n : Nat) (lc : Int64) (aux : List Nat) : Bool := match aux with
  | [w] => mx_wd w (.constantLong own n lc)
  | _ => false
theorem mx_c1_o {own : String} {n : Nat} {lc : Int64} {aux : List Nat} (h : mx_c1 own n lc aux = true) : Cond.constantLong own n lc ∈ wg := by
  unfold mx_c1 at h
  split at h
  · exact mx_wd_g h rfl
  · cases h
def mx_okI (own mn : String) (maxL : Nat) (e : mEn) : Bool := match e with
  | (pc, _, ins, len, aux, ic, lc) => match ins with
    | .iconst n => decide (len = 1 ∧ Int32.ofInt n = ic)
    | .bipush n => decide (len = 2 ∧ (Int8.ofInt n).toInt32 = ic)
    | .sipush n => decide (len = 3 ∧ (Int16.ofInt n).toInt32 = ic)
    | .lconst n => decide (len = 1 ∧ Int64.ofNat n.val = lc)
    | .ldc2_w n => decide (len = 3) && mx_c1 own n lc aux
    | .iload _ => decide (len = 2)
    | .lload _ => decide (len = 2)
    | .aload _ => decide (len = 2)
    | .iload_n _ => decide (len = 1)
    | .lload_n _ => decide (len = 1)
    | .aload_n _ => decide (len = 1)
    | .istore i => decide (len = 2 ∧ i < maxL)
    | .lstore i => decide (len = 2 ∧ i + 1 < maxL)
    | .astore i => decide (len = 2 ∧ i < maxL)
    | .istore_n i => decide (len = 1 ∧ i.val < maxL)
    | .lstore_n i => decide (len = 1 ∧ i.val + 1 < maxL)
    | .astore_n i => decide (len = 1 ∧ i.val < maxL)
    | .iinc i n => decide (len = 3 ∧ Int32.ofInt n = ic ∧ i < maxL)
    | .goto off => decide (len = 3) && mx_lt pc off aux
    | .ifCond _ off => decide (len = 3) && mx_lt pc off aux
    | .if_icmp _ off => decide (len = 3) && mx_lt pc off aux
    | .tableswitch d lo hi offs => decide (lo = 0 ∧ hi + 1 = offs.size ∧ hi < 100) && mx_ts pc d offs.toList aux
    | .getfield n => decide (len = 3) && mx_fl own n aux
    | .putfield n => decide (len = 3) && (mx_fl own n aux && mx_fw own mn aux)
    | .anewarray n => decide (len = 3) && mx_ak own n aux
    | .new n => decide (len = 3) && mx_nk own n aux
    | .invokevirtual _ => decide (len = 3)
    | .invokestatic _ => decide (len = 3)
    | .invokespecial n => decide (len = 3) && mx_ok0 own n aux
    | .newarray _ => decide (len = 2)
    | _ => decide (len = 1)
def mx_okE (own mn : String) (cc : ByteArray) (maxL : Nat) (e : mEn) : Bool := decide (decode cc e.1 = .ok (e.2.2.1, e.2.2.2.1)) && mx_okI own mn maxL e
def mx_cns : List mEn → Bool
  | [] => true
  | [_] => true
  | a :: b :: r => Nat.beq b.1 (a.1 + a.2.2.2.1) && mx_cns (b :: r)
def mx_Sf (C es : List mEn) : Prop := ∃ pre, C = pre ++ es
theorem mx_Sf.in {C es : List mEn} {e : mEn} (h : mx_Sf C (e :: es)) : e ∈ C := by
  obtain ⟨pre, rfl⟩ := h
  simp
theorem mx_Sf.tail {C es : List mEn} {e : mEn} (h : mx_Sf C (e :: es)) : mx_Sf C es := by
  obtain ⟨pre, rfl⟩ := h
  exact ⟨pre ++ [e], by simp⟩
theorem mx_cns_t : ∀ {pre es : List mEn}, mx_cns (pre ++ es) = true → mx_cns es = true
  | [], _, h => h
  | [a], [], _ => rfl
  | [a], b :: r, h => by
    have h : (Nat.beq b.1 (a.1 + a.2.2.2.1) && mx_cns (b :: r)) = true := h
    exact (Bool.and_eq_true_iff.mp h).2
  | a :: b :: pre, es, h => by
    have h : (Nat.beq b.1 (a.1 + a.2.2.2.1) && mx_cns (b :: (pre ++ es))) = true := h
    exact mx_cns_t (pre := b :: pre) (Bool.and_eq_true_iff.mp h).2
theorem mx_nx {C es : List mEn} {e : mEn} (hc : mx_cns C = true) (h : mx_Sf C (e :: es)) : ∀ e' r, es = e' :: r → e'.1 = e.1 + e.2.2.2.1 := by
  obtain ⟨pre, rfl⟩ := h
  intro e' r he
  subst he
  have h1 := mx_cns_t hc
  have h1 : (Nat.beq e'.1 (e.1 + e.2.2.2.1) && mx_cns (e' :: r)) = true := h1
  exact Nat.eq_of_beq_eq_true (Bool.and_eq_true_iff.mp h1).1
theorem mx_jp_sf (C : List mEn) (t : Nat) : mx_Sf C (mx_jp C t) := ⟨C.takeWhile (fun e => !(Nat.beq e.1 t)), (List.takeWhile_append_dropWhile).symm⟩
theorem mx_jp_hd {C : List mEn} {t : Nat} : ∀ e r, mx_jp C t = e :: r → e.1 = t := by
  induction C with
  | nil =>
    intro e r h
    cases h
  | cons a C ih =>
    intro e r h
    unfold mx_jp at h ih
    rw [List.dropWhile_cons] at h
    cases hb : Nat.beq a.1 t with
    | true =>
      rw [hb] at h
      cases h
      exact Nat.eq_of_beq_eq_true hb
    | false =>
      rw [hb] at h
      exact ih e r h
def mx_GA (p : Program) (l : Launch) (e : Env) (R : Room) (s0 : State) (m : MethodId) (args : Array Value) (below : List Frame) (meth : Method) (c : Code) (Q : State → Prop) (md : Bool) (D : va_G) (ca : Nat → ClassId) (bs maxL : Nat) (pc : Nat) (L : mLV) (S : List mAV) (s : mSt) (u : Nat × Nat) : Prop :=
  ∀ (H : Heap) (lcs : List Loc) (ls : Array Slot), mx_WH md D ca bs s H → va_S (fun q => bs ≤ q) s0.heap H lcs → lv_has ls maxL (mx_VL bs L) → mx_oL s L → mx_oS s S → (u.1 ≤ R.cells ∧ u.2 ≤ R.slots) → (md = false → bs + s.2.2.2 = s0.heap.size + u.1) → W p l e R s0 m args below meth c H lcs u.1 u.2 Q (F0 m pc ls (S.map (mx_vv bs)))
section
variable {p : Program} {l : Launch} {e : Env} {R : Room} {s0 : State} {m : MethodId} {args : Array Value} {below : List Frame} {meth : Method} {c : Code} {Q : State → Prop} {md : Bool} {D : va_G} {ca : Nat → ClassId} {bs maxL : Nat} {pc pc' : Nat} {L L' : mLV} {S S' : List mAV} {s : mSt} {u : Nat × Nat}
theorem mx_g (h : mx_GA p l e R s0 m args below meth c Q md D ca bs maxL pc' L S' s u) (hr : ∀ H lcs ls, lv_has ls maxL (mx_VL bs L) → W p l e R s0 m args below meth c H lcs u.1 u.2 Q (F0 m pc' ls (S'.map (mx_vv bs))) → W p l e R s0 m args below meth c H lcs u.1 u.2 Q (F0 m pc ls (S.map (mx_vv bs)))) (ho : mx_oL s L → mx_oS s S → mx_oS s S') : mx_GA p l e R s0 m args below meth c Q md D ca bs maxL pc L S s u := fun H lcs ls hW hS hl hL hO hu hz => hr H lcs ls hl (h H lcs ls hW hS hl hL (ho hL hO) hu hz)
theorem mx_gl (h : mx_GA p l e R s0 m args below meth c Q md D ca bs maxL pc' L' S' s u) (hr : ∀ H lcs ls, lv_has ls maxL (mx_VL bs L) → (∀ ls', lv_has ls' maxL (mx_VL bs L') → W p l e R s0 m args below meth c H lcs u.1 u.2 Q (F0 m pc' ls' (S'.map (mx_vv bs)))) → W p l e R s0 m args below meth c H lcs u.1 u.2 Q (F0 m pc ls (S.map (mx_vv bs)))) (hL : mx_oL s L → mx_oS s S → mx_oL s L') (hO : mx_oS s S → mx_oS s S') : mx_GA p l e R s0 m args below meth c Q md D ca bs maxL pc L S s u := fun H lcs ls hW hS hl hL0 hO0 hu hz => hr H lcs ls hl (fun ls' hl' => h H lcs ls' hW hS hl' (hL hL0 hO0) (hO hO0) hu hz)
theorem mx_g2 {C : Prop} {pt pf : Nat} (h : (C → mx_GA p l e R s0 m args below meth c Q md D ca bs maxL pt L S' s u) ∧ (¬ C → mx_GA p l e R s0 m args below meth c Q md D ca bs maxL pf L S' s u)) (hr : ∀ H lcs ls, (C → W p l e R s0 m args below meth c H lcs u.1 u.2 Q (F0 m pt ls (S'.map (mx_vv bs)))) → (¬ C → W p l e R s0 m args below meth c H lcs u.1 u.2 Q (F0 m pf ls (S'.map (mx_vv bs)))) → W p l e R s0 m args below meth c H lcs u.1 u.2 Q (F0 m pc ls (S.map (mx_vv bs)))) (hO : mx_oS s S → mx_oS s S') : mx_GA p l e R s0 m args below meth c Q md D ca bs maxL pc L S s u := fun H lcs ls hW hS hl hL0 hO0 hu hz => hr H lcs ls (fun hc => h.1 hc H lcs ls hW hS hl hL0 (hO hO0) hu hz) (fun hc => h.2 hc H lcs ls hW hS hl hL0 (hO hO0) hu hz)
end
theorem mx_t6 : ∀ f, f < mx_fam.length → mx_fK f = 0 ∨ mx_fK f = 1 ∨ mx_fK f = 2 ∨ mx_fK f = 3 ∨ mx_fK f = 4 ∨ mx_fK f = 5 := by decide +kernel
theorem mx_t7 : ∀ f, f < mx_fam.length → mx_fK f = 5 → mx_tA f = 3 ∨ mx_tA f = 4 := by decide +kernel
theorem mx_t8 : ∀ f, f < mx_fam.length → mx_fK f = 0 → mx_fX f < 7 := by decide +kernel
theorem mx_t9 : ∀ c, c < 7 → ∀ j, j < mx_nF c → mx_fR c j ≤ mx_fam.length := by decide +kernel
theorem mx_cin {ci : Nat} {C : String} {T : u_T} {N : Nat} (h : cls[ci]? = some (C, T, N)) : (∀ w ∈ u_ws C T N, w ∈ wg) ∧ mx_nF ci = N := by
  match ci, h with
  | 0, h => cases h; exact ⟨in_Rs, rfl⟩
  | 1, h => cases h; exact ⟨in_Cf, rfl⟩
  | 2, h => cases h; exact ⟨in_Lg, rfl⟩
  | 3, h => cases h; exact ⟨in_Rd, rfl⟩
  | 4, h => cases h; exact ⟨in_Rl, rfl⟩
  | 5, h => cases h; exact ⟨in_Vs, rfl⟩
  | 6, h => cases h; exact ⟨in_Md, rfl⟩
  | n + 7, h => cases h
theorem mx_tAo (ca : Nat → ClassId) {f i : Nat} (h : mx_fK f = 5) (hi : i < mx_fC f) : ∃ (t0 : Nat) (C : String), (tyl ca)[t0]? = some (ca (mx_tA f), FieldType.object C) := by
  rcases mx_t7 f (mx_t0 hi) h with e | e
  · exact ⟨3, _, by rw [e]; rfl⟩
  · exact ⟨4, _, by rw [e]; rfl⟩
section
variable {md : Bool} {D : va_G} {ca : Nat → ClassId} {bs : Nat} {s : mSt} {H H1 : Heap} {f i j : Nat}
theorem mx_alen (h : ¬ mx_fK f = 0) (hok : i < mx_fC f ∧ mx_num f i < s.2.2.2) : ∃ (t0 : Nat) (cA : ClassId) (x : vp_A) (ty : FieldType), (mx_ws ca bs s)[mx_num f i]? = some (bs + mx_num f i, .inl (cA, x)) ∧ (tyl ca)[t0]? = some (cA, ty) ∧ Int32.ofNat x.1 = nI (mx_fX f) := by
  have ha := mx_at (ca := ca) (bs := bs) hok
  rcases mx_t6 f (mx_t0 hok.1) with e | e | e | e | e | e
  · exact absurd e h
  · exact ⟨0, _, _, _, ha.trans (by rw [mx_enc1 e]), rfl, rfl⟩
  · exact ⟨2, _, _, _, ha.trans (by rw [mx_enc2 e]), rfl, rfl⟩
  · exact ⟨5, _, _, _, ha.trans (by rw [mx_enc3 e]), rfl, rfl⟩
  · exact ⟨1, _, _, _, ha.trans (by rw [mx_enc4 e]), rfl, rfl⟩
  · obtain ⟨t0, C, ht⟩ := mx_tAo ca e hok.1
    exact ⟨t0, _, _, _, ha.trans (by rw [mx_enc5 e]), ht, rfl⟩
theorem mx_okT (hm : mx_Made s) {g y : Nat} (h : y < mx_fC g) : mx_ok s (.inr (.inr (.inl (g, y)))) := ⟨h, by rw [hm.1]; exact (mx_t1 g (mx_t0 h) y h).2⟩
theorem mx_al_o {g : Nat} {r : Option Nat} {k : mAV → Prop} (h : mx_al s g r k) : ∃ y, r = some y ∧ mx_ok s (.inr (.inr (.inl (g, y)))) ∧ k (.inr (.inr (.inl (g, y)))) := by
  unfold mx_al at h
  cases r with
  | none => exact False.elim h
  | some y =>
    dsimp only at h
    split at h
    · rename_i hb
      obtain ⟨h1, h2⟩ := Bool.and_eq_true_iff.mp hb
      exact ⟨y, rfl, ⟨Nat.le_of_ble_eq_true h1, Nat.le_of_ble_eq_true h2⟩, h⟩
    · exact False.elim h
theorem mx_gr_o {g : Nat} {r : Option Nat} {k : mAV → Prop} (hW : mx_WH md D ca bs s H) (hm : mx_Made s → r = some i) (hi : mx_Made s → i < mx_fC g) (h : mx_gr md s g i r k) : ∃ y, r = some y ∧ mx_ok s (.inr (.inr (.inl (g, y)))) ∧ k (.inr (.inr (.inl (g, y)))) := by
  cases md with
  | true => exact ⟨i, hm (hW.2.2 rfl), mx_okT (hW.2.2 rfl) (hi (hW.2.2 rfl)), h⟩
  | false => exact mx_al_o h
theorem mx_get_o {k : mAV → Prop} (hW : mx_WH md D ca bs s H) (hok : i < mx_fC f ∧ mx_num f i < s.2.2.2) (h0 : mx_fK f = 0) (hj : j < mx_nF (mx_fX f)) (h : mx_get md s f i (mx_fX f) j k) : ∃ v, mx_fv bs s f i j = mx_vv bs v ∧ mx_ok s v ∧ k v := by
  have hf := mx_t0 hok.1
  unfold mx_get at h
  cases hr : mx_fR (mx_fX f) j with
  | zero =>
    rw [hr] at h
    exact ⟨.inl (s.1 f i j), by unfold mx_fv; rw [hr]; rfl, trivial, h⟩
  | succ g =>
    rw [hr] at h
    have hg : g < mx_fam.length := by
      have h9 := mx_t9 _ (mx_t8 f hf h0) j hj
      omega
    have fin : ∀ y, s.2.2.1 f i j = some y → mx_fv bs s f i j = mx_vv bs (.inr (.inr (.inl (g, y)))) := fun y hy => by
      unfold mx_fv
      rw [hr, hy]
      rfl
    cases md with
    | false =>
      obtain ⟨y, hy, hyo, h⟩ := mx_al_o (show mx_al s g (s.2.2.1 f i j) k from h)
      exact ⟨_, fin y hy, hyo, h⟩
    | true =>
      cases hb : Nat.beq (mx_fX f) 3 with
      | true =>
        rw [hb] at h
        obtain ⟨y, hy, hyl, h⟩ := (show ∃ y, s.2.2.1 f i j = some y ∧ y < mx_fC g ∧ k (.inr (.inr (.inl (g, y)))) from h)
        exact ⟨_, fin y hy, mx_okT (hW.2.2 rfl) hyl, h⟩
      | false =>
        rw [hb] at h
        have h3 : ¬ mx_fX f = 3 := Nat.ne_of_beq_eq_false hb
        obtain ⟨y, hy, hyo, h⟩ := mx_gr_o hW (fun hm => hm.2.1 f i j g hok.1 h0 h3 hr) (fun _ => by rw [mx_t3 hf h0 h3 hj hg hr]; exact hok.1) (show mx_gr true s g i (s.2.2.1 f i j) k from h)
        exact ⟨_, fin y hy, hyo, h⟩
theorem mx_enc1s {v : Int32} (h : mx_fK f = 1) : mx_enc ca bs (mx_si s f i j v) f i = .inl (ca 0, mx_fX f, .inl (upd (s.1 f i) j v)) := by
  rw [mx_enc1 h]
  show Sum.inl (ca 0, mx_fX f, Sum.inl (mx_u3 s.1 f i j v f i)) = _
  rw [mx_u3i]
theorem mx_enc2s {v : Int32} (h : mx_fK f = 2) : mx_enc ca bs (mx_si s f i j v) f i = .inl (ca 2, mx_fX f, .inl (upd (s.1 f i) j v)) := by
  rw [mx_enc2 h]
  show Sum.inl (ca 2, mx_fX f, Sum.inl (mx_u3 s.1 f i j v f i)) = _
  rw [mx_u3i]
theorem mx_enc3s {v : Int32} (h : mx_fK f = 3) : mx_enc ca bs (mx_si s f i j v) f i = .inl (ca 5, mx_fX f, .inl (upd (s.1 f i) j v)) := by
  rw [mx_enc3 h]
  show Sum.inl (ca 5, mx_fX f, Sum.inl (mx_u3 s.1 f i j v f i)) = _
  rw [mx_u3i]
theorem mx_enc4s {v : Int64} (h : mx_fK f = 4) : mx_enc ca bs (mx_sl s f i j v) f i = .inl (ca 1, mx_fX f, .inr (.inl (vp_updL (s.2.1 f i) j v))) := by
  rw [mx_enc4 h]
  show Sum.inl (ca 1, mx_fX f, Sum.inr (Sum.inl (mx_u3 s.2.1 f i j v f i))) = _
  rw [mx_u3l]
theorem mx_WH_si {v : Int32} {E : va_E} (hW : mx_WH md D ca bs s H) (hok : i < mx_fC f ∧ mx_num f i < s.2.2.2) (he : mx_enc ca bs (mx_si s f i j v) f i = E) (hP : va_P D cls ((mx_ws ca bs s).set (mx_num f i) (bs + mx_num f i, E)) H1) : mx_WH md D ca bs (mx_si s f i j v) H1 := by
  rw [← he, mx_set (s' := mx_si s f i j v) hW.2.1 rfl hok (fun f' i' h => mx_encC (mx_u3n h) rfl rfl)] at hP
  exact ⟨hP, hW.2.1, hW.2.2⟩
theorem mx_WH_sl {v : Int64} {E : va_E} (hW : mx_WH md D ca bs s H) (hok : i < mx_fC f ∧ mx_num f i < s.2.2.2) (he : mx_enc ca bs (mx_sl s f i j v) f i = E) (hP : va_P D cls ((mx_ws ca bs s).set (mx_num f i) (bs + mx_num f i, E)) H1) : mx_WH md D ca bs (mx_sl s f i j v) H1 := by
  rw [← he, mx_set (s' := mx_sl s f i j v) hW.2.1 rfl hok (fun f' i' h => mx_encC rfl (mx_u3n h) rfl)] at hP
  exact ⟨hP, hW.2.1, hW.2.2⟩
theorem mx_fl_o {own : String} {idx : Nat} {aux : List Nat} (h : mx_fl own idx aux = true) : ∃ ci j nest z w r C T N, aux = ci :: j :: nest :: z :: w :: r ∧ cls[ci]? = some (C, T, N) ∧ j < N ∧ (T j).1 = C ∧ ((nest = 0 ∧ Cond.fieldLink own idx C (T j).2.1 (T j).2.2.1 ∈ wg) ∨ (¬ nest = 0 ∧ Cond.fieldLinkNest own idx C (T j).2.1 (T j).2.2.1 R_Rs ∈ wn)) := by
  unfold mx_fl at h
  split at h
  · rename_i ci j nest z w r
    split at h
    · rename_i C T N hc
      obtain ⟨h1, h2⟩ := Bool.and_eq_true_iff.mp h
      obtain ⟨h3, h4⟩ := Bool.and_eq_true_iff.mp h2
      refine ⟨ci, j, nest, z, w, r, C, T, N, rfl, hc, of_decide_eq_true h1, of_decide_eq_true h3, ?_⟩
      cases nest with
      | zero => exact Or.inl ⟨rfl, mx_wd_g h4 rfl⟩
      | succ n => exact Or.inr ⟨Nat.succ_ne_zero n, mx_wd_n h4 rfl⟩
    · cases h
  · cases h
end
end
section
def mx_lat : Instr → Bool
  | .new _ => true
  | .newarray _ => true
  | .anewarray _ => true
  | .aastore => true
  | .putfield _ => true
  | .invokevirtual _ => true
  | .invokestatic _ => true
  | .invokespecial _ => true
  | .return_ => true
  | .ireturn => true
  | .areturn => true
  | _ => false
section
variable {p : Program} {l : Launch} {e : Env} {R : Room} {s0 : State} {m : MethodId} {args : Array Value} {below : List Frame} {meth : Method} {c : Code} {Q : State → Prop} {md : Bool} {D : va_G} {ca : Nat → ClassId} {bs maxL : Nat} {L : mLV} {S : List mAV} {s : mSt} {u : Nat × Nat}
set_option maxHeartbeats 4000000 in
theorem mx_stp_a {scr : mSc} {cal : Nat → List mAV → mSt → mPo → (Nat → mSt → Prop) → Prop} {M : mMt} {post : mPo} {ex : Nat → mSt → Prop} {k : List mEn → mLV → List mAV → mSt → Nat × Nat → Prop} {e0 : mEn} {es : List mEn} {own mn : String} {cc : ByteArray}
    (hx : p.tables.exec = Jvm.exec) (hb : c.code = cc) (hown : s0.vm.findClass own = some m.cls) (hts : ∀ w ∈ wg, w.before args s0 = true) (hV : mx_VM D ca s0) (hX : va_X scr.1 scr.2.1 scr.2.2 s0 s0.heap) (hXb : scr.1 < bs) (hbs : bs ≤ s0.heap.size)
    (hE : mx_okE own mn cc maxL e0 = true) (hnx : ∀ e' r, es = e' :: r → e'.1 = e0.1 + e0.2.2.2.1) (hsf : mx_Sf M.1 es)
    (hk : ∀ es L S s u, k es L S s u → mx_Sf M.1 es → ∀ pc, (∀ e r, es = e :: r → e.1 = pc) → mx_GA p l e R s0 m args below meth c Q md D ca bs maxL pc L S s u)
    (hl8 : mx_lat e0.2.2.1 = true → mx_stp md scr cal M post ex k e0 es L S s u → mx_GA p l e R s0 m args below meth c Q md D ca bs maxL e0.1 L S s u)
    (h : mx_stp md scr cal M post ex k e0 es L S s u) : mx_GA p l e R s0 m args below meth c Q md D ca bs maxL e0.1 L S s u := by
  obtain ⟨pc, cut, ins, len, aux, ic, lc⟩ := e0
  obtain ⟨hd, hI⟩ : decode cc pc = .ok (ins, len) ∧ mx_okI own mn maxL (pc, cut, ins, len, aux, ic, lc) = true := by
    have h9 := Bool.and_eq_true_iff.mp hE
    exact ⟨of_decide_eq_true h9.1, h9.2⟩
  have hn : ∀ e' r, es = e' :: r → e'.1 = pc + len := hnx
  show mx_GA p l e R s0 m args below meth c Q md D ca bs maxL pc L S s u
  cases ins with
  | iconst n =>
    obtain ⟨rfl, hv⟩ : len = 1 ∧ Int32.ofInt n = ic := of_decide_eq_true hI
    have h : k es L (.inl ic :: S) s u := h
    exact mx_g (hk _ _ _ _ _ h hsf _ hn) (fun H lcs ls _ k => lv_iconst hx hb hd hv k) (fun _ h => mx_oS_c trivial h)
  | bipush n =>
    obtain ⟨rfl, hv⟩ : len = 2 ∧ (Int8.ofInt n).toInt32 = ic := of_decide_eq_true hI
    have h : k es L (.inl ic :: S) s u := h
    exact mx_g (hk _ _ _ _ _ h hsf _ hn) (fun H lcs ls _ k => lv_bipush hx hb hd hv k) (fun _ h => mx_oS_c trivial h)
  | sipush n =>
    obtain ⟨rfl, hv⟩ : len = 3 ∧ (Int16.ofInt n).toInt32 = ic := of_decide_eq_true hI
    have h : k es L (.inl ic :: S) s u := h
    exact mx_g (hk _ _ _ _ _ h hsf _ hn) (fun H lcs ls _ k => lv_sipush hx hb hd hv k) (fun _ h => mx_oS_c trivial h)
  | lconst n =>
    obtain ⟨rfl, hv⟩ : len = 1 ∧ Int64.ofNat n.val = lc := of_decide_eq_true hI
    have h : k es L (.inr (.inl lc) :: S) s u := h
    exact mx_g (hk _ _ _ _ _ h hsf _ hn) (fun H lcs ls _ k => lv_lconst hx hb hd hv k) (fun _ h => mx_oS_c trivial h)
  | ldc2_w n =>
    obtain ⟨h1, h2⟩ := Bool.and_eq_true_iff.mp (show (decide (len = 3) && mx_c1 own n lc aux) = true from hI)
    obtain rfl : len = 3 := of_decide_eq_true h1
    have h : k es L (.inr (.inl lc) :: S) s u := h
    exact mx_g (hk _ _ _ _ _ h hsf _ hn) (fun H lcs ls _ k => lv_ldc2 hx hb hown (hts _ (mx_c1_o h2)) hd k) (fun _ h => mx_oS_c trivial h)
  | iload i =>
    obtain rfl : len = 2 := of_decide_eq_true hI
    obtain ⟨x, hv, h⟩ := mx_li_o (show mx_li _ _ from h)
    exact mx_g (hk _ _ _ _ _ h hsf _ hn) (fun H lcs ls hl k => lv_iload hx hb hd (mx_lv hl hv) k) (fun _ h => mx_oS_c trivial h)
  | iload_n i =>
    obtain rfl : len = 1 := of_decide_eq_true hI
    obtain ⟨x, hv, h⟩ := mx_li_o (show mx_li _ _ from h)
    exact mx_g (hk _ _ _ _ _ h hsf _ hn) (fun H lcs ls hl k => lv_iload_n hx hb hd rfl (mx_lv hl hv) k) (fun _ h => mx_oS_c trivial h)
  | lload i =>
    obtain rfl : len = 2 := of_decide_eq_true hI
    obtain ⟨x, hv, h⟩ := mx_ll_o (show mx_ll _ _ from h)
    exact mx_g (hk _ _ _ _ _ h hsf _ hn) (fun H lcs ls hl k => lv_lload hx hb hd (mx_lv hl hv) k) (fun _ h => mx_oS_c trivial h)
  | lload_n i =>
    obtain rfl : len = 1 := of_decide_eq_true hI
    obtain ⟨x, hv, h⟩ := mx_ll_o (show mx_ll _ _ from h)
    exact mx_g (hk _ _ _ _ _ h hsf _ hn) (fun H lcs ls hl k => lv_lload_n hx hb hd rfl (mx_lv hl hv) k) (fun _ h => mx_oS_c trivial h)
  | aload i =>
    obtain rfl : len = 2 := of_decide_eq_true hI
    obtain ⟨r, hv, h⟩ := mx_la_o (show mx_la _ _ from h)
    have ho : mx_oL s L → mx_ok s (.inr (.inr r)) := fun hL => hL _ (mx_lk_mem hv)
    rcases r with ⟨f, j⟩ | a
    · exact mx_g (hk _ _ _ _ _ h hsf _ hn) (fun H lcs ls hl k => lv_aload hx hb hd (mx_lv hl hv) k) (fun hL h => mx_oS_c (ho hL) h)
    · exact mx_g (hk _ _ _ _ _ h hsf _ hn) (fun H lcs ls hl k => lv_aload hx hb hd (mx_lv hl hv) k) (fun hL h => mx_oS_c trivial h)
  | aload_n i =>
    obtain rfl : len = 1 := of_decide_eq_true hI
    obtain ⟨r, hv, h⟩ := mx_la_o (show mx_la _ _ from h)
    have ho : mx_oL s L → mx_ok s (.inr (.inr r)) := fun hL => hL _ (mx_lk_mem hv)
    rcases r with ⟨f, j⟩ | a
    · exact mx_g (hk _ _ _ _ _ h hsf _ hn) (fun H lcs ls hl k => lv_aload_n hx hb hd rfl (mx_lv hl hv) k) (fun hL h => mx_oS_c (ho hL) h)
    · exact mx_g (hk _ _ _ _ _ h hsf _ hn) (fun H lcs ls hl k => lv_aload_n hx hb hd rfl (mx_lv hl hv) k) (fun hL h => mx_oS_c trivial h)
  | istore i =>
    obtain ⟨rfl, hi⟩ : len = 2 ∧ i < maxL := of_decide_eq_true hI
    obtain ⟨x, S, rfl, h⟩ := mx_p1_o (show mx_p1 S _ from h)
    exact mx_gl (hk _ _ _ _ _ h hsf _ hn) (fun H lcs ls hl k => lv_istore hx hb hd hl hi (mx_VL_st1 bs _ (.inl x) L) k) (fun hL _ => mx_oL_st1 trivial hL) (fun h => mx_oS_t h)
  | astore i =>
    obtain ⟨rfl, hi⟩ : len = 2 ∧ i < maxL := of_decide_eq_true hI
    obtain ⟨r, S, rfl, h⟩ := mx_r1_o (show mx_r1 S _ from h)
    rcases r with ⟨f, j⟩ | a
    · exact mx_gl (hk _ _ _ _ _ h hsf _ hn) (fun H lcs ls hl k => lv_astore hx hb hd hl hi (mx_VL_st1 bs _ (.inr (.inr (.inl (f, j)))) L) k) (fun hL hO => mx_oL_st1 (mx_oS_h hO) hL) (fun h => mx_oS_t h)
    · exact mx_gl (hk _ _ _ _ _ h hsf _ hn) (fun H lcs ls hl k => lv_astore hx hb hd hl hi (mx_VL_st1 bs _ (.inr (.inr (.inr a))) L) k) (fun hL hO => mx_oL_st1 trivial hL) (fun h => mx_oS_t h)
  | lstore i =>
    obtain ⟨rfl, hi⟩ : len = 2 ∧ i + 1 < maxL := of_decide_eq_true hI
    obtain ⟨x, S, rfl, h⟩ := mx_q1_o (show mx_q1 S _ from h)
    exact mx_gl (hk _ _ _ _ _ h hsf _ hn) (fun H lcs ls hl k => lv_lstore hx hb hd hl hi (mx_VL_st2 bs _ (.inr (.inl x)) L) k) (fun hL _ => mx_oL_st2 trivial hL) (fun h => mx_oS_t h)
  | istore_n i =>
    obtain ⟨rfl, hi⟩ : len = 1 ∧ i.val < maxL := of_decide_eq_true hI
    obtain ⟨x, S, rfl, h⟩ := mx_p1_o (show mx_p1 S _ from h)
    exact mx_gl (hk _ _ _ _ _ h hsf _ hn) (fun H lcs ls hl k => lv_istore_n hx hb hd rfl hl hi (mx_VL_st1 bs _ (.inl x) L) k) (fun hL _ => mx_oL_st1 trivial hL) (fun h => mx_oS_t h)
  | astore_n i =>
    obtain ⟨rfl, hi⟩ : len = 1 ∧ i.val < maxL := of_decide_eq_true hI
    obtain ⟨r, S, rfl, h⟩ := mx_r1_o (show mx_r1 S _ from h)
    rcases r with ⟨f, j⟩ | a
    · exact mx_gl (hk _ _ _ _ _ h hsf _ hn) (fun H lcs ls hl k => lv_astore_n hx hb hd rfl hl hi (mx_VL_st1 bs _ (.inr (.inr (.inl (f, j)))) L) k) (fun hL hO => mx_oL_st1 (mx_oS_h hO) hL) (fun h => mx_oS_t h)
    · exact mx_gl (hk _ _ _ _ _ h hsf _ hn) (fun H lcs ls hl k => lv_astore_n hx hb hd rfl hl hi (mx_VL_st1 bs _ (.inr (.inr (.inr a))) L) k) (fun hL hO => mx_oL_st1 trivial hL) (fun h => mx_oS_t h)
  | lstore_n i =>
    obtain ⟨rfl, hi⟩ : len = 1 ∧ i.val + 1 < maxL := of_decide_eq_true hI
    obtain ⟨x, S, rfl, h⟩ := mx_q1_o (show mx_q1 S _ from h)
    exact mx_gl (hk _ _ _ _ _ h hsf _ hn) (fun H lcs ls hl k => lv_lstore_n hx hb hd rfl hl hi (mx_VL_st2 bs _ (.inr (.inl x)) L) k) (fun hL _ => mx_oL_st2 trivial hL) (fun h => mx_oS_t h)
  | iinc i n =>
    obtain ⟨rfl, hv, hi⟩ : len = 3 ∧ Int32.ofInt n = ic ∧ i < maxL := of_decide_eq_true hI
    obtain ⟨x, hx2, h⟩ := mx_li_o (show mx_li _ _ from h)
    obtain ⟨j, hj⟩ := List.getElem?_of_mem (List.mem_map.mpr ⟨_, mx_lk_mem hx2, rfl⟩ : (i, mx_vv bs (.inl x)) ∈ mx_VL bs L)
    exact mx_gl (hk _ _ _ _ _ h hsf _ hn) (fun H lcs ls hl k => lv_iinc hx hb hd hl hj (by rw [hv]) hi (mx_VL_st1 bs _ (.inl (x + ic)) L) k) (fun hL _ => mx_oL_st1 trivial hL) (fun h => h)
  | iadd =>
    obtain rfl : len = 1 := of_decide_eq_true hI
    obtain ⟨x, y, S, rfl, h⟩ := mx_p2_o (show mx_p2 S _ from h)
    exact mx_g (hk _ _ _ _ _ h hsf _ hn) (fun H lcs ls _ k => lv_iadd hx hb hd k) (fun _ h => mx_oS_c trivial (mx_oS_t (mx_oS_t h)))
  | isub =>
    obtain rfl : len = 1 := of_decide_eq_true hI
    obtain ⟨x, y, S, rfl, h⟩ := mx_p2_o (show mx_p2 S _ from h)
    exact mx_g (hk _ _ _ _ _ h hsf _ hn) (fun H lcs ls _ k => lv_isub hx hb hd k) (fun _ h => mx_oS_c trivial (mx_oS_t (mx_oS_t h)))
  | imul =>
    obtain rfl : len = 1 := of_decide_eq_true hI
    obtain ⟨x, y, S, rfl, h⟩ := mx_p2_o (show mx_p2 S _ from h)
    exact mx_g (hk _ _ _ _ _ h hsf _ hn) (fun H lcs ls _ k => lv_imul hx hb hd k) (fun _ h => mx_oS_c trivial (mx_oS_t (mx_oS_t h)))
  | iand =>
    obtain rfl : len = 1 := of_decide_eq_true hI
    obtain ⟨x, y, S, rfl, h⟩ := mx_p2_o (show mx_p2 S _ from h)
    exact mx_g (hk _ _ _ _ _ h hsf _ hn) (fun H lcs ls _ k => lv_iand hx hb hd k) (fun _ h => mx_oS_c trivial (mx_oS_t (mx_oS_t h)))
  | ior =>
    obtain rfl : len = 1 := of_decide_eq_true hI
    obtain ⟨x, y, S, rfl, h⟩ := mx_p2_o (show mx_p2 S _ from h)
    exact mx_g (hk _ _ _ _ _ h hsf _ hn) (fun H lcs ls _ k => lv_ior hx hb hd k) (fun _ h => mx_oS_c trivial (mx_oS_t (mx_oS_t h)))
  | ixor =>
    obtain rfl : len = 1 := of_decide_eq_true hI
    obtain ⟨x, y, S, rfl, h⟩ := mx_p2_o (show mx_p2 S _ from h)
    exact mx_g (hk _ _ _ _ _ h hsf _ hn) (fun H lcs ls _ k => lv_ixor hx hb hd k) (fun _ h => mx_oS_c trivial (mx_oS_t (mx_oS_t h)))
  | ishl =>
    obtain rfl : len = 1 := of_decide_eq_true hI
    obtain ⟨x, y, S, rfl, h⟩ := mx_p2_o (show mx_p2 S _ from h)
    exact mx_g (hk _ _ _ _ _ h hsf _ hn) (fun H lcs ls _ k => lv_ishl hx hb hd k) (fun _ h => mx_oS_c trivial (mx_oS_t (mx_oS_t h)))
  | ishr =>
    obtain rfl : len = 1 := of_decide_eq_true hI
    obtain ⟨x, y, S, rfl, h⟩ := mx_p2_o (show mx_p2 S _ from h)
    exact mx_g (hk _ _ _ _ _ h hsf _ hn) (fun H lcs ls _ k => lv_ishr hx hb hd k) (fun _ h => mx_oS_c trivial (mx_oS_t (mx_oS_t h)))
  | idiv =>
    obtain rfl : len = 1 := of_decide_eq_true hI
    obtain ⟨x, y, S, rfl, hne, h⟩ := mx_p2_o (show mx_p2 S _ from h)
    exact mx_g (hk _ _ _ _ _ h hsf _ hn) (fun H lcs ls _ k => lv_idiv hx hb hd hne k) (fun _ h => mx_oS_c trivial (mx_oS_t (mx_oS_t h)))
  | irem =>
    obtain rfl : len = 1 := of_decide_eq_true hI
    obtain ⟨x, y, S, rfl, hne, h⟩ := mx_p2_o (show mx_p2 S _ from h)
    exact mx_g (hk _ _ _ _ _ h hsf _ hn) (fun H lcs ls _ k => lv_irem hx hb hd hne k) (fun _ h => mx_oS_c trivial (mx_oS_t (mx_oS_t h)))
  | ladd =>
    obtain rfl : len = 1 := of_decide_eq_true hI
    obtain ⟨x, y, S, rfl, h⟩ := mx_q2_o (show mx_q2 S _ from h)
    exact mx_g (hk _ _ _ _ _ h hsf _ hn) (fun H lcs ls _ k => lv_ladd hx hb hd k) (fun _ h => mx_oS_c trivial (mx_oS_t (mx_oS_t h)))
  | lsub =>
    obtain rfl : len = 1 := of_decide_eq_true hI
    obtain ⟨x, y, S, rfl, h⟩ := mx_q2_o (show mx_q2 S _ from h)
    exact mx_g (hk _ _ _ _ _ h hsf _ hn) (fun H lcs ls _ k => lv_lsub hx hb hd k) (fun _ h => mx_oS_c trivial (mx_oS_t (mx_oS_t h)))
  | land =>
    obtain rfl : len = 1 := of_decide_eq_true hI
    obtain ⟨x, y, S, rfl, h⟩ := mx_q2_o (show mx_q2 S _ from h)
    exact mx_g (hk _ _ _ _ _ h hsf _ hn) (fun H lcs ls _ k => lv_land hx hb hd k) (fun _ h => mx_oS_c trivial (mx_oS_t (mx_oS_t h)))
  | lor =>
    obtain rfl : len = 1 := of_decide_eq_true hI
    obtain ⟨x, y, S, rfl, h⟩ := mx_q2_o (show mx_q2 S _ from h)
    exact mx_g (hk _ _ _ _ _ h hsf _ hn) (fun H lcs ls _ k => lv_lor hx hb hd k) (fun _ h => mx_oS_c trivial (mx_oS_t (mx_oS_t h)))
  | lxor =>
    obtain rfl : len = 1 := of_decide_eq_true hI
    obtain ⟨x, y, S, rfl, h⟩ := mx_q2_o (show mx_q2 S _ from h)
    exact mx_g (hk _ _ _ _ _ h hsf _ hn) (fun H lcs ls _ k => lv_lxor hx hb hd k) (fun _ h => mx_oS_c trivial (mx_oS_t (mx_oS_t h)))
  | lushr =>
    obtain rfl : len = 1 := of_decide_eq_true hI
    obtain ⟨x, y, S, rfl, h⟩ := mx_qi_o (show mx_qi S _ from h)
    exact mx_g (hk _ _ _ _ _ h hsf _ hn) (fun H lcs ls _ k => lv_lushr hx hb hd rfl k) (fun _ h => mx_oS_c trivial (mx_oS_t (mx_oS_t h)))
  | lshl =>
    obtain rfl : len = 1 := of_decide_eq_true hI
    obtain ⟨x, y, S, rfl, h⟩ := mx_qi_o (show mx_qi S _ from h)
    exact mx_g (hk _ _ _ _ _ h hsf _ hn) (fun H lcs ls _ k => lv_lshl hx hb hd rfl k) (fun _ h => mx_oS_c trivial (mx_oS_t (mx_oS_t h)))
  | i2l =>
    obtain rfl : len = 1 := of_decide_eq_true hI
    obtain ⟨x, S, rfl, h⟩ := mx_p1_o (show mx_p1 S _ from h)
    exact mx_g (hk _ _ _ _ _ h hsf _ hn) (fun H lcs ls _ k => lv_i2l hx hb hd rfl k) (fun _ h => mx_oS_c trivial (mx_oS_t h))
  | i2c =>
    obtain rfl : len = 1 := of_decide_eq_true hI
    obtain ⟨x, S, rfl, h⟩ := mx_p1_o (show mx_p1 S _ from h)
    exact mx_g (hk _ _ _ _ _ h hsf _ hn) (fun H lcs ls _ k => lv_i2c hx hb hd rfl k) (fun _ h => mx_oS_c trivial (mx_oS_t h))
  | l2i =>
    obtain rfl : len = 1 := of_decide_eq_true hI
    obtain ⟨x, S, rfl, h⟩ := mx_q1_o (show mx_q1 S _ from h)
    exact mx_g (hk _ _ _ _ _ h hsf _ hn) (fun H lcs ls _ k => lv_l2i hx hb hd rfl k) (fun _ h => mx_oS_c trivial (mx_oS_t h))
  | lcmp =>
    obtain rfl : len = 1 := of_decide_eq_true hI
    obtain ⟨x, y, S, rfl, h⟩ := mx_q2_o (show mx_q2 S _ from h)
    exact mx_g (hk _ _ _ _ _ h hsf _ hn) (fun H lcs ls _ k => W.lcmp hx hb hd k) (fun _ h => mx_oS_c trivial (mx_oS_t (mx_oS_t h)))
  | dup =>
    obtain rfl : len = 1 := of_decide_eq_true hI
    obtain ⟨v, S, rfl, hc, h⟩ := mx_d1_o (show mx_d1 S (fun v S => k es L (v :: v :: S) s u) from h)
    exact mx_g (hk _ _ _ _ _ h hsf _ hn) (fun H lcs ls _ k => lv_dup hx hb hd ((mx_vvc bs v).trans hc) k) (fun _ h => mx_oS_c (mx_oS_h h) h)
  | dup2 =>
    obtain rfl : len = 1 := of_decide_eq_true hI
    obtain ⟨j, r, S, rfl, h⟩ := mx_d2_o (show mx_d2 S _ from h)
    exact mx_g (hk _ _ _ _ _ h hsf _ hn) (fun H lcs ls _ k => lv_dup2_11 hx hb hd (mx_vvc bs (.inl j)) ((mx_vvc bs (.inr (.inr r))).trans rfl) k) (fun _ h => mx_oS_c trivial (mx_oS_c (mx_oS_h (mx_oS_t h)) h))
  | dup_x1 =>
    obtain rfl : len = 1 := of_decide_eq_true hI
    obtain ⟨j, r, S, rfl, h⟩ := mx_d2_o (show mx_d2 S _ from h)
    exact mx_g (hk _ _ _ _ _ h hsf _ hn) (fun H lcs ls _ k => lv_dup_x1 hx hb hd (mx_vvc bs (.inl j)) ((mx_vvc bs (.inr (.inr r))).trans rfl) k) (fun _ h => mx_oS_c trivial (mx_oS_c (mx_oS_h (mx_oS_t h)) (mx_oS_c trivial (mx_oS_t (mx_oS_t h)))))
  | pop =>
    obtain rfl : len = 1 := of_decide_eq_true hI
    obtain ⟨x, S, rfl, h⟩ := mx_p1_o (show mx_p1 S _ from h)
    exact mx_g (hk _ _ _ _ _ h hsf _ hn) (fun H lcs ls _ k => lv_pop hx hb hd (mx_vvc bs (.inl x)) k) (fun _ h => mx_oS_t h)
  | goto off =>
    obtain ⟨h1, h2⟩ := Bool.and_eq_true_iff.mp (show (decide (len = 3) && mx_lt pc off aux) = true from hI)
    obtain rfl : len = 3 := of_decide_eq_true h1
    obtain ⟨t, rfl, h⟩ := mx_a1_o (show mx_a1 aux _ from h)
    have ht : (pc : Int) + off = (t : Int) := of_decide_eq_true h2
    exact mx_g (hk _ _ _ _ _ h (mx_jp_sf _ _) _ mx_jp_hd) (fun H lcs ls _ k => lv_goto hx hb hd ht k) (fun _ h => h)
  | ifCond cd off =>
    obtain ⟨h1, h2⟩ := Bool.and_eq_true_iff.mp (show (decide (len = 3) && mx_lt pc off aux) = true from hI)
    obtain rfl : len = 3 := of_decide_eq_true h1
    obtain ⟨t, rfl, h⟩ := mx_a1_o (show mx_a1 aux _ from h)
    have ht : (pc : Int) + off = (t : Int) := of_decide_eq_true h2
    obtain ⟨x, S, rfl, h⟩ := mx_p1_o (show mx_p1 S _ from h)
    cases cd with
    | eq =>
      have h := mx_br_o (show mx_br md _ _ _ from h)
      exact mx_g2 ⟨fun q => (hk _ _ _ _ _ (h.1 q) (mx_jp_sf _ _) _ mx_jp_hd), fun q => hk _ _ _ _ _ (h.2 q) hsf _ hn⟩ (fun H lcs ls kt kf => lv_if_eq hx hb hd ht kt kf) (fun h => mx_oS_t h)
    | ne =>
      have h := mx_br_o (show mx_br md _ _ _ from h)
      exact mx_g2 ⟨fun q => hk _ _ _ _ _ (h.1 q) hsf _ hn, fun q => (hk _ _ _ _ _ (h.2 q) (mx_jp_sf _ _) _ mx_jp_hd)⟩ (fun H lcs ls kt kf => lv_if_ne hx hb hd ht kf kt) (fun h => mx_oS_t h)
    | lt =>
      have h := mx_br_o (show mx_br md _ _ _ from h)
      exact mx_g2 ⟨fun q => (hk _ _ _ _ _ (h.1 q) (mx_jp_sf _ _) _ mx_jp_hd), fun q => hk _ _ _ _ _ (h.2 q) hsf _ hn⟩ (fun H lcs ls kt kf => lv_if_lt hx hb hd ht kt kf) (fun h => mx_oS_t h)
    | ge =>
      have h := mx_br_o (show mx_br md _ _ _ from h)
      exact mx_g2 ⟨fun q => (hk _ _ _ _ _ (h.1 q) (mx_jp_sf _ _) _ mx_jp_hd), fun q => hk _ _ _ _ _ (h.2 q) hsf _ hn⟩ (fun H lcs ls kt kf => lv_if_ge hx hb hd ht kt kf) (fun h => mx_oS_t h)
    | gt =>
      have h := mx_br_o (show mx_br md _ _ _ from h)
      exact mx_g2 ⟨fun q => (hk _ _ _ _ _ (h.1 q) (mx_jp_sf _ _) _ mx_jp_hd), fun q => hk _ _ _ _ _ (h.2 q) hsf _ hn⟩ (fun H lcs ls kt kf => lv_if_gt hx hb hd ht kt kf) (fun h => mx_oS_t h)
    | le =>
      have h := mx_br_o (show mx_br md _ _ _ from h)
      exact mx_g2 ⟨fun q => (hk _ _ _ _ _ (h.1 q) (mx_jp_sf _ _) _ mx_jp_hd), fun q => hk _ _ _ _ _ (h.2 q) hsf _ hn⟩ (fun H lcs ls kt kf => lv_if_le hx hb hd ht kt kf) (fun h => mx_oS_t h)
  | if_icmp cd off =>
    obtain ⟨h1, h2⟩ := Bool.and_eq_true_iff.mp (show (decide (len = 3) && mx_lt pc off aux) = true from hI)
    obtain rfl : len = 3 := of_decide_eq_true h1
    obtain ⟨t, rfl, h⟩ := mx_a1_o (show mx_a1 aux _ from h)
    have ht : (pc : Int) + off = (t : Int) := of_decide_eq_true h2
    obtain ⟨x, y, S, rfl, h⟩ := mx_p2_o (show mx_p2 S _ from h)
    cases cd with
    | eq =>
      have h := mx_br_o (show mx_br md _ _ _ from h)
      exact mx_g2 ⟨fun q => (hk _ _ _ _ _ (h.1 q) (mx_jp_sf _ _) _ mx_jp_hd), fun q => hk _ _ _ _ _ (h.2 q) hsf _ hn⟩ (fun H lcs ls kt kf => lv_icmp_eq hx hb hd ht kt kf) (fun h => mx_oS_t (mx_oS_t h))
    | ne =>
      have h := mx_br_o (show mx_br md _ _ _ from h)
      exact mx_g2 ⟨fun q => hk _ _ _ _ _ (h.1 q) hsf _ hn, fun q => (hk _ _ _ _ _ (h.2 q) (mx_jp_sf _ _) _ mx_jp_hd)⟩ (fun H lcs ls kt kf => lv_icmp_ne hx hb hd ht kf kt) (fun h => mx_oS_t (mx_oS_t h))
    | lt =>
      have h := mx_br_o (show mx_br md _ _ _ from h)
      exact mx_g2 ⟨fun q => (hk _ _ _ _ _ (h.1 q) (mx_jp_sf _ _) _ mx_jp_hd), fun q => hk _ _ _ _ _ (h.2 q) hsf _ hn⟩ (fun H lcs ls kt kf => lv_icmp_lt hx hb hd ht kt kf) (fun h => mx_oS_t (mx_oS_t h))
    | ge =>
      have h := mx_br_o (show mx_br md _ _ _ from h)
      exact mx_g2 ⟨fun q => (hk _ _ _ _ _ (h.1 q) (mx_jp_sf _ _) _ mx_jp_hd), fun q => hk _ _ _ _ _ (h.2 q) hsf _ hn⟩ (fun H lcs ls kt kf => lv_icmp_ge hx hb hd ht kt kf) (fun h => mx_oS_t (mx_oS_t h))
    | gt =>
      have h := mx_br_o (show mx_br md _ _ _ from h)
      exact mx_g2 ⟨fun q => (hk _ _ _ _ _ (h.1 q) (mx_jp_sf _ _) _ mx_jp_hd), fun q => hk _ _ _ _ _ (h.2 q) hsf _ hn⟩ (fun H lcs ls kt kf => lv_icmp_gt hx hb hd ht kt kf) (fun h => mx_oS_t (mx_oS_t h))
    | le =>
      have h := mx_br_o (show mx_br md _ _ _ from h)
      exact mx_g2 ⟨fun q => (hk _ _ _ _ _ (h.1 q) (mx_jp_sf _ _) _ mx_jp_hd), fun q => hk _ _ _ _ _ (h.2 q) hsf _ hn⟩ (fun H lcs ls kt kf => lv_icmp_le hx hb hd ht kt kf) (fun h => mx_oS_t (mx_oS_t h))
  | tableswitch d lo hi offs =>
    obtain ⟨h1, h2⟩ := Bool.and_eq_true_iff.mp (show (decide (lo = 0 ∧ hi + 1 = offs.size ∧ hi < 100) && mx_ts pc d offs.toList aux) = true from hI)
    obtain ⟨rfl, hhi, hhi2⟩ := of_decide_eq_true h1
    obtain ⟨td, ts, rfl, h⟩ := mx_aq_o (show mx_aq aux _ from h)
    obtain ⟨x, S, rfl, h⟩ := mx_p1_o (show mx_p1 S _ from h)
    obtain ⟨h3, h4⟩ := Bool.and_eq_true_iff.mp (show (decide ((pc : Int) + d = (td : Int)) && mx_tg pc offs.toList ts) = true from h2)
    have h3 : (pc : Int) + d = (td : Int) := of_decide_eq_true h3
    obtain ⟨hlen, htg⟩ := mx_tg_o h4
    obtain ⟨hin, hout⟩ := mx_sw_o (by simp at hlen; omega) h
    by_cases hx0 : x.toInt < 0
    · refine mx_g (hk _ _ _ _ _ (hout fun n hn e9 => ?_) (mx_jp_sf _ _) _ mx_jp_hd) (fun H lcs ls _ k => lv_tableOut hx hb hd (Or.inl hx0) h3 k) (fun _ h => mx_oS_t h)
      rw [e9, Nat.zero_add, nI_toInt (by simp at hlen; omega)] at hx0
      omega
    · by_cases hx1 : hi < x.toInt
      · refine mx_g (hk _ _ _ _ _ (hout fun n hn e9 => ?_) (mx_jp_sf _ _) _ mx_jp_hd) (fun H lcs ls _ k => lv_tableOut hx hb hd (Or.inr hx1) h3 k) (fun _ h => mx_oS_t h)
        rw [e9, Nat.zero_add, nI_toInt (by simp at hlen; omega)] at hx1
        simp at hlen
        omega
      · have hn9 : x.toInt.toNat < ts.length := by
          simp at hlen
          omega
        have hxe : x = nI (0 + x.toInt.toNat) := by
          rw [Nat.zero_add]
          apply Int32.toInt_inj.mp
          rw [nI_toInt (by simp at hlen; omega)]
          omega
        obtain ⟨o, ho, hto⟩ := htg x.toInt.toNat hn9
        refine mx_g (hk _ _ _ _ _ (hin _ hn9 hxe) (mx_jp_sf _ _) _ mx_jp_hd) (fun H lcs ls _ k => lv_tableIn hx hb hd hx0 hx1 (off := o) ?_ hto k) (fun _ h => mx_oS_t h)
        rw [Int.sub_zero, ← Array.getElem?_toList]
        exact ho
  | arraylength =>
    obtain rfl : len = 1 := of_decide_eq_true hI
    obtain ⟨r, S, rfl, h⟩ := mx_r1_o (show mx_r1 S _ from h)
    rcases r with ⟨f, i⟩ | a
    · obtain ⟨hkd, h⟩ := mx_kn_o (show mx_kn f _ from h)
      intro H lcs ls hW hS hl hL hO hu hz
      have hok := mx_oS_h hO
      obtain ⟨t0, cA, x, ty, ha, ht, hv⟩ := mx_alen (ca := ca) (bs := bs) hkd hok
      refine va_alen hx hb hV.1 hW.1 (mx_num f i) t0 ha ht hv hd ?_
      exact (hk _ _ _ _ _ h hsf _ hn) H lcs ls hW hS hl hL (mx_oS_c trivial (mx_oS_t hO)) hu hz
    · obtain ⟨e9, h9⟩ : a = scr.1 ∧ k es L (.inl (nI scr.2.1) :: S) s u := h
      clear h
      subst e9
      have h := h9
      intro H lcs ls hW hS hl hL hO hu hz
      refine va_slen hx hb hX (Nat.lt_of_lt_of_le hXb hbs) (Nat.not_le.mpr hXb) hS hd ?_
      exact (hk _ _ _ _ _ h hsf _ hn) H lcs ls hW hS hl hL (mx_oS_c trivial (mx_oS_t hO)) hu hz
  | iaload =>
    obtain rfl : len = 1 := of_decide_eq_true hI
    obtain ⟨j, r, S, rfl, h⟩ := mx_d2_o (show mx_d2 S _ from h)
    rcases r with ⟨f, i⟩ | a
    · obtain ⟨hkd, hin, h⟩ := mx_eq_o (show mx_eq (mx_fK f) 1 _ from h)
      intro H lcs ls hW hS hl hL hO hu hz
      have hok := mx_oS_h (mx_oS_t hO)
      refine va_iald hx hb hV.1 hW.1 (mx_num f i) 0 ((mx_at hok).trans (by rw [mx_enc1 hkd])) rfl hin hd ?_
      exact (hk _ _ _ _ _ h hsf _ hn) H lcs ls hW hS hl hL (mx_oS_c trivial (mx_oS_t (mx_oS_t hO))) hu hz
    · obtain ⟨e9, hin, h9⟩ : a = scr.1 ∧ vp_in j scr.2.1 ∧ k es L (.inl (scr.2.2 j.toNatClampNeg) :: S) s u := h
      clear h
      subst e9
      have h := h9
      intro H lcs ls hW hS hl hL hO hu hz
      refine va_sld hx hb hX (Nat.lt_of_lt_of_le hXb hbs) (Nat.not_le.mpr hXb) hS hin hd ?_
      exact (hk _ _ _ _ _ h hsf _ hn) H lcs ls hW hS hl hL (mx_oS_c trivial (mx_oS_t (mx_oS_t hO))) hu hz
  | caload =>
    obtain rfl : len = 1 := of_decide_eq_true hI
    obtain ⟨j, f, i, S, rfl, h⟩ := mx_ix_o (show mx_ix S _ from h)
    obtain ⟨hkd, hin, h⟩ := mx_eq_o (show mx_eq (mx_fK f) 2 _ from h)
    intro H lcs ls hW hS hl hL hO hu hz
    have hok := mx_oS_h (mx_oS_t hO)
    refine va_cald hx hb hV.1 hW.1 (mx_num f i) 2 ((mx_at hok).trans (by rw [mx_enc2 hkd])) rfl hin hd ?_
    exact (hk _ _ _ _ _ h hsf _ hn) H lcs ls hW hS hl hL (mx_oS_c trivial (mx_oS_t (mx_oS_t hO))) hu hz
  | baload =>
    obtain rfl : len = 1 := of_decide_eq_true hI
    obtain ⟨j, f, i, S, rfl, h⟩ := mx_ix_o (show mx_ix S _ from h)
    obtain ⟨hkd, hin, h⟩ := mx_eq_o (show mx_eq (mx_fK f) 3 _ from h)
    intro H lcs ls hW hS hl hL hO hu hz
    have hok := mx_oS_h (mx_oS_t hO)
    refine va_zald hx hb hV.1 hW.1 (mx_num f i) 5 ((mx_at hok).trans (by rw [mx_enc3 hkd])) rfl hin hd ?_
    exact (hk _ _ _ _ _ h hsf _ hn) H lcs ls hW hS hl hL (mx_oS_c trivial (mx_oS_t (mx_oS_t hO))) hu hz
  | laload =>
    obtain rfl : len = 1 := of_decide_eq_true hI
    obtain ⟨j, f, i, S, rfl, h⟩ := mx_ix_o (show mx_ix S _ from h)
    obtain ⟨hkd, hin, h⟩ := mx_eq_o (show mx_eq (mx_fK f) 4 _ from h)
    intro H lcs ls hW hS hl hL hO hu hz
    have hok := mx_oS_h (mx_oS_t hO)
    refine va_lald hx hb hV.1 hW.1 (mx_num f i) 1 ((mx_at hok).trans (by rw [mx_enc4 hkd])) rfl hin hd ?_
    exact (hk _ _ _ _ _ h hsf _ hn) H lcs ls hW hS hl hL (mx_oS_c trivial (mx_oS_t (mx_oS_t hO))) hu hz
  | aaload =>
    obtain rfl : len = 1 := of_decide_eq_true hI
    obtain ⟨j, f, i, S, rfl, h⟩ := mx_ix_o (show mx_ix S _ from h)
    obtain ⟨hkd, hin, h⟩ := mx_eq_o (show mx_eq (mx_fK f) 5 _ from h)
    intro H lcs ls hW hS hl hL hO hu hz
    have hok := mx_oS_h (mx_oS_t hO)
    obtain ⟨y, hy, hyo, h⟩ := mx_gr_o hW (fun hm => hm.2.2 f i _ hok.1 hkd (vp_lt hin)) (fun _ => by rw [mx_t4 f (mx_t0 hok.1) hkd]; exact vp_lt hin) h
    obtain ⟨t0, C, ht0⟩ := mx_tAo ca hkd hok.1
    refine va_aldq hx hb hV.1 hW.1 (mx_num f i) t0 ((mx_at hok).trans (by rw [mx_enc5 hkd])) ht0 hin hd ?_
    refine W.eq (g2 := F0 m (pc + 1) ls (mx_vv bs (.inr (.inr (.inl (mx_fY f, y)))) :: S.map (mx_vv bs))) (congrArg (fun v => F0 m (pc + 1) ls (v :: S.map (mx_vv bs))) (show va_rf ((s.2.2.1 f i j.toNatClampNeg).map (fun y => bs + mx_num (mx_fY f) y)) = _ by rw [hy]; rfl)) ?_
    exact (hk _ _ _ _ _ h hsf _ hn) H lcs ls hW hS hl hL (mx_oS_c hyo (mx_oS_t (mx_oS_t hO))) hu hz
  | iastore =>
    obtain rfl : len = 1 := of_decide_eq_true hI
    obtain ⟨x, S, rfl, h⟩ := mx_p1_o (show mx_p1 S _ from h)
    obtain ⟨j, f, i, S, rfl, h⟩ := mx_ix_o (show mx_ix S _ from h)
    obtain ⟨hkd, hin, h⟩ := mx_eq_o (show mx_eq (mx_fK f) 1 _ from h)
    have h := mx_to_o h
    intro H lcs ls hW hS hl hL hO hu hz
    have hok := mx_oS_h (mx_oS_t (mx_oS_t hO))
    refine va_iast hx hb hV.1 hW.1 mx_D hS (mx_num f i) 0 ((mx_at hok).trans (by rw [mx_enc1 hkd])) rfl hin hd (fun H1 lcs1 hP1 _ hS1 => ?_)
    exact (hk _ _ _ _ _ h hsf _ hn) H1 lcs1 ls (mx_WH_si hW hok (mx_enc1s hkd) hP1) hS1 hl hL (mx_oS_t (mx_oS_t (mx_oS_t hO))) hu hz
  | castore =>
    obtain rfl : len = 1 := of_decide_eq_true hI
    obtain ⟨x, S, rfl, h⟩ := mx_p1_o (show mx_p1 S _ from h)
    obtain ⟨j, f, i, S, rfl, h⟩ := mx_ix_o (show mx_ix S _ from h)
    obtain ⟨hkd, hin, h⟩ := mx_eq_o (show mx_eq (mx_fK f) 2 _ from h)
    have h := mx_to_o h
    intro H lcs ls hW hS hl hL hO hu hz
    have hok := mx_oS_h (mx_oS_t (mx_oS_t hO))
    refine va_cast hx hb hV.1 hW.1 mx_D hS (mx_num f i) 2 ((mx_at hok).trans (by rw [mx_enc2 hkd])) rfl hin hd (fun H1 lcs1 hP1 _ hS1 => ?_)
    exact (hk _ _ _ _ _ h hsf _ hn) H1 lcs1 ls (mx_WH_si hW hok (mx_enc2s hkd) hP1) hS1 hl hL (mx_oS_t (mx_oS_t (mx_oS_t hO))) hu hz
  | bastore =>
    obtain rfl : len = 1 := of_decide_eq_true hI
    obtain ⟨x, S, rfl, h⟩ := mx_p1_o (show mx_p1 S _ from h)
    obtain ⟨j, f, i, S, rfl, h⟩ := mx_ix_o (show mx_ix S _ from h)
    obtain ⟨hkd, hin, h⟩ := mx_eq_o (show mx_eq (mx_fK f) 3 _ from h)
    have h := mx_to_o h
    intro H lcs ls hW hS hl hL hO hu hz
    have hok := mx_oS_h (mx_oS_t (mx_oS_t hO))
    refine va_zast hx hb hV.1 hW.1 mx_D hS (mx_num f i) 5 ((mx_at hok).trans (by rw [mx_enc3 hkd])) rfl hin hd (fun H1 lcs1 hP1 _ hS1 => ?_)
    exact (hk _ _ _ _ _ h hsf _ hn) H1 lcs1 ls (mx_WH_si hW hok (mx_enc3s hkd) hP1) hS1 hl hL (mx_oS_t (mx_oS_t (mx_oS_t hO))) hu hz
  | lastore =>
    obtain rfl : len = 1 := of_decide_eq_true hI
    obtain ⟨x, S, rfl, h⟩ := mx_q1_o (show mx_q1 S _ from h)
    obtain ⟨j, f, i, S, rfl, h⟩ := mx_ix_o (show mx_ix S _ from h)
    obtain ⟨hkd, hin, h⟩ := mx_eq_o (show mx_eq (mx_fK f) 4 _ from h)
    have h := mx_to_o h
    intro H lcs ls hW hS hl hL hO hu hz
    have hok := mx_oS_h (mx_oS_t (mx_oS_t hO))
    refine va_last hx hb hV.1 hW.1 mx_D hS (mx_num f i) 1 ((mx_at hok).trans (by rw [mx_enc4 hkd])) rfl hin hd (fun H1 lcs1 hP1 _ hS1 => ?_)
    exact (hk _ _ _ _ _ h hsf _ hn) H1 lcs1 ls (mx_WH_sl hW hok (mx_enc4s hkd) hP1) hS1 hl hL (mx_oS_t (mx_oS_t (mx_oS_t hO))) hu hz
  | getfield n =>
    obtain ⟨h1, h2⟩ := Bool.and_eq_true_iff.mp (show (decide (len = 3) && mx_fl own n aux) = true from hI)
    obtain rfl : len = 3 := of_decide_eq_true h1
    obtain ⟨ci, j, nest, z, w, r, C, T, N, rfl, hc, hj, hTj, hlk⟩ := mx_fl_o h2
    obtain ⟨f, i, S, rfl, h⟩ := mx_rf_o (show mx_rf S _ from h)
    obtain ⟨hkd, h⟩ := mx_eq_o (show mx_eq (mx_fK f) 0 _ from h)
    obtain ⟨rfl, h⟩ := mx_eq_o (show mx_eq (mx_fX f) ci _ from h)
    intro H lcs ls hW hS hl hL hO hu hz
    have hok := mx_oS_h hO
    obtain ⟨hin, hN⟩ := mx_cin hc
    obtain ⟨v, hv, hvo, h⟩ := mx_get_o (bs := bs) hW hok hkd (by rw [hN]; exact hj) (show mx_get md s f i (mx_fX f) j _ from h)
    have hfs : ((List.range (mx_nF (mx_fX f))).map (mx_fv bs s f i))[j]? = some (mx_vv bs v) := by
      rw [List.getElem?_map, List.getElem?_range (by rw [hN]; exact hj), ← hv]
      rfl
    have hkk := (hk _ _ _ _ _ h hsf _ hn) H lcs ls hW hS hl hL (mx_oS_c hvo (mx_oS_t hO)) hu hz
    rcases hlk with ⟨-, hlk⟩ | ⟨-, hlk⟩
    · exact va_get hx hb hts hin hown hV.1 hW.1 (mx_num f i) ((mx_at hok).trans (by rw [mx_enc0 hkd])) hc j hj (hts _ hlk) (by rw [hTj]; exact fun _ h9 => h9) hfs hd hkk
    · exact va_getN hx hb hts hin hown hV.1 hW.1 (mx_num f i) ((mx_at hok).trans (by rw [mx_enc0 hkd])) hc j hj (va_Nw.use rfl (hV.2.1 _ hlk)) (by rw [hTj]; exact fun _ h9 => h9) hfs hd hkk
  | new a =>
    exact hl8 rfl h
  | newarray a =>
    exact hl8 rfl h
  | anewarray a =>
    exact hl8 rfl h
  | aastore =>
    exact hl8 rfl h
  | putfield a =>
    exact hl8 rfl h
  | invokevirtual a =>
    exact hl8 rfl h
  | invokestatic a =>
    exact hl8 rfl h
  | invokespecial a =>
    exact hl8 rfl h
  | return_ =>
    exact hl8 rfl h
  | ireturn =>
    exact hl8 rfl h
  | areturn =>
    exact hl8 rfl h
  | _ => exact False.elim h
end
end
section
def mx_y (mi : Nat) : MethodName := (mx_ys.getD mi (y_Lw_law, b_Lw_law, 0)).1
def mx_mL (mi : Nat) : Nat := (mx_ys.getD mi (y_Lw_law, b_Lw_law, 0)).2.2
theorem mx_mLs_eq : ∀ mi, mi < mx_nM → mx_mLs.getD mi 0 = mx_mL mi := by decide +kernel
def mx_mw (mi j : Nat) : Nat := (mx_mws.getD mi []).getD j 0
def mx_hr (mi : Nat) : List (Nat × Nat × Nat × Nat) := mx_hrs.getD mi []
def mx_bw : Cond → ByteArray
  | .code _ b _ _ => b
  | .codeWith _ b _ _ _ => b
  | _ => .empty
def mx_b (mi : Nat) : ByteArray := mx_bw (lw_tbl.getD (mx_mw mi 2) .tt)
def mx_cw (mi : Nat) : Cond := match mx_hr mi with
  | [] => .code (mx_y mi) (mx_b mi) (mx_mL mi) (mx_mt mi).2.1
  | a :: r => .codeWith (mx_y mi) (mx_b mi) (mx_mL mi) (mx_mt mi).2.1 (a :: r)
def mx_iv (own : String) (ins : Instr) (aux : List Nat) : Bool := match aux with
  | mi :: np :: rk :: th :: mc :: ms :: rc :: nest :: w :: _ => decide (mi < mx_nM ∧ (mx_mt mi).2.2.1 = mc ∧ (mx_mt mi).2.2.2.1 = ms ∧ (mc = 0 → ms = 0)) && ((match th, (mx_mt mi).2.2.2.2.2 with
    | 0, false => true
    | _ + 1, true => true
    | _, _ => false) && ((match ins with
    | .invokevirtual n => decide (mx_mw mi 0 = 0 ∧ np = mx_mw mi 1 + 1) && ((match rc with
      | 0 => false
      | c + 1 => decide ((cls[c]?).map (fun q => q.1) = some (mx_y mi).cls)) && (match nest with
      | 0 => mx_wd w (.methodLink own n (mx_y mi))
      | _ + 1 => mx_wd w (.methodLinkNest own n (mx_y mi) R_Rs)))
    | .invokestatic n => decide (mx_mw mi 0 = 1 ∧ np = mx_mw mi 1 ∧ rc = 0) && (match nest with
      | 0 => mx_wd w (.methodLink own n (mx_y mi))
      | _ + 1 => mx_wd w (.methodLinkNest own n (mx_y mi) R_Rs))
    | .invokespecial n => decide (mx_mw mi 0 = 2 ∧ np = mx_mw mi 1 + 1 ∧ ¬ rc = 0) && (match nest with
      | 0 => mx_wd w (.methodLink own n (mx_y mi))
      | _ + 1 => mx_wd w (.methodLinkNest own n (mx_y mi) R_Rs))
    | _ => false)))
  | _ => false
def mx_cz (w : Cond) (y : MethodName) (n : Nat) (r : Option FieldType) (hh : List (Nat × Nat × Nat × Nat)) : Bool := match w, hh with
  | .code y' _ n' r', [] => decide (y' = y ∧ n' = n ∧ r' = r)
  | .codeWith y' _ n' r' hh', a :: t => decide (y' = y ∧ n' = n ∧ r' = r ∧ hh' = a :: t)
  | _, _ => false
theorem mx_cz_o {mi : Nat} (h : mx_cz (lw_tbl.getD (mx_mw mi 2) .tt) (mx_y mi) (mx_mL mi) (mx_mt mi).2.1 (mx_hr mi) = true) : mx_cw mi ∈ lw_tbl := by
  have e1 : lw_tbl.getD (mx_mw mi 2) .tt = mx_cw mi := by
    unfold mx_cw mx_b
    generalize lw_tbl.getD (mx_mw mi 2) .tt = w at h
    generalize mx_hr mi = hh at h
    unfold mx_cz at h
    split at h
    · obtain ⟨rfl, rfl, rfl⟩ := of_decide_eq_true h
      rfl
    · obtain ⟨rfl, rfl, rfl, rfl⟩ := of_decide_eq_true h
      rfl
    · cases h
  have e2 : ¬ mx_cw mi = .tt := by
    unfold mx_cw
    split
    · exact fun h => by cases h
    · exact fun h => by cases h
  rw [List.getD_eq_getElem?_getD] at e1
  cases h9 : lw_tbl[mx_mw mi 2]? with
  | none =>
    rw [h9] at e1
    exact absurd e1.symm e2
  | some w =>
    rw [h9] at e1
    have e1 : w = mx_cw mi := e1
    rw [e1] at h9
    exact List.mem_of_getElem? h9
def mx_okM (mi : Nat) : Bool := mx_cz (lw_tbl.getD (mx_mw mi 2) .tt) (mx_y mi) (mx_mL mi) (mx_mt mi).2.1 (mx_hr mi) && (mx_wd (mx_mw mi 3) (.initialized (mx_y mi).cls) && (decide ((mx_y mi).cls ≠ "java/lang/invoke/MethodHandle" ∧ (mx_y mi).cls ≠ "java/lang/invoke/VarHandle" ∧ (parseMethodDescriptor (mx_y mi).desc).map (fun d => d.parameters.length) = some (mx_mw mi 1)) && (decide (mx_mL mi ≤ 21) && (plainFor (mx_y mi) && (match mx_mw mi 0 with
  | 0 => mx_wd (mx_mw mi 4) (.instanceMethod (mx_y mi)) && mx_wd (mx_mw mi 5) (.selects (mx_y mi).cls (mx_y mi) (mx_y mi))
  | 1 => mx_wd (mx_mw mi 4) (.static (mx_y mi))
  | _ => mx_wd (mx_mw mi 4) (.instanceMethod (mx_y mi)) && decide ((mx_y mi).name = "<init>" ∧ (mx_mt mi).2.1 = none))))))
def mx_okC (mi : Nat) : Bool := mx_cns (mx_mt mi).1 && (decide (((mx_mt mi).1.head?.map fun e => e.1) = some 0) && (mx_mt mi).1.all (fun e => mx_okE (mx_y mi).cls (mx_y mi).name (mx_b mi) (mx_mL mi) e && (match e.2.2.1 with
  | .invokevirtual n => mx_iv (mx_y mi).cls (.invokevirtual n) e.2.2.2.2.1
  | .invokestatic n => mx_iv (mx_y mi).cls (.invokestatic n) e.2.2.2.2.1
  | .invokespecial n => match e.2.2.2.2.1 with
    | [] => true
    | a :: r => mx_iv (mx_y mi).cls (.invokespecial n) (a :: r)
  | _ => true)))
def mx_pu (mi : Nat) : Bool := match (mx_mt mi).2.2.2.2.2, mx_hr mi with
  | false, [] => true
  | _, _ => false
theorem mx_pu_o {mi : Nat} (h : mx_pu mi = true) : mx_hr mi = [] ∧ (mx_mt mi).2.2.2.2.2 = false := by
  unfold mx_pu at h
  split at h
  · rename_i h1 h2
    exact ⟨h2, h1⟩
  · cases h
def mx_Ex (kk a : Nat) (t : State) : Prop := (kk = 1 ∨ kk = 2 ∨ kk = 3) ∧ ∃ cell : Cell, t.heap[a]? = some cell ∧ (∀ k, cell.vm ≠ .statics k) ∧ t.vm.findClass (xt_n kk) = some cell.cls
def mx_Qv (md : Bool) (D : va_G) (ca : Nat → ClassId) (bs : Nat) (scr : mSc) (post : mPo) (v : Option Value) (t : State) : Prop :=
  (v = none ∧ ∃ u, post.1 u ∧ mx_WS md D ca bs scr u t) ∨ (∃ x u, v = some (.int x) ∧ post.2.1 x u ∧ mx_WS md D ca bs scr u t) ∨ ∃ f i u, v = some (.ref (bs + mx_num f i)) ∧ post.2.2 f i u ∧ mx_ok u (.inr (.inr (.inl (f, i)))) ∧ mx_WS md D ca bs scr u t
def mx_Q (md : Bool) (D : va_G) (ca : Nat → ClassId) (bs : Nat) (scr : mSc) (post : mPo) (ex : Nat → mSt → Prop) : Array Value → State → Outcome → State → Prop := fun _ st oc t =>
  ((∃ v, oc = .returned v ∧ mx_Qv md D ca bs scr post v t) ∨ ∃ kk u a, oc = .threw a ∧ ex kk u ∧ mx_WS md D ca bs scr u t ∧ mx_Ex kk a t) ∧ va_F (fun q => bs ≤ q) st t
def mx_Mx (l : Launch) (y : MethodName) (ws : List Cond) (rm : Room) (Pc : Array Value → State → Prop) (Qc : Array Value → State → Outcome → State → Prop) (mc ms : Nat) (free : Addr → Prop) : Prop :=
  Free.MetFree l y (headSpec ws rm) Pc (fun _ _ _ _ _ => True) (fun a st o t => Qc a st o t ∧ ∃ L, (st.WarmedH t.vm ∧ st.sameButNew ({ t with vm := st.vm } : State) L mc ms) ∧ ∀ q ∈ L, free q.base)
def mx_rm (d mi : Nat) : Room := { frames := d + 8, cells := (mx_mt mi).2.2.1, slots := (mx_mt mi).2.2.2.1, locals := 40 * d + 200 }
def mx_CT (l : Launch) (md : Bool) (D : va_G) (ca : Nat → ClassId) (bs : Nat) (scr : mSc) (d mi : Nat) (as : List mAV) (s : mSt) (post : mPo) (ex : Nat → mSt → Prop) : Prop :=
  mx_Mx l (mx_y mi) (mx_cw mi :: wg) (mx_rm d mi) (va_Pc (as.map (mx_vv bs)) (mx_WS md D ca bs scr s)) (mx_Q md D ca bs scr post ex) (mx_mt mi).2.2.1 (mx_mt mi).2.2.2.1 (fun q => bs ≤ q)
theorem mx_met {l : Launch} {y : MethodName} {ws : List Cond} {rm : Room} {Pc : Array Value → State → Prop} {mc ms : Nat} {free : Addr → Prop} {md : Bool} {D : va_G} {ca : Nat → ClassId} {bs : Nat} {scr : mSc} {post : mPo} (h : mx_Mx l y ws rm Pc (mx_Q md D ca bs scr post (fun _ _ => False)) mc ms free) : Met l y ws rm Pc (mx_Q md D ca bs scr post (fun _ _ => False)) mc ms free :=
  Free.MetFree.mono h (fun _ _ h => h) (fun _ _ _ _ _ h => h) (fun a s o t _ hq => by
    obtain ⟨hq, L, ⟨h1, h2⟩, hL⟩ := hq
    refine ⟨hq, L, ⟨?_, h1, h2⟩, hL⟩
    rcases hq.1 with ⟨v, hv, -⟩ | ⟨_, _, _, _, h, -⟩
    · exact ⟨v, hv⟩
    · exact h.elim)
theorem mx_blind {md : Bool} {D : va_G} {ca : Nat → ClassId} {bs : Nat} {scr : mSc} {av : List Value} {s : mSt} : FrameBlind (va_Pc av (mx_WS md D ca bs scr s)) := fun a U g mk q => by
  obtain ⟨q0, q1, ⟨qK, qN, qR, qV⟩, q2, ⟨q3, q4⟩, q5, q6⟩ := q
  exact ⟨q0, q1, ⟨va_K.moved (u := U) (U := U.calling g mk a) (Vm.Alike.refl U.vm) qK, NW.same (u := U) (U := U.calling g mk a) rfl qN, va_AO.moved (u := U) (U := U.calling g mk a) (Vm.Alike.refl U.vm) qR, va_AO.moved (u := U) (U := U.calling g mk a) (Vm.Alike.refl U.vm) qV⟩, q2, ⟨va_X.moved (u := U) (U := U.calling g mk a) (Vm.Alike.refl U.vm) q3, q4⟩, q5, xt_T.moved (u := U) (U := U.calling g mk a) (State.WarmedH.refl U) (fun _ _ => rfl) q6⟩
section
variable {p : Program} {l : Launch} {e : Env} {R : Room} {s0 : State} {m : MethodId} {args : Array Value} {below : List Frame} {meth : Method} {c : Code} {Q : State → Prop} {md : Bool} {D : va_G} {ca : Nat → ClassId} {bs maxL : Nat} {scr : mSc} {H : Heap} {lcs : List Loc} {cells slots mc ms : Nat}
theorem mx_pre {av : List Value} {s : mSt} (hV : mx_VM D ca s0) (hX : va_X scr.1 scr.2.1 scr.2.2 s0 s0.heap) (hXb : scr.1 < bs) (hbs : bs ≤ s0.heap.size) (hXT : xt_T bs s0) (hW : mx_WH md D ca bs s H) (hS : va_S (fun q => bs ≤ q) s0.heap H lcs) (hz : md = false → H.size = bs + s.2.2.2) : ∀ U : State, U.heap = H → s0.WarmedH U.vm → va_Pc av (mx_WS md D ca bs scr s) av.toArray U := fun U hU hWm => by
  refine ⟨rfl, by rw [hU]; exact hW, hV.moved hWm, by rw [hU]; exact Nat.le_trans hbs hS.1, ⟨?_, hXb⟩, by rw [hU]; exact hz, hXT.moved hWm (fun q hq => by rw [hU]; exact hS.2.1 q (Nat.lt_of_lt_of_le hq hbs) (Nat.not_le.mpr hq))⟩
  rw [hU]
  exact va_X.moved hWm.alike (hX.kept (hS.2.1 _ (Nat.lt_of_lt_of_le hXb hbs) (Nat.not_le.mpr hXb)))
theorem mx_szW {g : JFrame} (k : H.size ≤ s0.heap.size + cells → W p l e R s0 m args below meth c H lcs cells slots Q g) : W p l e R s0 m args below meth c H lcs cells slots Q g := fun T hT X => k (by rw [← hT]; exact X.heapSize) T hT X
theorem mx_call {post : mPo} {a : Array Value} {pc : Nat} {ls : Array Slot} {st0 rest : List Value} (hr : va_Run p l e R s0 m args below meth c H lcs cells slots mc ms (F0 m pc ls st0) rest (mx_Q md D ca bs scr post (fun _ _ => False) a) (fun q => bs ≤ q)) (hS : va_S (fun q => bs ≤ q) s0.heap H lcs)
    (kk : ∀ (v : Option Value) (t : State) (lcs1 : List Loc), mx_Qv md D ca bs scr post v t → va_S (fun q => bs ≤ q) s0.heap t.heap lcs1 → W p l e R s0 m args below meth c t.heap lcs1 (cells + mc) (slots + ms) Q (F0 m (pc + 3) ls (v.toList ++ rest))) : W p l e R s0 m args below meth c H lcs cells slots Q (F0 m pc ls st0) := by
  intro T hT X
  obtain ⟨v, st₀, t, T', L, h0, X', hL, e1, e2, ⟨hq, hz, hkp⟩, st⟩ := hr T hT X
  rw [h0] at hz hkp
  have hv : mx_Qv md D ca bs scr post v t := by
    rcases hq with ⟨w, hw, hq⟩ | ⟨_, _, _, hw, -⟩
    · cases hw
      exact hq
    · cases hw
  have hS1 : va_S (fun q => bs ≤ q) s0.heap t.heap (lcs ++ L) := ⟨Nat.le_trans hS.1 hz, fun q h1 h2 => (hkp q (Nat.lt_of_lt_of_le h1 hS.1) h2).trans (hS.2.1 q h1 h2), fun q hq => by
    rcases List.mem_append.mp hq with h | h
    · exact hS.2.2 q h
    · exact hL q h⟩
  obtain ⟨t2, a1, b1⟩ := kk v t (lcs ++ L) hv hS1 T' e1 X'
  exact ⟨t2, st t2 a1, b1⟩
end
end
section
section
variable {p : Program} {l : Launch} {e : Env} {R : Room} {s0 : State} {m : MethodId} {args : Array Value} {below : List Frame} {meth : Method} {c : Code} {Q : State → Prop} {md : Bool} {D : va_G} {ca : Nat → ClassId} {bs maxL : Nat} {L : mLV} {S : List mAV} {s : mSt} {u : Nat × Nat}
theorem mx_fvn {j j' : Nat} {f i : Nat} {v : Int32} (h : ¬ j' = j) : mx_fv bs (mx_si s f i j v) f i j' = mx_fv bs s f i j' := by
  unfold mx_fv
  have e1 : (mx_si s f i j v).1 f i j' = s.1 f i j' := by
    show mx_u3 s.1 f i j v f i j' = _
    unfold mx_u3
    rw [if_neg (fun h9 => h h9.2.2)]
  rw [e1]
  rfl
theorem mx_fvnp {j j' y : Nat} {f i : Nat} (h : ¬ j' = j) : mx_fv bs (mx_sp s f i j y) f i j' = mx_fv bs s f i j' := by
  unfold mx_fv
  have e1 : (mx_sp s f i j y).2.2.1 f i j' = s.2.2.1 f i j' := by
    show mx_u3 s.2.2.1 f i j (some y) f i j' = _
    unfold mx_u3
    rw [if_neg (fun h9 => h h9.2.2)]
  rw [e1]
  rfl
theorem mx_setf {n j : Nat} {F G : Nat → Value} {v : Value} (hj : j < n) (hv : G j = v) (hn : ∀ j', ¬ j' = j → G j' = F j') : (List.range n).map G = ((List.range n).map F).set j v := by
  apply List.ext_getElem?
  intro q
  rw [List.getElem?_set]
  by_cases hq : j = q
  · subst hq
    rw [if_pos rfl, if_pos (by simp [hj]), List.getElem?_map, List.getElem?_range hj]
    simp [hv]
  · rw [if_neg hq]
    by_cases hl : q < n
    · rw [List.getElem?_map, List.getElem?_map, List.getElem?_range hl]
      simp [hn q (fun h => hq h.symm)]
    · rw [List.getElem?_eq_none (by simp; omega), List.getElem?_eq_none (by simp; omega)]
theorem mx_enc0s {f i j : Nat} {v : Int32} (h : mx_fK f = 0) (hr : mx_fR (mx_fX f) j = 0) (hj : j < mx_nF (mx_fX f)) : mx_enc ca bs (mx_si s f i j v) f i = .inr (mx_fX f, ((List.range (mx_nF (mx_fX f))).map (mx_fv bs s f i)).set j (.int v)) := by
  rw [mx_enc0 h, mx_setf (F := mx_fv bs s f i) (v := .int v) hj ?_ (fun j' h' => mx_fvn h')]
  unfold mx_fv
  rw [hr]
  show Value.int (mx_u3 s.1 f i j v f i j) = _
  simp [mx_u3]
theorem mx_enc0p {f i j g y : Nat} (h : mx_fK f = 0) (hr : mx_fR (mx_fX f) j = g + 1) (hj : j < mx_nF (mx_fX f)) : mx_enc ca bs (mx_sp s f i j y) f i = .inr (mx_fX f, ((List.range (mx_nF (mx_fX f))).map (mx_fv bs s f i)).set j (.ref (bs + mx_num g y))) := by
  rw [mx_enc0 h, mx_setf (F := mx_fv bs s f i) (v := .ref (bs + mx_num g y)) hj ?_ (fun j' h' => mx_fvnp h')]
  unfold mx_fv
  rw [hr]
  show va_rf ((mx_u3 s.2.2.1 f i j (some y) f i j).map _) = _
  simp [mx_u3, va_rf]
theorem mx_enc5p {f i j y : Nat} (h : mx_fK f = 5) : mx_enc ca bs (mx_sp s f i j y) f i = .inl (ca (mx_tA f), mx_fX f, .inr (.inr (.inr (.inr (va_up (fun k => (s.2.2.1 f i k).map (fun y => bs + mx_num (mx_fY f) y)) j (some (bs + mx_num (mx_fY f) y))))))) := by
  rw [mx_enc5 h]
  have e1 : (fun k => ((mx_sp s f i j y).2.2.1 f i k).map (fun y => bs + mx_num (mx_fY f) y)) = va_up (fun k => (s.2.2.1 f i k).map (fun y => bs + mx_num (mx_fY f) y)) j (some (bs + mx_num (mx_fY f) y)) := by
    funext z
    show (mx_u3 s.2.2.1 f i j (some y) f i z).map _ = _
    unfold mx_u3 va_up
    by_cases hz : z = j
    · simp [hz]
    · simp [hz]
  rw [e1]
theorem mx_WH_sp {f i j y : Nat} {E : va_E} {H H1 : Heap} (hW : mx_WH md D ca bs s H) (hok : i < mx_fC f ∧ mx_num f i < s.2.2.2) (hmd : md = false ∨ mx_fK f = 0 ∧ mx_fX f = 3) (he : mx_enc ca bs (mx_sp s f i j y) f i = E) (hP : va_P D cls ((mx_ws ca bs s).set (mx_num f i) (bs + mx_num f i, E)) H1) : mx_WH md D ca bs (mx_sp s f i j y) H1 := by
  rw [← he, mx_set (s' := mx_sp s f i j y) hW.2.1 rfl hok (fun f' i' h => mx_encC rfl rfl (mx_u3n h))] at hP
  refine ⟨hP, hW.2.1, fun hm => ?_⟩
  rcases hmd with h | ⟨h0, h3⟩
  · rw [h] at hm
    cases hm
  · obtain ⟨m1, m2, m3⟩ := hW.2.2 hm
    refine ⟨m1, fun f' i' j' g hi hk hx hr => ?_, fun f' i' j' hi hk hx => ?_⟩
    · have e1 : (mx_sp s f i j y).2.2.1 f' i' = s.2.2.1 f' i' := mx_u3n (fun h9 => hx (by rw [h9.1]; exact h3))
      rw [e1]
      exact m2 f' i' j' g hi hk hx hr
    · have e1 : (mx_sp s f i j y).2.2.1 f' i' = s.2.2.1 f' i' := mx_u3n (fun h9 => by rw [h9.1, h0] at hk; cases hk)
      rw [e1]
      exact m3 f' i' j' hi hk hx
theorem mx_tyf {ci : Nat} {C : String} {T : u_T} {N : Nat} (h : cls[ci]? = some (C, T, N)) : ∃ ty0 : Nat → FieldType, (∀ k, k < N → parseFieldDescriptor (T k).2.2.1 = some (ty0 k)) ∧ ∀ a, a < N → ∀ b, b < N → a ≠ b → (T a).2.1 ≠ (T b).2.1 := by
  match ci, h with
  | 0, h => cases h; exact ⟨_, tk_Rs, nm_Rs⟩
  | 1, h => cases h; exact ⟨_, tk_Cf, nm_Cf⟩
  | 2, h => cases h; exact ⟨_, tk_Lg, nm_Lg⟩
  | 3, h => cases h; exact ⟨_, tk_Rd, nm_Rd⟩
  | 4, h => cases h; exact ⟨_, tk_Rl, nm_Rl⟩
  | 5, h => cases h; exact ⟨_, tk_Vs, nm_Vs⟩
  | 6, h => cases h; exact ⟨_, tk_Md, nm_Md⟩
  | n + 7, h => cases h
theorem mx_putr {cc : ByteArray} {own mn : String} {pc n ci j nest z w : Nat} {r : List Nat} {C : String} {T : u_T} {N : Nat} {H : Heap} {lcs : List Loc} {ls : Array Slot} {f i : Nat} {v : Value} {ty : FieldType} {rest : List Value}
    (hx : p.tables.exec = Jvm.exec) (hb : c.code = cc) (hown : s0.vm.findClass own = some m.cls) (hmn : meth.name = mn) (hts : ∀ w ∈ wg, w.before args s0 = true) (hV : mx_VM D ca s0) (hd : decode cc pc = .ok (.putfield n, 3))
    (hc : cls[ci]? = some (C, T, N)) (hj : j < N) (hTj : (T j).1 = C) (hlk : (nest = 0 ∧ Cond.fieldLink own n C (T j).2.1 (T j).2.2.1 ∈ wg) ∨ (¬ nest = 0 ∧ Cond.fieldLinkNest own n C (T j).2.1 (T j).2.2.1 R_Rs ∈ wn))
    (hfw : mx_fw own mn (ci :: j :: nest :: z :: w :: r) = true) (hW : mx_WH md D ca bs s H) (hS : va_S (fun q => bs ≤ q) s0.heap H lcs) (hok : i < mx_fC f ∧ mx_num f i < s.2.2.2) (h0 : mx_fK f = 0) (h1 : mx_fX f = ci)
    (hty : parseFieldDescriptor (T j).2.2.1 = some ty) (hn : narrow ty v = v) (hfit : fits ty v = true)
    (kk : ∀ (H1 : Heap) (lcs1 : List Loc), va_P D cls ((mx_ws ca bs s).set (mx_num f i) (bs + mx_num f i, .inr (ci, ((List.range (mx_nF ci)).map (mx_fv bs s f i)).set j v))) H1 → va_S (fun q => bs ≤ q) s0.heap H1 lcs1 → W p l e R s0 m args below meth c H1 lcs1 u.1 u.2 Q (F0 m (pc + 3) ls rest)) : W p l e R s0 m args below meth c H lcs u.1 u.2 Q (F0 m pc ls (v :: .ref (bs + mx_num f i) :: rest)) := by
  subst h1
  obtain ⟨hin, hN⟩ := mx_cin hc
  obtain ⟨ty0, ht0, hnm⟩ := mx_tyf hc
  have hat : (mx_ws ca bs s)[mx_num f i]? = some (bs + mx_num f i, .inr (mx_fX f, (List.range (mx_nF (mx_fX f))).map (mx_fv bs s f i))) := (mx_at hok).trans (by rw [mx_enc0 h0])
  have hl : j < ((List.range (mx_nF (mx_fX f))).map (mx_fv bs s f i)).length := by simp; rw [hN]; exact hj
  have hsame : ∀ x, s0.fieldFound? (T j).1 (T j).2.1 (T j).2.2.1 = some x → s0.fieldFound? C (T j).2.1 (T j).2.2.1 = some x := by rw [hTj]; exact fun _ h9 => h9
  unfold mx_fw at hfw
  dsimp only at hfw
  rw [hc] at hfw
  dsimp only at hfw
  have hfw2 := (Bool.and_eq_true_iff.mp hfw).2
  cases hfin : (T j).2.2.2 with
  | false =>
    rcases hlk with ⟨-, hlk⟩ | ⟨-, hlk⟩
    · exact va_put hx hb hts hin ty0 ht0 hnm hown hV.1 hW.1 mx_D hS (mx_num f i) hat hc j hj (hts _ hlk) hsame hfin hty hn hfit hl hd (fun H1 lcs1 hP1 _ hS1 => kk H1 lcs1 hP1 hS1)
    · exact va_putN hx hb hts hin ty0 ht0 hnm hown hV.1 hW.1 mx_D hS (mx_num f i) hat hc j hj (va_Nw.use rfl (hV.2.1 _ hlk)) hsame hfin hty hn hfit hl hd (fun H1 lcs1 hP1 _ hS1 => kk H1 lcs1 hP1 hS1)
  | true =>
    rw [hfin] at hfw2
    obtain ⟨g1, g2⟩ := Bool.and_eq_true_iff.mp hfw2
    obtain ⟨g2, g3⟩ := Bool.and_eq_true_iff.mp g2
    have g1 : mn = "<init>" := of_decide_eq_true g1
    have g2 : own = C := of_decide_eq_true g2
    have g3 : nest = 0 := of_decide_eq_true g3
    rcases hlk with ⟨-, hlk⟩ | ⟨h9, hlk⟩
    · exact va_putF hx hb hts hin ty0 ht0 hnm hown hV.1 hW.1 mx_D hS (mx_num f i) hat hc j hj (hts _ hlk) hsame hfin (hmn.trans g1) (hTj.trans g2.symm) hty hn hfit hl hd (fun H1 lcs1 hP1 _ hS1 => kk H1 lcs1 hP1 hS1)
    · exact absurd g3 h9
end
end
section
section
variable {p : Program} {l : Launch} {e : Env} {R : Room} {s0 : State} {m : MethodId} {args : Array Value} {below : List Frame} {meth : Method} {c : Code} {Q : State → Prop} {md : Bool} {D : va_G} {ca : Nat → ClassId} {bs maxL : Nat} {L : mLV} {S : List mAV} {s : mSt} {u : Nat × Nat}
theorem mx_ge {H : Heap} {lcs : List Loc} (hbs : bs ≤ s0.heap.size) (hW : mx_WH md D ca bs s H) (hS : va_S (fun q => bs ≤ q) s0.heap H lcs) : bs + s.2.2.2 ≤ H.size := by
  by_cases h0 : s.2.2.2 = 0
  · have h1 := hS.1
    omega
  · have hq : s.2.2.2 - 1 < s.2.2.2 := by omega
    have h1 : (mx_ws ca bs s)[s.2.2.2 - 1]? = some (bs + (s.2.2.2 - 1), mx_enc ca bs s (mx_cod.getD (s.2.2.2 - 1) (99, 0)).1 (mx_cod.getD (s.2.2.2 - 1) (99, 0)).2) := by
      unfold mx_ws
      rw [List.getElem?_map, List.getElem?_range hq]
      rfl
    have h2 := (hW.1 _ _ h1).lt
    have h2 : bs + (s.2.2.2 - 1) < H.size := h2
    omega
theorem mx_okI_put {own mn : String} {maxL n len pc : Nat} {cut : Option (List Nat)} {aux : List Nat} {ic : Int32} {lc : Int64} (h : mx_okI own mn maxL (pc, cut, .putfield n, len, aux, ic, lc) = true) : len = 3 ∧ mx_fl own n aux = true ∧ mx_fw own mn aux = true := by
  obtain ⟨h1, h2⟩ := Bool.and_eq_true_iff.mp (show (decide (len = 3) && (mx_fl own n aux && mx_fw own mn aux)) = true from h)
  exact ⟨of_decide_eq_true h1, Bool.and_eq_true_iff.mp h2⟩
theorem mx_fz {x : Int32} (h : narrow .boolean (.int x) = .int x) : fits .boolean (.int x) = true := by
  have h1 : x &&& 1 = x := Value.int.inj h
  obtain ⟨j, hj, e9⟩ := pk_andE x (m := 1) 1 (by decide)
  rw [h1] at e9
  rw [e9]
  rcases (show j = 0 ∨ j = 1 by omega) with rfl | rfl
  · decide
  · decide
set_option maxHeartbeats 4000000 in
theorem mx_put_ok {scr : mSc} {cal : Nat → List mAV → mSt → mPo → (Nat → mSt → Prop) → Prop} {M : mMt} {post : mPo} {ex : Nat → mSt → Prop} {k : List mEn → mLV → List mAV → mSt → Nat × Nat → Prop} {es : List mEn} {own mn : String} {cc : ByteArray} {pc n len : Nat} {cut : Option (List Nat)} {aux : List Nat} {ic : Int32} {lc : Int64}
    (hx : p.tables.exec = Jvm.exec) (hb : c.code = cc) (hown : s0.vm.findClass own = some m.cls) (hmn : meth.name = mn) (hts : ∀ w ∈ wg, w.before args s0 = true) (hV : mx_VM D ca s0)
    (hE : mx_okE own mn cc maxL (pc, cut, .putfield n, len, aux, ic, lc) = true) (hnx : ∀ e' r, es = e' :: r → e'.1 = pc + len) (hsf : mx_Sf M.1 es)
    (hk : ∀ es L S s u, k es L S s u → mx_Sf M.1 es → ∀ pc, (∀ e r, es = e :: r → e.1 = pc) → mx_GA p l e R s0 m args below meth c Q md D ca bs maxL pc L S s u)
    (h : mx_stp md scr cal M post ex k (pc, cut, .putfield n, len, aux, ic, lc) es L S s u) : mx_GA p l e R s0 m args below meth c Q md D ca bs maxL pc L S s u := by
  have h9 := Bool.and_eq_true_iff.mp hE
  have hd : decode cc pc = .ok (.putfield n, len) := of_decide_eq_true h9.1
  obtain ⟨rfl, hfl, hfw⟩ := mx_okI_put h9.2
  obtain ⟨ci, j, nest, z, w, r, C, T, N, rfl, hc, hj, hTj, hlk⟩ := mx_fl_o hfl
  obtain ⟨hin, hN⟩ := mx_cin hc
  have hty := hfw
  unfold mx_fw at hty
  dsimp only at hty
  rw [hc] at hty
  dsimp only at hty
  have hty := (Bool.and_eq_true_iff.mp hty).1
  rcases mx_pf_o (show mx_pf S _ _ from h) with ⟨x, f, i, S, rfl, h⟩ | ⟨g, y, f, i, S, rfl, h⟩
  · obtain ⟨h0, h⟩ := mx_eq_o (show mx_eq (mx_fK f) 0 _ from h)
    obtain ⟨h1, h⟩ := mx_eq_o (show mx_eq (mx_fX f) ci _ from h)
    obtain ⟨hr, h⟩ := mx_eq_o (show mx_eq (mx_fR ci j) 0 _ from h)
    rw [hr] at hty
    intro H lcs ls hW hS hl hL hO hu hz
    have hok := mx_oS_h (mx_oS_t hO)
    have fin : ∀ ty, parseFieldDescriptor (T j).2.2.1 = some ty → narrow ty (.int x) = .int x → fits ty (.int x) = true → k es L S (mx_si s f i j x) u → W p l e R s0 m args below meth c H lcs u.1 u.2 Q (F0 m pc ls ((Sum.inl x :: Sum.inr (Sum.inr (Sum.inl (f, i))) :: S).map (mx_vv bs))) := fun ty hp hn hf hh => by
      refine mx_putr (v := .int x) hx hb hown hmn hts hV hd hc hj hTj hlk hfw hW hS hok h0 h1 hp hn hf (fun H1 lcs1 hP1 hS1 => ?_)
      subst h1
      exact (hk _ _ _ _ _ hh hsf _ hnx) H1 lcs1 ls (mx_WH_si hW hok (mx_enc0s h0 hr (by rw [hN]; exact hj)) hP1) hS1 hl hL (mx_oS_t (mx_oS_t hO)) hu hz
    cases z with
    | zero =>
      have e1 : (T j).2.2.1 = "I" := of_decide_eq_true hty
      exact fin .int (by rw [e1]; rfl) rfl rfl (mx_to_o h)
    | succ z =>
      have e1 : (T j).2.2.1 = "Z" := of_decide_eq_true hty
      obtain ⟨hnr, h⟩ := (show narrow .boolean (.int x) = .int x ∧ _ from h)
      exact fin .boolean (by rw [e1]; rfl) hnr (mx_fz hnr) (mx_to_o h)
  · obtain ⟨h0, h⟩ := mx_eq_o (show mx_eq (mx_fK f) 0 _ from h)
    obtain ⟨h1, h⟩ := mx_eq_o (show mx_eq (mx_fX f) ci _ from h)
    obtain ⟨hr, h⟩ := mx_eq_o (show mx_eq (mx_fR ci j) (g + 1) _ from h)
    obtain ⟨hm, h⟩ := mx_or_o (show mx_or md ci _ from h)
    have hh := mx_to_o h
    rw [hr] at hty
    intro H lcs ls hW hS hl hL hO hu hz
    have hok := mx_oS_h (mx_oS_t hO)
    have fin : ∀ ty, parseFieldDescriptor (T j).2.2.1 = some ty → narrow ty (.ref (bs + mx_num g y)) = .ref (bs + mx_num g y) → fits ty (.ref (bs + mx_num g y)) = true → W p l e R s0 m args below meth c H lcs u.1 u.2 Q (F0 m pc ls ((Sum.inr (Sum.inr (Sum.inl (g, y))) :: Sum.inr (Sum.inr (Sum.inl (f, i))) :: S).map (mx_vv bs))) := fun ty hp hn hf => by
      refine mx_putr (v := .ref (bs + mx_num g y)) hx hb hown hmn hts hV hd hc hj hTj hlk hfw hW hS hok h0 h1 hp hn hf (fun H1 lcs1 hP1 hS1 => ?_)
      subst h1
      exact (hk _ _ _ _ _ hh hsf _ hnx) H1 lcs1 ls (mx_WH_sp hW hok (hm.imp id (fun q => ⟨h0, q⟩)) (mx_enc0p h0 hr (by rw [hN]; exact hj)) hP1) hS1 hl hL (mx_oS_t (mx_oS_t hO)) hu hz
    dsimp only at hty
    split at hty
    · rename_i hp
      exact fin _ hp rfl rfl
    · rename_i hp
      exact fin _ hp rfl rfl
    · cases hty
end
end
section
section
variable {p : Program} {l : Launch} {e : Env} {R : Room} {s0 : State} {m : MethodId} {args : Array Value} {below : List Frame} {meth : Method} {c : Code} {Q : State → Prop} {md : Bool} {D : va_G} {ca : Nat → ClassId} {bs maxL : Nat} {L : mLV} {S : List mAV} {s : mSt} {u : Nat × Nat}
theorem mx_ok_le {s t : mSt} {v : mAV} (h : s.2.2.2 ≤ t.2.2.2) (hv : mx_ok s v) : mx_ok t v := by
  rcases v with x | y | ⟨f, i⟩ | a
  · trivial
  · trivial
  · exact ⟨hv.1, Nat.lt_of_lt_of_le hv.2 h⟩
  · trivial
theorem mx_kc_o {s t : mSt} {mc : Nat} {k : mSt → Prop} (h : mx_kc md s mc k t) : (md = false → t.2.2.2 = s.2.2.2 + mc) ∧ k t := by
  unfold mx_kc at h
  cases md with
  | true => exact ⟨fun q => Bool.noConfusion q, h⟩
  | false =>
    obtain ⟨h1, h2⟩ := mx_eq_o (show mx_eq t.2.2.2 (s.2.2.2 + mc) (k t) from h)
    exact ⟨fun _ => h1, h2⟩
theorem mx_back {scr : mSc} {M : mMt} {k : List mEn → mLV → List mAV → mSt → Nat × Nat → Prop} {es : List mEn} {rk mc ms pc : Nat} {v : Option Value} {t : State} {lcs1 : List Loc} {ls : Array Slot} {H : Heap}
    (hsf : mx_Sf M.1 es) (hnx : ∀ e' r, es = e' :: r → e'.1 = pc)
    (hk : ∀ es L S s u, k es L S s u → mx_Sf M.1 es → ∀ pc, (∀ e r, es = e :: r → e.1 = pc) → mx_GA p l e R s0 m args below meth c Q md D ca bs maxL pc L S s u)
    (hW : mx_WH md D ca bs s H) (hl : lv_has ls maxL (mx_VL bs L)) (hL : mx_oL s L) (hO : mx_oS s S) (hu : u.1 + mc ≤ R.cells ∧ u.2 + ms ≤ R.slots) (hz : md = false → bs + s.2.2.2 = s0.heap.size + u.1)
    (hq : mx_Qv md D ca bs scr (mx_kr rk S (fun S t => mx_kc md s mc (fun t => k es L S t (u.1 + mc, u.2 + ms)) t)) v t) (hS1 : va_S (fun q => bs ≤ q) s0.heap t.heap lcs1) :
    W p l e R s0 m args below meth c t.heap lcs1 (u.1 + mc) (u.2 + ms) Q (F0 m pc ls (v.toList ++ S.map (mx_vv bs))) := by
  have fin : ∀ (S' : List mAV) (t' : mSt), mx_WS md D ca bs scr t' t → (mx_oS t' S → mx_oS t' S') → mx_kc md s mc (fun t => k es L S' t (u.1 + mc, u.2 + ms)) t' → W p l e R s0 m args below meth c t.heap lcs1 (u.1 + mc) (u.2 + ms) Q (F0 m pc ls (S'.map (mx_vv bs))) := fun S' t' hWS hO' h => by
    obtain ⟨hK, h⟩ := mx_kc_o h
    have hle : s.2.2.2 ≤ t'.2.2.2 := by
      cases md with
      | true => rw [(hW.2.2 rfl).1, (hWS.1.2.2 rfl).1]; exact Nat.le_refl _
      | false => rw [hK rfl]; exact Nat.le_add_right _ _
    refine (hk _ _ _ _ _ h hsf _ hnx) t.heap lcs1 ls hWS.1 hS1 hl (fun q hq => mx_ok_le hle (hL q hq)) (hO' (fun q hq => mx_ok_le hle (hO q hq))) hu (fun hm => ?_)
    have h1 := hK hm
    have h2 := hz hm
    show bs + t'.2.2.2 = s0.heap.size + (u.1 + mc)
    omega
  unfold mx_kr at hq
  rcases hq with ⟨rfl, t', h, hWS⟩ | ⟨x, t', rfl, h, hWS⟩ | ⟨f, i, t', rfl, h, hko, hWS⟩
  · match rk, h with
    | 0, h => exact fin S t' hWS (fun h => h) h
    | 1, h => exact False.elim h
    | g + 2, h => exact False.elim h
  · match rk, h with
    | 0, h => exact False.elim h
    | 1, h => exact fin (.inl x :: S) t' hWS (fun h => mx_oS_c trivial h) h
    | g + 2, h => exact False.elim h
  · match rk, h with
    | 0, h => exact False.elim h
    | 1, h => exact False.elim h
    | g + 2, h =>
      obtain ⟨rfl, h⟩ := mx_eq_o (show mx_eq f g _ from h)
      exact fin (.inr (.inr (.inl (f, i))) :: S) t' hWS (fun h => mx_oS_c hko h) h
def mx_Cal (l : Launch) (R : Room) (md : Bool) (D : va_G) (ca : Nat → ClassId) (bs : Nat) (scr : mSc) (cal : Nat → List mAV → mSt → mPo → (Nat → mSt → Prop) → Prop) : Prop := ∀ mi as s post ex, mi < mx_nM → mx_pu mi = true → mx_oS s as → cal mi as s post ex → ∃ d, mx_CT l md D ca bs scr d mi as s post ex ∧ d + 9 ≤ R.frames ∧ 40 * d + 240 ≤ R.locals
theorem mx_okM_o {mi : Nat} (h : mx_okM mi = true) : mx_cw mi ∈ lw_tbl ∧ mx_wd (mx_mw mi 3) (.initialized (mx_y mi).cls) = true ∧ ((mx_y mi).cls ≠ "java/lang/invoke/MethodHandle" ∧ (mx_y mi).cls ≠ "java/lang/invoke/VarHandle" ∧ (parseMethodDescriptor (mx_y mi).desc).map (fun d => d.parameters.length) = some (mx_mw mi 1)) ∧ mx_mL mi ≤ 21 ∧ plainFor (mx_y mi) = true ∧ (mx_mw mi 0 = 0 → mx_wd (mx_mw mi 4) (.instanceMethod (mx_y mi)) = true ∧ mx_wd (mx_mw mi 5) (.selects (mx_y mi).cls (mx_y mi) (mx_y mi)) = true) ∧ (mx_mw mi 0 = 1 → mx_wd (mx_mw mi 4) (.static (mx_y mi)) = true) ∧ (mx_mw mi 0 = 2 → mx_wd (mx_mw mi 4) (.instanceMethod (mx_y mi)) = true ∧ (mx_y mi).name = "<init>" ∧ (mx_mt mi).2.1 = none) := by
  unfold mx_okM at h
  obtain ⟨h1, h⟩ := Bool.and_eq_true_iff.mp h
  obtain ⟨h2, h⟩ := Bool.and_eq_true_iff.mp h
  obtain ⟨h3, h⟩ := Bool.and_eq_true_iff.mp h
  obtain ⟨h4, h⟩ := Bool.and_eq_true_iff.mp h
  obtain ⟨h5, h⟩ := Bool.and_eq_true_iff.mp h
  refine ⟨mx_cz_o h1, h2, of_decide_eq_true h3, of_decide_eq_true h4, h5, fun e => ?_, fun e => ?_, fun e => ?_⟩
  · rw [e] at h
    exact Bool.and_eq_true_iff.mp h
  · rw [e] at h
    exact h
  · rw [e] at h
    obtain ⟨g1, g2⟩ := Bool.and_eq_true_iff.mp h
    exact ⟨g1, of_decide_eq_true g2⟩
set_option maxHeartbeats 4000000 in
theorem mx_inv_ok {scr : mSc} {cal : Nat → List mAV → mSt → mPo → (Nat → mSt → Prop) → Prop} {M : mMt} {ex : Nat → mSt → Prop} {k : List mEn → mLV → List mAV → mSt → Nat × Nat → Prop} {es : List mEn} {own : String} {cc : ByteArray} {pc : Nat} {ins : Instr} {aux : List Nat}
    (hx : p.tables.exec = Jvm.exec) (hb : c.code = cc) (hml : c.maxLocals = maxL) (hown : s0.vm.findClass own = some m.cls) (hts : ∀ w ∈ wg, w.before args s0 = true) (hV : mx_VM D ca s0) (hX : va_X scr.1 scr.2.1 scr.2.2 s0 s0.heap) (hXb : scr.1 < bs) (hbs : bs ≤ s0.heap.size) (hXT : xt_T bs s0) (hR : M.2.2.1 ≤ R.cells ∧ M.2.2.2.1 ≤ R.slots)
    (hMs : ∀ mi, mi < mx_nM → mx_okM mi = true) (hcal : mx_Cal l R md D ca bs scr cal)
    (hd : decode cc pc = .ok (ins, 3)) (hiv : mx_iv own ins aux = true) (hnx : ∀ e' r, es = e' :: r → e'.1 = pc + 3) (hsf : mx_Sf M.1 es)
    (hk : ∀ es L S s u, k es L S s u → mx_Sf M.1 es → ∀ pc, (∀ e r, es = e :: r → e.1 = pc) → mx_GA p l e R s0 m args below meth c Q md D ca bs maxL pc L S s u)
    (hpl : ∀ mi r, aux = mi :: r → mx_hr mi = [] ∧ (mx_mt mi).2.2.2.2.2 = false)
    (h : mx_inv md cal M ex aux es L S s u k pc) : mx_GA p l e R s0 m args below meth c Q md D ca bs maxL pc L S s u := by
  unfold mx_iv at hiv
  split at hiv
  · rename_i mi np rk th mc ms rc nest w r
    obtain ⟨hhr, hth⟩ := hpl _ _ rfl
    have hpu9 : mx_pu mi = true := by
      unfold mx_pu
      rw [hhr, hth]
    obtain ⟨g1, g2⟩ := Bool.and_eq_true_iff.mp hiv
    obtain ⟨g2, g3⟩ := Bool.and_eq_true_iff.mp g2
    obtain ⟨hmi, rfl, rfl, hms0⟩ := of_decide_eq_true g1
    rw [hth] at g2
    have hth0 : th = 0 := by
      cases th with
      | zero => rfl
      | succ n => cases g2
    subst hth0
    obtain ⟨o1, o2, o3, o4, o5, o6, o7, o8⟩ := mx_okM_o (hMs mi hmi)
    have hcw : mx_cw mi = .code (mx_y mi) (mx_b mi) (mx_mL mi) (mx_mt mi).2.1 := by
      unfold mx_cw
      rw [hhr]
    rw [hcw] at o1
    have w0 := wg_in o1 rfl
    have wi := mx_wd_g o2 rfl
    unfold mx_inv at h
    dsimp only at h
    cases hp : mx_pop np [] S with
    | none =>
      rw [hp] at h
      exact False.elim h
    | some q =>
      obtain ⟨as, S'⟩ := q
      rw [hp] at h
      obtain ⟨P, hP1, hP2, hP3⟩ := mx_pop_o hp
      rw [List.append_nil] at hP1
      subst hP1
      subst hP2
      obtain ⟨hw8, h⟩ := mx_eq_o (show mx_eq (Nat.ble (mx_wt S') 8).toNat 1 _ from h)
      have hw8 : mx_wt S' ≤ 8 := Nat.le_of_ble_eq_true (by cases hb9 : Nat.ble (mx_wt S') 8 with
        | true => rfl
        | false => rw [hb9] at hw8; cases hw8)
      intro H lcs ls hW hS hl hL hO hu hz
      have hOa : mx_oS s as := fun v hv => hO v (List.mem_append_left _ (List.mem_reverse.mpr hv))
      have hOs : mx_oS s S' := fun v hv => hO v (List.mem_append_right _ hv)
      have body : ∀ (hc : cal mi as s (mx_kr rk S' (fun S t => mx_kc md s (mx_mt mi).2.2.1 (fun t => k es L S t (u.1 + (mx_mt mi).2.2.1, u.2 + (mx_mt mi).2.2.2.1)) t)) (fun _ _ => False)), u.1 + (mx_mt mi).2.2.1 ≤ R.cells ∧ u.2 + (mx_mt mi).2.2.2.1 ≤ R.slots →
          (rc ≠ 0 → ∃ f i as', as = .inr (.inr (.inl (f, i))) :: as' ∧ mx_fK f = 0 ∧ mx_fX f + 1 = rc) → W p l e R s0 m args below meth c H lcs u.1 u.2 Q (F0 m pc ls ((as.reverse ++ S').map (mx_vv bs))) := fun hc hbud hrcv => by
        refine mx_szW (fun hsz => ?_)
        have hge := mx_ge hbs hW hS
        have hzz : md = false → H.size = bs + s.2.2.2 := fun hm => by
          have h1 := hz hm
          omega
        obtain ⟨d, hCT, hd1, hd2⟩ := hcal mi as s _ _ hmi hpu9 hOa hc
        have met := mx_met (show mx_Mx l (mx_y mi) (mx_cw mi :: wg) (mx_rm d mi) (va_Pc (as.map (mx_vv bs)) (mx_WS md D ca bs scr s)) _ (mx_mt mi).2.2.1 (mx_mt mi).2.2.2.1 (fun q => bs ≤ q) from hCT)
        rw [hcw] at met
        have hroom : (mx_rm d mi).frames + 1 ≤ R.frames ∧ 8 + (mx_mL mi + 11) + (mx_rm d mi).locals ≤ R.locals := by
          constructor
          · show d + 8 + 1 ≤ R.frames
            omega
          · show 8 + (mx_mL mi + 11) + (40 * d + 200) ≤ R.locals
            omega
        have hwr : 2 * (F0 m pc ls ((as.reverse ++ S').map (mx_vv bs))).monitorRoom + ((S'.map (mx_vv bs)).map fun v => v.category).sum ≤ 8 := by
          show 2 * 0 + _ ≤ 8
          rw [mx_wt_o]
          omega
        have hpre := mx_pre (av := as.map (mx_vv bs)) hV hX hXb hbs hXT hW hS hzz
        have fix : CallFix p m c cc maxL s0 args wg own := ⟨hx, hb, hml, hown, hts⟩
        cases ins with
        | invokevirtual n =>
          obtain ⟨k1, k2⟩ := Bool.and_eq_true_iff.mp g3
          obtain ⟨k2, k3⟩ := Bool.and_eq_true_iff.mp k2
          obtain ⟨k4, k5⟩ := of_decide_eq_true k1
          cases rc with
          | zero => cases k2
          | succ ci =>
            obtain ⟨f, i, as', rfl, hf0, hf1⟩ := hrcv (Nat.succ_ne_zero _)
            obtain rfl : mx_fX f = ci := Nat.succ.inj hf1
            obtain ⟨w1, w2⟩ := o6 k4
            have w1 := mx_wd_g w1 rfl
            have w2 := mx_wd_g w2 rfl
            have hok := mx_oS_h hOa
            have k2 : decide ((cls[mx_fX f]?).map (fun q => q.1) = some (mx_y mi).cls) = true := k2
            cases hcl : cls[mx_fX f]? with
            | none =>
              rw [hcl] at k2
              cases (of_decide_eq_true k2)
            | some q =>
              rw [hcl] at k2
              have hqc : q.1 = (mx_y mi).cls := Option.some.inj (of_decide_eq_true k2)
              have hrecv := va_recv hV.1 hW.1 hcl ((mx_at hok).trans (by rw [mx_enc0 hf0]))
              rw [hqc] at hrecv
              have hlen : (as'.map (mx_vv bs)).length = mx_mw mi 1 := by
                rw [List.length_map]
                have h9 : as'.length + 1 = np := hP3
                omega
              have hstk : (F0 m pc ls (((Sum.inr (Sum.inr (Sum.inl (f, i))) :: as').reverse ++ S').map (mx_vv bs))).stack = (as'.map (mx_vv bs)).reverse ++ .ref (bs + mx_num f i) :: S'.map (mx_vv bs) := by
                simp [mx_vv]
              cases nest with
              | zero =>
                have wl := mx_wd_g k3 rfl
                refine mx_call (va_runV (C := (mx_y mi).cls) (b := bs + mx_num f i) (As := as'.map (mx_vv bs)) (rest := S'.map (mx_vv bs)) fix met (cwV (mx_mw mi 1) hts (gV w0 wl w1 w2 wi) rfl rfl rfl ⟨rfl, o3⟩ hroom) ⟨mx_blind, hrecv, hpre⟩ rfl hlen hl.1 hstk hwr hd hbud) hS (fun v t lcs1 hq hS1 => ?_)
                exact mx_back hsf hnx hk hW hl hL hOs hbud hz hq hS1
              | succ ns =>
                have wl := mx_wd_n k3 rfl
                refine mx_call (va_runVN (C := (mx_y mi).cls) (b := bs + mx_num f i) (As := as'.map (mx_vv bs)) (rest := S'.map (mx_vv bs)) fix met ⟨va_cnB (mx_mw mi 1) hts (gy w0) rfl rfl rfl (hV.2.1 _ wl) (hts _ wi) o3 hroom, hts _ w1, hts _ w2⟩ ⟨mx_blind, hrecv, hpre⟩ rfl hlen hl.1 hstk hwr hd hbud) hS (fun v t lcs1 hq hS1 => ?_)
                exact mx_back hsf hnx hk hW hl hL hOs hbud hz hq hS1
        | invokestatic n =>
          obtain ⟨k1, k3⟩ := Bool.and_eq_true_iff.mp g3
          obtain ⟨k4, k5, k6⟩ := of_decide_eq_true k1
          have w1 := mx_wd_g (o7 k4) rfl
          have hlen : (as.map (mx_vv bs)).length = mx_mw mi 1 := by
            rw [List.length_map]
            omega
          have hstk : (F0 m pc ls ((as.reverse ++ S').map (mx_vv bs))).stack = (as.map (mx_vv bs)).reverse ++ S'.map (mx_vv bs) := by
            simp
          cases nest with
          | zero =>
            have wl := mx_wd_g k3 rfl
            refine mx_call (va_runS (As := as.map (mx_vv bs)) (rest := S'.map (mx_vv bs)) fix met (va_cwS (mx_mw mi 1) hts (gS w0 wl w1 wi) rfl rfl rfl o3 hroom) ⟨mx_blind, hpre⟩ rfl hlen hl.1 hstk hwr hd hbud) hS (fun v t lcs1 hq hS1 => ?_)
            exact mx_back hsf hnx hk hW hl hL hOs hbud hz hq hS1
          | succ ns =>
            have wl := mx_wd_n k3 rfl
            refine mx_call (va_runSN (As := as.map (mx_vv bs)) (rest := S'.map (mx_vv bs)) fix met ⟨va_cnB (mx_mw mi 1) hts (gy w0) rfl rfl rfl (hV.2.1 _ wl) (hts _ wi) o3 hroom, hts _ w1, trivial⟩ ⟨mx_blind, hpre⟩ rfl hlen hl.1 hstk hwr hd hbud) hS (fun v t lcs1 hq hS1 => ?_)
            exact mx_back hsf hnx hk hW hl hL hOs hbud hz hq hS1
        | invokespecial n =>
          obtain ⟨k1, k3⟩ := Bool.and_eq_true_iff.mp g3
          obtain ⟨k4, k5, k6⟩ := of_decide_eq_true k1
          obtain ⟨f, i, as', rfl, hf0, hf1⟩ := hrcv k6
          obtain ⟨w1, hnm, hrn⟩ := o8 k4
          have w1 := mx_wd_g w1 rfl
          rw [hrn] at met w0
          have hlen : (as'.map (mx_vv bs)).length = mx_mw mi 1 := by
            rw [List.length_map]
            have h9 : as'.length + 1 = np := hP3
            omega
          have hstk : (F0 m pc ls (((Sum.inr (Sum.inr (Sum.inl (f, i))) :: as').reverse ++ S').map (mx_vv bs))).stack = (as'.map (mx_vv bs)).reverse ++ .ref (bs + mx_num f i) :: S'.map (mx_vv bs) := by
            simp [mx_vv]
          cases nest with
          | zero =>
            have wl := mx_wd_g k3 rfl
            refine mx_call (va_runI (b := bs + mx_num f i) (As := as'.map (mx_vv bs)) (rest := S'.map (mx_vv bs)) fix met (cwI (mx_mw mi 1) hts (gy w0) rfl rfl rfl (hts _ wi) (hts _ wl) (hts _ w1) hnm o3 hroom) ⟨mx_blind, hpre⟩ rfl hlen hl.1 hstk hwr hd hbud) hS (fun v t lcs1 hq hS1 => ?_)
            exact mx_back hsf hnx hk hW hl hL hOs hbud hz hq hS1
          | succ ns =>
            have wl := mx_wd_n k3 rfl
            refine mx_call (va_runIN (b := bs + mx_num f i) (As := as'.map (mx_vv bs)) (rest := S'.map (mx_vv bs)) fix met ⟨va_cnB (mx_mw mi 1) hts (gy w0) rfl rfl rfl (hV.2.1 _ wl) (hts _ wi) o3 hroom, hnm, hts _ w1⟩ ⟨mx_blind, hpre⟩ rfl hlen hl.1 hstk hwr hd hbud) hS (fun v t lcs1 hq hS1 => ?_)
            exact mx_back hsf hnx hk hW hl hL hOs hbud hz hq hS1
        | _ => cases g3
      have hrc9 : ∀ {P : Prop}, mx_rc rc as P → P ∧ (rc ≠ 0 → ∃ f i as', as = .inr (.inr (.inl (f, i))) :: as' ∧ mx_fK f = 0 ∧ mx_fX f + 1 = rc) := fun {P} h9 => by
        cases rc with
        | zero => exact ⟨h9, fun h => absurd rfl h⟩
        | succ ci =>
          obtain ⟨f, i, as', e1, h9⟩ := mx_rf_o (show mx_rf as _ from h9)
          obtain ⟨e2, h9⟩ := mx_eq_o (show mx_eq (mx_fK f) 0 _ from h9)
          obtain ⟨e3, h9⟩ := mx_eq_o (show mx_eq (mx_fX f) ci _ from h9)
          exact ⟨h9, fun _ => ⟨f, i, as', e1, e2, by rw [e3]⟩⟩
      obtain ⟨h, hrcv⟩ := hrc9 h
      generalize hmc : (mx_mt mi).2.2.1 = mc at h body hms0
      generalize hms : (mx_mt mi).2.2.2.1 = ms at h body hms0
      cases mc with
      | zero =>
        have hms1 := hms0 rfl
        subst hms1
        exact body h ⟨hu.1, hu.2⟩ hrcv
      | succ mc =>
        obtain ⟨b1, b2, h⟩ := mx_bg_o (show mx_bg (u.1 + (mc + 1)) (u.2 + ms) M _ from h)
        exact body h ⟨Nat.le_trans b1 hR.1, Nat.le_trans b2 hR.2⟩ hrcv
  · cases hiv
end
end
section
def mx_MQ (below : List Frame) (Qc : Array Value → State → Outcome → State → Prop) (a : Array Value) (s : State) (mc ms : Nat) (free : Addr → Prop) : State → Prop := fun t =>
  ∃ o, t.status = .running ∧ Ended t below o ∧ Qc a s o t ∧ ∃ L, (s.WarmedH t.vm ∧ s.sameButNew ({ t with vm := s.vm } : State) L mc ms) ∧ ∀ q ∈ L, free q.base
theorem mx_mono {p : Program} {l : Launch} {e : Env} {R : Room} {s : State} {m : MethodId} {args : Array Value} {below : List Frame} {meth : Method} {c : Code} {H : Heap} {locs : List Loc} {cells slots : Nat} {Q Q' : State → Prop} {g : JFrame} (h : ∀ t, Q t → Q' t) (k : W p l e R s m args below meth c H locs cells slots Q g) : W p l e R s m args below meth c H locs cells slots Q' g := fun T hT X => by
  obtain ⟨t, a, b⟩ := k T hT X
  exact ⟨t, a, h t b⟩
theorem mx_MQ_of {below : List Frame} {Qc : Array Value → State → Outcome → State → Prop} {a : Array Value} {s : State} {mc ms : Nat} {free : Addr → Prop} : ∀ t, MQ below Qc a s mc ms free t → mx_MQ below Qc a s mc ms free t := fun t h => by
  obtain ⟨o, h1, h2, h3, L, ⟨-, h4, h5⟩, h6⟩ := h
  exact ⟨o, h1, h2, h3, L, ⟨h4, h5⟩, h6⟩
theorem mx_ofW {l : Launch} {mi : Nat} {rm : Room} {Pc : Array Value → State → Prop} {Qc : Array Value → State → Outcome → State → Prop} {mc ms : Nat} {free : Addr → Prop} (hy : plainFor (mx_y mi) = true)
    (body : ∀ p e s m args below meth c s₁, BodyLoose p l (mx_y mi) (headSpec (mx_cw mi :: wg) rm) (mx_b mi) (mx_mL mi) (mx_mt mi).2.1 e s m args below meth c s₁ → c.maxLocals = mx_mL mi → Pc args s →
      W p l e (headSpec (mx_cw mi :: wg) rm).room s m args below meth c s.heap [] 0 0 (mx_MQ below Qc args s mc ms free) (entryFrame m args (mx_mL mi))) : mx_Mx l (mx_y mi) (mx_cw mi :: wg) rm Pc Qc mc ms free := by
  refine Free.MetFree.of_bodySF (code := mx_b mi) (maxLocals := mx_mL mi) (ret := (mx_mt mi).2.1) hy ?_ ?_
  · intro args s m h hn
    have h0 := atoms_spec (ws := mx_cw mi :: wg) h _ List.mem_cons_self
    unfold mx_cw at h0
    split at h0
    · obtain ⟨meth, c, h1, h2, h3, h4, h5, h6, -, -⟩ := Cond.code_spec hn h0
      exact ⟨meth, c, h1, h2, h3, h4, h5, h6⟩
    · obtain ⟨m9, meth, c, hn9, h1, h2, h3, h4, -, h5, h6, -⟩ := Cond.codeWith_spec h0
      cases hn.symm.trans hn9
      exact ⟨meth, c, h1, h2, h3, h4, h5, h6⟩
  · intro p e s m args below meth c s₁ B hml hP _
    have hh0 : s₁.heap = s.heap := by rw [B.state]; rfl
    obtain ⟨t, a1, o, b1, b2, b3⟩ := body p e s m args below meth c s₁ B hml hP s₁ hh0 (Stand.of_body B)
    exact ⟨t, o, a1, b1, b2, ⟨b3.1, b3.2⟩⟩
section
variable {p : Program} {l : Launch} {e : Env} {R : Room} {s0 : State} {m : MethodId} {args : Array Value} {below : List Frame} {meth : Method} {c : Code} {Q : State → Prop} {md : Bool} {D : va_G} {ca : Nat → ClassId} {bs maxL : Nat} {L : mLV} {S : List mAV} {s : mSt} {u : Nat × Nat}
def mx_Cx (p : Program) (l : Launch) (R : Room) (s0 : State) (m : MethodId) (args : Array Value) (meth : Method) (c : Code) (md : Bool) (D : va_G) (ca : Nat → ClassId) (bs : Nat) (scr : mSc) (own mn : String) (cc : ByteArray) (maxL : Nat) (M : mMt) (cal : Nat → List mAV → mSt → mPo → (Nat → mSt → Prop) → Prop) : Prop :=
  p.tables.exec = Jvm.exec ∧ c.code = cc ∧ c.maxLocals = maxL ∧ s0.vm.findClass own = some m.cls ∧ meth.name = mn ∧ (∀ w ∈ wg, w.before args s0 = true) ∧ mx_VM D ca s0 ∧ va_X scr.1 scr.2.1 scr.2.2 s0 s0.heap ∧ scr.1 < bs ∧ bs ≤ s0.heap.size ∧ (M.2.2.1 ≤ R.cells ∧ M.2.2.2.1 ≤ R.slots) ∧ mx_Cal l R md D ca bs scr cal ∧ xt_T bs s0
theorem mx_blk_ok {scr : mSc} {own mn : String} {cc : ByteArray} {M : mMt} {cal : Nat → List mAV → mSt → mPo → (Nat → mSt → Prop) → Prop} {post : mPo} {ex : Nat → mSt → Prop} {q : Nat → mLV → mSt → Nat × Nat → Prop}
    (hCx : mx_Cx p l R s0 m args meth c md D ca bs scr own mn cc maxL M cal) (hcns : mx_cns M.1 = true) (hE : ∀ e0 ∈ M.1, mx_okE own mn cc maxL e0 = true)
    (hq : ∀ pc L s u, q pc L s u → mx_GA p l e R s0 m args below meth c Q md D ca bs maxL pc L [] s u)
    (hl8 : ∀ (k : List mEn → mLV → List mAV → mSt → Nat × Nat → Prop) e0 es L S s u, (∀ es L S s u, k es L S s u → mx_Sf M.1 es → ∀ pc, (∀ e r, es = e :: r → e.1 = pc) → mx_GA p l e R s0 m args below meth c Q md D ca bs maxL pc L S s u) → mx_Sf M.1 (e0 :: es) → mx_lat e0.2.2.1 = true → mx_stp md scr cal M post ex k e0 es L S s u → mx_GA p l e R s0 m args below meth c Q md D ca bs maxL e0.1 L S s u) :
    ∀ n b es L S s u, mx_blk md scr cal M post ex q n b es L S s u → mx_Sf M.1 es → ∀ pc, (∀ e r, es = e :: r → e.1 = pc) → mx_GA p l e R s0 m args below meth c Q md D ca bs maxL pc L S s u := by
  obtain ⟨hx, hb, hml, hown, hmn, hts, hV, hX, hXb, hbs, hR, hcal, hXT⟩ := hCx
  intro n
  induction n with
  | zero => exact fun _ _ _ _ _ _ h => False.elim h
  | succ n ih =>
    intro b es L S s u h hsf pc hpc
    cases es with
    | nil => exact False.elim h
    | cons e0 es =>
      obtain rfl : e0.1 = pc := hpc _ _ rfl
      have step : mx_stp md scr cal M post ex (mx_blk md scr cal M post ex q n false) e0 es L S s u → mx_GA p l e R s0 m args below meth c Q md D ca bs maxL e0.1 L S s u := fun h => mx_stp_a hx hb hown hts hV hX hXb hbs (hE e0 hsf.in) (mx_nx hcns hsf) hsf.tail (fun es L S s u h => ih false es L S s u h) (fun hlat h => hl8 _ e0 es L S s u (fun es L S s u h => ih false es L S s u h) hsf hlat h) h
      unfold mx_blk at h
      cases b with
      | true => exact step h
      | false =>
        dsimp only at h
        cases hc : e0.2.1 with
        | none =>
          rw [hc] at h
          exact step h
        | some lv =>
          rw [hc] at h
          cases S with
          | cons _ _ => exact False.elim h
          | nil =>
            intro H lcs ls hW hS hl hL hO hu hz
            exact hq _ _ _ _ h H lcs ls hW hS (mx_lv_pk hl) (fun x hx => hL x (mx_pk_in hx)) mx_oS_n hu hz
theorem mx_xq_ok {scr : mSc} {own mn : String} {cc : ByteArray} {M : mMt} {cal : Nat → List mAV → mSt → mPo → (Nat → mSt → Prop) → Prop} {post : mPo} {ex : Nat → mSt → Prop}
    (hCx : mx_Cx p l R s0 m args meth c md D ca bs scr own mn cc maxL M cal) (hcns : mx_cns M.1 = true) (hE : ∀ e0 ∈ M.1, mx_okE own mn cc maxL e0 = true)
    (hl8 : ∀ (k : List mEn → mLV → List mAV → mSt → Nat × Nat → Prop) e0 es L S s u, (∀ es L S s u, k es L S s u → mx_Sf M.1 es → ∀ pc, (∀ e r, es = e :: r → e.1 = pc) → mx_GA p l e R s0 m args below meth c Q md D ca bs maxL pc L S s u) → mx_Sf M.1 (e0 :: es) → mx_lat e0.2.2.1 = true → mx_stp md scr cal M post ex k e0 es L S s u → mx_GA p l e R s0 m args below meth c Q md D ca bs maxL e0.1 L S s u) :
    ∀ n pc L s u, mx_xq md scr cal M post ex n pc L s u → mx_GA p l e R s0 m args below meth c Q md D ca bs maxL pc L [] s u := by
  intro n
  induction n with
  | zero => exact fun _ _ _ _ h => False.elim h
  | succ n ih => exact fun pc L s u h => mx_blk_ok hCx hcns hE ih hl8 _ _ _ _ _ _ _ h (mx_jp_sf _ _) _ mx_jp_hd
end
end
section
theorem mx_rt0_o {S : List mAV} {r : Option FieldType} {P : Prop} (h : mx_rt0 S r P) : S = [] ∧ r = none ∧ P := by
  unfold mx_rt0 at h
  split at h
  · exact ⟨rfl, rfl, h⟩
  · exact False.elim h
theorem mx_rt1_o {S : List mAV} {r : Option FieldType} {x : Int32} {P : Prop} (h : mx_rt1 S r x P) : ∃ ty, S = [] ∧ r = some ty ∧ narrow ty (.int x) = .int x ∧ P := by
  unfold mx_rt1 at h
  split at h
  · exact ⟨.int, rfl, rfl, rfl, h⟩
  · exact ⟨.boolean, rfl, rfl, h.1, h.2⟩
  · exact ⟨.char, rfl, rfl, h.1, h.2⟩
  · exact False.elim h
theorem mx_rt2_o {S : List mAV} {r : Option FieldType} {P : Prop} (h : mx_rt2 S r P) : ∃ n, S = [] ∧ r = some (.object n) ∧ P := by
  unfold mx_rt2 at h
  split at h
  · exact ⟨_, rfl, rfl, h⟩
  · exact False.elim h
section
variable {p : Program} {l : Launch} {e : Env} {R : Room} {s0 : State} {m : MethodId} {args : Array Value} {below : List Frame} {meth : Method} {c : Code} {md : Bool} {D : va_G} {ca : Nat → ClassId} {bs maxL : Nat} {L : mLV} {S : List mAV} {s : mSt} {u : Nat × Nat}
theorem mx_endW {scr : mSc} {H : Heap} {lcs : List Loc} {t : State} (hV : mx_VM D ca s0) (hX : va_X scr.1 scr.2.1 scr.2.2 s0 s0.heap) (hXb : scr.1 < bs) (hbs : bs ≤ s0.heap.size) (hXT : xt_T bs s0) (hW : mx_WH md D ca bs s H) (hS : va_S (fun q => bs ≤ q) s0.heap H lcs) (hzz : md = false → H.size = bs + s.2.2.2) (ht : t.heap = H) (hWm : s0.WarmedH t.vm) : mx_WS md D ca bs scr s t := (mx_pre (av := []) hV hX hXb hbs hXT hW hS hzz t ht hWm).2
set_option maxHeartbeats 4000000 in
theorem mx_ret_ok {scr : mSc} {cal : Nat → List mAV → mSt → mPo → (Nat → mSt → Prop) → Prop} {M : mMt} {post : mPo} {ex : Nat → mSt → Prop} {k : List mEn → mLV → List mAV → mSt → Nat × Nat → Prop} {e0 : mEn} {es : List mEn} {own mn : String} {cc : ByteArray}
    (hCx : mx_Cx p l R s0 m args meth c md D ca bs scr own mn cc maxL M cal) (hRe : R.cells = M.2.2.1 ∧ R.slots = M.2.2.2.1) (hret : meth.sig.returnType = M.2.1) (hlk : meth.locks = false) (hE : mx_okE own mn cc maxL e0 = true)
    (hi : e0.2.2.1 = .return_ ∨ e0.2.2.1 = .ireturn ∨ e0.2.2.1 = .areturn)
    (h : mx_stp md scr cal M post ex k e0 es L S s u) : mx_GA p l e R s0 m args below meth c (mx_MQ below (mx_Q md D ca bs scr post ex) args s0 M.2.2.1 M.2.2.2.1 (fun q => bs ≤ q)) md D ca bs maxL e0.1 L S s u := by
  obtain ⟨hx, hb, hml, hown, hmn, hts, hV, hX, hXb, hbs, hR, hcal, hXT⟩ := hCx
  obtain ⟨pc, cut, ins, len, aux, ic, lc⟩ := e0
  have h9 := Bool.and_eq_true_iff.mp hE
  have hd : decode cc pc = .ok (ins, len) := of_decide_eq_true h9.1
  have hI := h9.2
  intro H lcs ls hW hS hl hL hO hu hz
  refine mx_szW (fun hsz => ?_)
  have hge := mx_ge hbs hW hS
  have hzz : md = false → H.size = bs + s.2.2.2 := fun hm => by
    have h1 := hz hm
    omega
  rw [hRe.1, hRe.2] at hu
  refine W.widen (k := M.2.2.1) (n := M.2.2.2.1) hu.1 hu.2 ?_
  rcases hi with hi | hi | hi
  · obtain rfl : ins = .return_ := hi
    obtain rfl : len = 1 := of_decide_eq_true hI
    obtain ⟨rfl, hr, h⟩ := mx_rt0_o (show mx_rt0 S M.2.1 _ from h)
    rw [hr] at hret
    exact mx_mono mx_MQ_of (W.vret hx hb hret (fun t ht hWm => ⟨Or.inl ⟨none, rfl, Or.inl ⟨rfl, s, h, mx_endW hV hX hXb hbs hXT hW hS hzz ht hWm⟩⟩, hS.F ht⟩) hS.2.2 hd hlk)
  · obtain rfl : ins = .ireturn := hi
    obtain rfl : len = 1 := of_decide_eq_true hI
    obtain ⟨x, S, rfl, h⟩ := mx_p1_o (show mx_p1 S _ from h)
    obtain ⟨ty, rfl, hM, hn, h⟩ := mx_rt1_o (show mx_rt1 S M.2.1 x _ from h)
    rw [hM] at hret
    exact mx_mono mx_MQ_of (W.zret (v := x) hx hb hret hn (fun t ht hWm => ⟨Or.inl ⟨_, rfl, Or.inr (Or.inl ⟨x, s, rfl, h, mx_endW hV hX hXb hbs hXT hW hS hzz ht hWm⟩)⟩, hS.F ht⟩) hS.2.2 hd hlk)
  · obtain rfl : ins = .areturn := hi
    obtain rfl : len = 1 := of_decide_eq_true hI
    obtain ⟨f, i, S, rfl, h⟩ := mx_rf_o (show mx_rf S _ from h)
    obtain ⟨n, rfl, hM, h⟩ := mx_rt2_o (show mx_rt2 S M.2.1 _ from h)
    rw [hM] at hret
    exact mx_mono mx_MQ_of (W.aret (v := .ref (bs + mx_num f i)) hx hb hret (Or.inl ⟨n, rfl⟩) (Or.inr ⟨_, rfl⟩) (fun t ht hWm => ⟨Or.inl ⟨_, rfl, Or.inr (Or.inr ⟨f, i, s, rfl, h, mx_oS_h hO, mx_endW hV hX hXb hbs hXT hW hS hzz ht hWm⟩)⟩, hS.F ht⟩) hS.2.2 hd hlk)
end
section
variable {p : Program} {l : Launch} {e : Env} {R : Room} {s0 : State} {m : MethodId} {args : Array Value} {below : List Frame} {meth : Method} {c : Code} {D : va_G} {ca : Nat → ClassId} {bs maxL : Nat} {L : mLV} {S : List mAV} {s : mSt} {u : Nat × Nat}
def mx_puC (mi : Nat) : Bool := (mx_mt mi).1.all (fun e => match e.2.2.1 with
  | .invokevirtual _ => mx_pu (e.2.2.2.2.1.headD 0)
  | .invokestatic _ => mx_pu (e.2.2.2.2.1.headD 0)
  | .invokespecial _ => match e.2.2.2.2.1 with
    | [] => true
    | a :: _ => mx_pu a
  | _ => true)
theorem mx_okC_o {mi : Nat} (h : mx_okC mi = true) : mx_cns (mx_mt mi).1 = true ∧ ((mx_mt mi).1.head?.map fun e => e.1) = some 0 ∧ ∀ e0 ∈ (mx_mt mi).1, mx_okE (mx_y mi).cls (mx_y mi).name (mx_b mi) (mx_mL mi) e0 = true ∧ (∀ n, e0.2.2.1 = .invokevirtual n → mx_iv (mx_y mi).cls (.invokevirtual n) e0.2.2.2.2.1 = true) ∧ (∀ n, e0.2.2.1 = .invokestatic n → mx_iv (mx_y mi).cls (.invokestatic n) e0.2.2.2.2.1 = true) ∧ ∀ n a r, e0.2.2.1 = .invokespecial n → e0.2.2.2.2.1 = a :: r → mx_iv (mx_y mi).cls (.invokespecial n) (a :: r) = true := by
  unfold mx_okC at h
  obtain ⟨h1, h⟩ := Bool.and_eq_true_iff.mp h
  obtain ⟨h2, h⟩ := Bool.and_eq_true_iff.mp h
  refine ⟨h1, of_decide_eq_true h2, fun e0 he => ?_⟩
  have h3 := List.all_eq_true.mp h e0 he
  obtain ⟨h4, h5⟩ := Bool.and_eq_true_iff.mp h3
  refine ⟨h4, fun n hn => ?_, fun n hn => ?_, fun n a r hn ha => ?_⟩
  · rw [hn] at h5
    exact h5
  · rw [hn] at h5
    exact h5
  · rw [hn] at h5
    dsimp only at h5
    rw [ha] at h5
    exact h5
theorem mx_lat_t {scr : mSc} {cal : Nat → List mAV → mSt → mPo → (Nat → mSt → Prop) → Prop} {mi : Nat} {post : mPo} {ex : Nat → mSt → Prop} {k : List mEn → mLV → List mAV → mSt → Nat × Nat → Prop} {e0 : mEn} {es : List mEn}
    (hCx : mx_Cx p l R s0 m args meth c true D ca bs scr (mx_y mi).cls (mx_y mi).name (mx_b mi) maxL (mx_mt mi) cal) (hmL : maxL = mx_mL mi) (hRe : R.cells = (mx_mt mi).2.2.1 ∧ R.slots = (mx_mt mi).2.2.2.1) (hret : meth.sig.returnType = (mx_mt mi).2.1) (hlk : meth.locks = false)
    (hMs : ∀ mi, mi < mx_nM → mx_okM mi = true) (hC : mx_okC mi = true) (hpu : mx_pu mi = true) (hpC : mx_puC mi = true)
    (hk : ∀ es L S s u, k es L S s u → mx_Sf (mx_mt mi).1 es → ∀ pc, (∀ e r, es = e :: r → e.1 = pc) → mx_GA p l e R s0 m args below meth c (mx_MQ below (mx_Q true D ca bs scr post ex) args s0 (mx_mt mi).2.2.1 (mx_mt mi).2.2.2.1 (fun q => bs ≤ q)) true D ca bs maxL pc L S s u)
    (hsf : mx_Sf (mx_mt mi).1 (e0 :: es)) (hlat : mx_lat e0.2.2.1 = true) (h : mx_stp true scr cal (mx_mt mi) post ex k e0 es L S s u) : mx_GA p l e R s0 m args below meth c (mx_MQ below (mx_Q true D ca bs scr post ex) args s0 (mx_mt mi).2.2.1 (mx_mt mi).2.2.2.1 (fun q => bs ≤ q)) true D ca bs maxL e0.1 L S s u := by
  subst hmL
  obtain ⟨hcns, -, hall⟩ := mx_okC_o hC
  obtain ⟨hE, hv, hs, hi⟩ := hall e0 hsf.in
  have hnx := mx_nx hcns hsf
  have hpu2 : ∀ n, e0.2.2.1 = .invokevirtual n ∨ e0.2.2.1 = .invokestatic n → mx_pu (e0.2.2.2.2.1.headD 0) = true := fun n h9 => by
    have h8 := List.all_eq_true.mp hpC e0 hsf.in
    rcases h9 with h9 | h9
    · rw [h9] at h8
      exact h8
    · rw [h9] at h8
      exact h8
  have hpu3 : ∀ n a r, e0.2.2.1 = .invokespecial n → e0.2.2.2.2.1 = a :: r → mx_pu a = true := fun n a r h9 h7 => by
    have h8 := List.all_eq_true.mp hpC e0 hsf.in
    rw [h9] at h8
    dsimp only at h8
    rw [h7] at h8
    exact h8
  have hret9 := mx_ret_ok (e := e) (below := below) (k := k) (es := es) (L := L) (S := S) (s := s) (u := u) (post := post) (ex := ex) hCx hRe hret hlk hE
  obtain ⟨hx, hb, hml, hown, hmn, hts, hV, hX, hXb, hbs, hR, hcal, hXT⟩ := hCx
  obtain ⟨pc, cut, ins, len, aux, ic, lc⟩ := e0
  have hd : decode (mx_b mi) pc = .ok (ins, len) := of_decide_eq_true (Bool.and_eq_true_iff.mp hE).1
  have hI := (Bool.and_eq_true_iff.mp hE).2
  cases ins with
  | new n =>
    obtain ⟨z, r, rfl, h⟩ := mx_aq_o (show mx_aq aux _ from h)
    obtain ⟨ci, r, rfl, h⟩ := mx_aq_o (show mx_aq r _ from h)
    cases z with
    | zero => exact False.elim h
    | succ z =>
      have h9 := (mx_pu_o hpu).2
      generalize (mx_mt mi) = M at h h9
      obtain ⟨M1, M2, M3, M4, M5, M6⟩ := M
      obtain rfl : M6 = false := h9
      exact False.elim h
  | newarray n => exact False.elim h
  | anewarray n =>
    obtain ⟨z, r, rfl, h⟩ := mx_aq_o (show mx_aq aux _ from h)
    exact False.elim h
  | aastore =>
    obtain ⟨g, y, S, rfl, h⟩ := mx_rf_o (show mx_rf S _ from h)
    obtain ⟨j, f, i, S, rfl, h⟩ := mx_ix_o (show mx_ix S _ from h)
    obtain ⟨-, h⟩ := mx_eq_o (show mx_eq (mx_fK f) 5 _ from h)
    exact False.elim h
  | putfield n => exact mx_put_ok hx hb hown hmn hts hV hE hnx hsf.tail hk h
  | invokevirtual n =>
    obtain rfl : len = 3 := of_decide_eq_true hI
    exact mx_inv_ok hx hb hml hown hts hV hX hXb hbs hXT hR hMs hcal hd (hv n rfl) hnx hsf.tail hk (fun a r ha => mx_pu_o (by have h9 := hpu2 n (Or.inl rfl); rw [show aux = a :: r from ha] at h9; exact h9)) h
  | invokestatic n =>
    obtain rfl : len = 3 := of_decide_eq_true hI
    exact mx_inv_ok hx hb hml hown hts hV hX hXb hbs hXT hR hMs hcal hd (hs n rfl) hnx hsf.tail hk (fun a r ha => mx_pu_o (by have h9 := hpu2 n (Or.inr rfl); rw [show aux = a :: r from ha] at h9; exact h9)) h
  | invokespecial n =>
    obtain rfl : len = 3 := of_decide_eq_true (Bool.and_eq_true_iff.mp (show (decide (len = 3) && mx_ok0 _ n aux) = true from hI)).1
    cases aux with
    | nil => exact False.elim h
    | cons a r => exact mx_inv_ok hx hb hml hown hts hV hX hXb hbs hXT hR hMs hcal hd (hi n a r rfl rfl) hnx hsf.tail hk (fun a' r' ha => by cases ha; exact mx_pu_o (hpu3 n a r rfl rfl)) h
  | return_ => exact hret9 (Or.inl rfl) h
  | ireturn => exact hret9 (Or.inr (Or.inl rfl)) h
  | areturn => exact hret9 (Or.inr (Or.inr rfl)) h
  | _ => cases hlat
end
def mx_all : Prop := (∀ mi, mi < mx_nM → mx_okM mi = true) ∧ ∀ mi, mi < mx_nM → mx_pu mi = true → mx_okC mi = true ∧ mx_puC mi = true
theorem mx_wt_sl (bs : Nat) : ∀ as : List mAV, (lg_sl (as.map (mx_vv bs))).length = mx_wt as
  | [] => rfl
  | v :: as => by
    have ih := mx_wt_sl bs as
    have e1 : lg_sl ((v :: as).map (mx_vv bs)) = (if (mx_vv bs v).category = 2 then [Slot.val (mx_vv bs v), Slot.second] else [Slot.val (mx_vv bs v)]) ++ lg_sl (as.map (mx_vv bs)) := rfl
    rw [e1, List.length_append, ih, mx_vvc]
    rcases v with x | y | ⟨f, i⟩ | a
    · rfl
    · rfl
    · rfl
    · rfl
theorem mx_pure1 {l : Launch} {D : va_G} {ca : Nat → ClassId} {bs : Nat} {scr : mSc} {d mi : Nat} {as : List mAV} {s : mSt} {post : mPo} {ex : Nat → mSt → Prop} (hall : mx_all) (hmi : mi < mx_nM) (hpu : mx_pu mi = true) (hO : mx_oS s as)
    (hCal : ∀ R : Room, d + 8 ≤ R.frames → 40 * d + 200 ≤ R.locals → mx_Cal l R true D ca bs scr (mx_XW true scr d)) (h : mx_XW true scr (d + 1) mi as s post ex) : mx_CT l true D ca bs scr d mi as s post ex := by
  obtain ⟨hC, hpC⟩ := hall.2 mi hmi hpu
  obtain ⟨hcns, hhd, hE⟩ := mx_okC_o hC
  obtain ⟨o1, o2, o3, o4, o5, -⟩ := mx_okM_o (hall.1 mi hmi)
  obtain ⟨hle, n, h⟩ := mx_eq_o (show mx_eq (Nat.ble (mx_wt as) (mx_mLs.getD mi 0)).toNat 1 _ from h)
  have hle : mx_wt as ≤ mx_mLs.getD mi 0 := Nat.le_of_ble_eq_true (by cases hb9 : Nat.ble (mx_wt as) (mx_mLs.getD mi 0) with
    | true => rfl
    | false => rw [hb9] at hle; cases hle)
  rw [mx_mLs_eq mi hmi] at hle
  refine mx_ofW o5 (fun p e s0 m args below meth c s₁ B hml hv => ?_)
  obtain ⟨rfl, hWS⟩ := hv
  have hts0 := atoms_spec (ws := mx_cw mi :: wg) B.pre
  have hts : ∀ w ∈ wg, w.before _ s0 = true := fun w h => hts0 w (List.mem_cons_of_mem _ h)
  have hown := findClass_of_methodNamed B.named
  have hl := lv_entry (as.map (mx_vv bs)) (n := mx_mL mi) (by rw [mx_wt_sl]; exact hle)
  rw [lg_entry_eq]
  generalize (lg_sl (as.map (mx_vv bs)) ++ List.replicate (mx_mL mi - (lg_sl (as.map (mx_vv bs))).length) Slot.unset).toArray = ls at hl ⊢
  rw [mx_lv_args] at hl
  have hCx : mx_Cx p l (mx_rm d mi) s0 m (as.map (mx_vv bs)).toArray meth c true D ca bs scr (mx_y mi).cls (mx_y mi).name (mx_b mi) (mx_mL mi) (mx_mt mi) (mx_XW true scr d) :=
    ⟨B.exec, B.bytes, hml, hown, (name_of_methodNamed B.named B.method).1, hts, hWS.2.1, hWS.2.2.2.1.1, hWS.2.2.2.1.2, hWS.2.2.1, ⟨Nat.le_refl _, Nat.le_refl _⟩, hCal _ (Nat.le_refl _) (Nat.le_refl _), hWS.2.2.2.2.2⟩
  have hE9 : ∀ e0 ∈ (mx_mt mi).1, mx_okE (mx_y mi).cls (mx_y mi).name (mx_b mi) (mx_mL mi) e0 = true := fun e0 he => (hE e0 he).1
  have hl8 := fun (k : List mEn → mLV → List mAV → mSt → Nat × Nat → Prop) e0 es L S s u hk hsf hlat h => mx_lat_t (below := below) (e := e) (post := post) (ex := ex) (k := k) (e0 := e0) (es := es) (L := L) (S := S) (s := s) (u := u) hCx rfl ⟨rfl, rfl⟩ B.returns B.notSynchronized hall.1 hC hpu hpC hk hsf hlat h
  refine mx_blk_ok hCx hcns hE9 (mx_xq_ok hCx hcns hE9 hl8 n) hl8 _ _ _ _ _ _ _ h ⟨[], rfl⟩ 0 (fun e r he => ?_) s0.heap [] ls hWS.1 va_S.rf hl (mx_oL_args hO) mx_oS_n ⟨Nat.zero_le _, Nat.zero_le _⟩ (fun h => by cases h)
  rw [he] at hhd
  exact Option.some.inj hhd
theorem mx_pure (l : Launch) (D : va_G) (ca : Nat → ClassId) (bs : Nat) (scr : mSc) (hall : mx_all) : ∀ d mi as s post ex, mi < mx_nM → mx_pu mi = true → mx_oS s as → mx_XW true scr (d + 1) mi as s post ex → mx_CT l true D ca bs scr d mi as s post ex := by
  intro d
  induction d with
  | zero => exact fun mi as s post ex hmi hpu hO h => mx_pure1 hall hmi hpu hO (fun R _ _ _ _ _ _ _ _ _ _ h => False.elim h) h
  | succ d ih => exact fun mi as s post ex hmi hpu hO h => mx_pure1 hall hmi hpu hO (fun R h1 h2 mi as s post ex hmi hpu hO h => ⟨d, ih mi as s post ex hmi hpu hO h, by omega, by omega⟩) h
end
section
section
variable {p : Program} {l : Launch} {e : Env} {R : Room} {s : State} {m : MethodId} {args : Array Value} {below : List Frame} {meth : Method} {c : Code} {T : State} {locs : List Loc} {cells slots : Nat}
theorem xt_rebase (X : Stand p l e R s m args below meth c T locs cells slots) (hc : cells ≤ R.cells) (hs : slots ≤ R.slots) : Stand p l e { R with cells := R.cells - cells, slots := R.slots - slots } { s with heap := T.heap, slotsUsed := T.slotsUsed } m args below meth c T [] 0 0 := by
  refine ⟨X.admits, X.cas, X.clock, X.frames, ?_, X.hears, X.method, X.code, X.here, X.tail, X.warmed, X.limits, X.bytes, ?_⟩
  · have h := X.room
    have h1 := X.heapSize
    have h2 := X.used
    have h3 := X.book
    simp only [State.hasRoom, Bool.and_eq_true, decide_eq_true_eq] at h ⊢
    obtain ⟨⟨⟨⟨r1, r2⟩, r3⟩, r4⟩, r5⟩ := h
    refine ⟨⟨⟨⟨r1, r2⟩, ?_⟩, ?_⟩, h3⟩
    · show T.heap.size + (R.cells - cells) ≤ _
      omega
    · show T.slotsUsed + (R.slots - slots) ≤ _
      omega
  · refine ⟨X.same.1, Nat.le_refl _, Nat.le_refl _, ?_, ?_, fun a c h => ⟨c, h, rfl, rfl, fun _ _ => rfl⟩⟩
    · show T.slotsUsed = T.slotsUsed + ((T.heap.toList.drop T.heap.size).map (·.slots.size)).sum
      rw [List.drop_of_length_le (by simp)]
      rfl
    · show ((T.heap.toList.drop T.heap.size).map (·.slots.size)).sum ≤ 0
      rw [List.drop_of_length_le (by simp)]
      exact Nat.le_refl _
end
def xt_i (kk : Nat) : Nat := match kk with
  | 1 => 59
  | 2 => 66
  | _ => 72
def xt_c (kk : Nat) : Nat := match kk with
  | 1 => 57
  | 2 => 64
  | _ => 70
def xt_names : List String := ["java/lang/RuntimeException", "java/lang/Exception"]
def xt_okA (kk : Nat) : Bool := (Bundle.ownAtoms0 R_Rs (xt_i kk) (xt_n kk) xt_names).all (fun w => (decide (w ∈ lw_tbl) && (w.onTables && w.keeps)) || decide (w ∈ xt_ws ++ xt_hs))
set_option maxRecDepth 100000 in
theorem xt_ok1 : xt_okA 1 = true := by decide +kernel
set_option maxRecDepth 100000 in
theorem xt_ok2 : xt_okA 2 = true := by decide +kernel
set_option maxRecDepth 100000 in
theorem xt_ok3 : xt_okA 3 = true := by decide +kernel
end
section
def xt_wp (kk : Nat) : Nat × Nat × Nat := match kk with
  | 1 => (349, 350, 56)
  | 2 => (416, 417, 57)
  | _ => (442, 443, 58)
theorem xt_wk {kk : Nat} (hk : kk = 1 ∨ kk = 2 ∨ kk = 3) : Cond.classLink R_Rs (xt_c kk) (xt_n kk) ∈ wg ∧ Cond.instantiable (xt_n kk) 6 ∈ wg ∧ Cond.initialized (xt_n kk) ∈ wg := by
  have h : mx_wd (xt_wp kk).1 (.classLink R_Rs (xt_c kk) (xt_n kk)) = true ∧ mx_wd (xt_wp kk).2.1 (.instantiable (xt_n kk) 6) = true ∧ mx_wd (xt_wp kk).2.2 (.initialized (xt_n kk)) = true := by
    rcases hk with rfl | rfl | rfl
    · decide +kernel
    · decide +kernel
    · decide +kernel
  exact ⟨mx_wd_g h.1 rfl, mx_wd_g h.2.1 rfl, mx_wd_g h.2.2 rfl⟩
theorem xt_at {bs kk : Nat} {args : Array Value} {s s' : State} (hk : kk = 1 ∨ kk = 2 ∨ kk = 3) (hts : ∀ w ∈ wg, w.before args s = true) (hXT : xt_T bs s) (hv : s.vm = s'.vm) (hh : ∀ q, q < bs → s'.heap[q]? = s.heap[q]?) : ∀ w ∈ Bundle.ownAtoms0 R_Rs (xt_i kk) (xt_n kk) xt_names, w.before args s' = true := by
  intro w hw
  have hok : xt_okA kk = true := by
    rcases hk with rfl | rfl | rfl
    · exact xt_ok1
    · exact xt_ok2
    · exact xt_ok3
  have h1 := List.all_eq_true.mp hok w hw
  rcases Bool.or_eq_true_iff.mp h1 with h | h
  · obtain ⟨h2, h3⟩ := Bool.and_eq_true_iff.mp h
    have h4 : goodWord w = true := by
      unfold goodWord
      split
      · rfl
      · exact h3
    exact va_tabs (Bool.and_eq_true_iff.mp h3).1 hv (hts w (wg_in (of_decide_eq_true h2) h4))
  · exact hXT.full (by rw [← hv]; exact State.WarmedH.refl s) hh w (of_decide_eq_true h)
section
variable {p : Program} {l : Launch} {e : Env} {R : Room} {s0 : State} {m : MethodId} {args : Array Value} {below : List Frame} {meth : Method} {c : Code} {Q : State → Prop} {H : Heap} {lcs : List Loc} {cells slots : Nat} {bs : Nat}
def xt_Q (s' : State) (H : Heap) (below : List Frame) (kk : Nat) (t : State) : Prop := ∃ a, t.status = .running ∧ Ended t below (.threw a) ∧ s'.WarmedH t.vm ∧ s'.sameButNew ({ t with vm := s'.vm } : State) [] 1 6 ∧ ∃ cell, t.heap[a]? = some cell ∧ cell.vm = .none ∧ s'.vm.findClass (xt_n kk) = some cell.cls
theorem xt_throw {cc : ByteArray} {pc kk : Nat} {ls : Array Slot} (hx : p.tables.exec = Jvm.exec) (hb : c.code = cc) (hls : ls.size = c.maxLocals) (hown : s0.vm.findClass R_Rs = some m.cls) (hlk : meth.locks = false) (hts : ∀ w ∈ wg, w.before args s0 = true) (hXT : xt_T bs s0) (hbs : bs ≤ s0.heap.size) (hS : va_S (fun q => bs ≤ q) s0.heap H lcs)
    (htr : ∀ e, l.admits e → e.platform.stackTraces = false) (hk : kk = 1 ∨ kk = 2 ∨ kk = 3) (hw1 : Cond.classLink R_Rs (xt_c kk) (xt_n kk) ∈ wg) (hw2 : Cond.instantiable (xt_n kk) 6 ∈ wg) (hw3 : Cond.initialized (xt_n kk) ∈ wg)
    (hd1 : decode cc pc = .ok (.new (xt_c kk), 3)) (hd2 : decode cc (pc + 3) = .ok (.dup, 1)) (hd3 : decode cc (pc + 4) = .ok (.invokespecial (xt_i kk), 3)) (hd4 : decode cc (pc + 7) = .ok (.athrow, 1)) (hout : ∀ x ∈ c.exceptionTable.toList, covers x (pc + 7) = false)
    (hcl : cells + 1 ≤ R.cells ∧ slots + 6 ≤ R.slots) (hrm : 8 ≤ R.frames ∧ 200 ≤ R.locals)
    (hQ : ∀ t a, t.status = .running → Ended t below (.threw a) → s0.WarmedH t.vm → s0.sameButNew ({ t with vm := s0.vm } : State) lcs (cells + 1) (slots + 6) → H.size ≤ t.heap.size → (∀ q, q < H.size → t.heap[q]? = H[q]?) → (∃ cell, t.heap[a]? = some cell ∧ cell.vm = .none ∧ s0.vm.findClass (xt_n kk) = some cell.cls) → Q t) : W p l e R s0 m args below meth c H lcs cells slots Q (F0 m pc ls []) := by
  intro T hT X
  have X' := xt_rebase X (by omega) (by omega)
  have hh9 : ∀ q, q < bs → ({ s0 with heap := T.heap, slotsUsed := T.slotsUsed } : State).heap[q]? = s0.heap[q]? := fun q hq => by
    show T.heap[q]? = _
    rw [hT]
    exact hS.2.1 q (Nat.lt_of_lt_of_le hq hbs) (Nat.not_le.mpr hq)
  have hat := xt_at (s' := ({ s0 with heap := T.heap, slotsUsed := T.slotsUsed } : State)) hk hts hXT rfl hh9
  have hsz : ({ s0 with heap := T.heap, slotsUsed := T.slotsUsed } : State).heap.size = H.size := by
    show T.heap.size = _
    rw [hT]
  generalize hs' : ({ s0 with heap := T.heap, slotsUsed := T.slotsUsed } : State) = s' at X' hat hsz
  have hv' : s'.vm = s0.vm := by rw [← hs']
  have hg : ∀ w ∈ wg, w.onTables = true → w.before args s' = true := fun w hw ho => va_tabs ho hv'.symm (hts w hw)
  have K : W p l e { R with cells := R.cells - cells, slots := R.slots - slots } s' m args below meth c H [] 0 0 (xt_Q s' H below kk) (F0 m pc ls []) := by
    refine W.newc hx hb (own := R_Rs) (C := xt_n kk) (n := 6) (by rw [hv']; exact hown) (hg _ hw1 rfl) (hg _ hw2 rfl) (hg _ hw3 rfl) rfl hd1 (by show 0 + 1 ≤ R.cells - cells; omega) (by show 0 + 6 ≤ R.slots - slots; omega) (fun cC kC f1 f2 f3 f4 => ?_)
    refine lv_dup hx hb hd2 rfl ?_
    intro T2 hT2 X2
    have hfit : Bundle.fit (xt_n kk) = true := by
      rcases hk with rfl | rfl | rfl
      · decide
      · decide
      · decide
    obtain ⟨U, st, hrun, hend, hWU, hsame, ce, hce, hoc⟩ := X2.ctorThrow0 hx (htr e X2.admits) (own := R_Rs) (cls := xt_n kk) (names := xt_names) (ic := xt_i kk) (by rw [hv']; exact hown) hfit (by decide) hat (fun x hx => absurd hx List.not_mem_nil)
      (a := H.size) (cX := cC) (kX := kC) f1 f2 (by rw [hT2]; simp [freshCell]) (by rw [hsz]; exact Nat.le_refl _) (g := F0 m (pc + 4) ls [.ref H.size, .ref H.size]) rfl hls rfl rfl (rest := []) rfl (by rw [hb]; exact hd3) (by rw [hb]; exact hd4) hout (by show 2 + 3 < R.frames; omega) (by show 2 * 0 + 1 + (13 * (2 + 1) + 41) ≤ R.locals; omega) hlk
    exact ⟨U, st, H.size, hrun, hend, hWU, hsame, ce, hce, hoc.vm, hoc.cls⟩
  obtain ⟨t, st, a, h1, h2, h3, h4, cell, h5, h6, h7⟩ := K T hT X'
  refine ⟨t, st, hQ t a h1 h2 ?_ ?_ ?_ ?_ ⟨cell, h5, h6, by rw [← hv']; exact h7⟩⟩
  · rw [← hs'] at h3
    exact h3
  · rw [← hs'] at h4
    have e1 := X.same.1
    have e2 : s0.sameButNew ({ t with vm := s0.vm } : State) (lcs ++ []) (cells + 1) (slots + 6) := by
      refine X.same.trans (t := T.setVm s0.vm) ⟨?_, h4.2.1, h4.2.2.1, h4.2.2.2.1, h4.2.2.2.2.1, h4.2.2.2.2.2⟩
      refine h4.1.trans ?_
      generalize ({ t with vm := ({ s0 with heap := T.heap, slotsUsed := T.slotsUsed } : State).vm } : State).frames = F
      rw [e1]
      show ({ s0.setFrames F with heap := t.heap, slotsUsed := t.slotsUsed } : State) = { (s0.setFrames (T.setVm s0.vm).frames).setFrames F with heap := t.heap, slotsUsed := t.slotsUsed }
      rw [State.setFrames_setFrames]
    rw [List.append_nil] at e2
    exact e2
  · have h8 := h4.2.1
    rw [hsz] at h8
    exact h8
  · intro q hq
    have h8 : s'.heap[q]? = H[q]? := by
      rw [← hs']
      show T.heap[q]? = _
      rw [hT]
    have h9 : H[q]? = some H[q] := Array.getElem?_eq_getElem hq
    rw [h9]
    exact h4.old_cell (h8.trans h9)
end
end
section
section
variable {p : Program} {l : Launch} {e : Env} {R : Room} {s : State} {m : MethodId} {args : Array Value} {below : List Frame} {meth : Method} {c : Code} {T : State} {locs : List Loc} {cells slots : Nat}
theorem xt_go {y : MethodName} {ws : List Cond} {rm : Room} {Pc : Array Value → State → Prop} {Qc : Array Value → State → Outcome → State → Prop} {mc ms : Nat} {free : Addr → Prop} {a : Array Value} (hM : mx_Mx l y ws rm Pc Qc mc ms free) (hblind : FrameBlind Pc) (hrc : rm.cells = mc) (hrs : rm.slots = ms) (hfr : rm.frames + 1 ≤ R.frames)
    (X : Stand p l e R s m args below meth c T locs cells slots) {g : JFrame} (hg : g.method = m) (hsize : g.locals.size = c.maxLocals) {ig : Instr} {len : Nat} (hdg : decode c.code g.pc = .ok (ig, len))
    {mk : MethodId} (hn : T.methodNamed? y = some mk) {methY : Method} {cY : Code} (hmY : T.vm.method? mk = some methY) (hcY : methY.code = some cY) (hlo : 2 * g.monitorRoom + (g.stack.map fun v => v.category).sum + (cY.maxLocals + 11) + rm.locals ≤ R.locals)
    {kY : Class} (hkY : T.vm.classes[mk.cls]? = some kY) (hini : kY.init = .initialized) (hws : ∀ w ∈ ws, w.before a T = true) (hPc : Pc a T) (hf : cells + mc ≤ R.cells ∧ slots + ms ≤ R.slots) :
    ∃ (o : Outcome) (t T' : State) (L : List Loc), (∀ q ∈ L, free q.base) ∧ Stand p l e R s m args below meth c T' (locs ++ L) (cells + mc) (slots + ms) ∧ T'.heap = t.heap ∧ T'.vm = t.vm ∧ Qc a (T.calling g mk a) o t ∧
      ((∃ v, o = .returned v ∧ Steps p.tables e below (doInvoke e (T.setTop g) [] mk a).1 (T'.setTop { g with pc := g.pc + len, stack := v.toList ++ g.stack })) ∨ ∃ x, o = .threw x ∧ Steps p.tables e below (doInvoke e (T.setTop g) [] mk a).1 ((T'.setTop g).pushFrame (.throwing x))) := by
  have h : At T g.method c below := by rw [hg]; exact X.here
  have happ : (headSpec ws rm).appliesLoose y e.platform (T.calling g mk a) = true :=
    Spec.appliesLoose_calling (g := g) h hdg hn hkY hini (X.room_calling (g := g) (R' := rm) hsize hmY hcY hfr hlo (by rw [hrc]; exact hf.1) (by rw [hrs]; exact hf.2)) (atoms_intro hws)
  have hfs : (T.setTop g).frames = .java g :: below := by
    rw [State.frames_setTop' g h.top, X.tail]
  obtain ⟨o, t, hsteps, hrun, hend, hq, L, ⟨hW, hsame⟩, hL⟩ := Free.Steps.callFree hM p X.admits X.cas X.clock (acts := []) (mid := [.java g]) (below := below) hfs happ (hblind _ _ _ _ hPc) trivial
  rw [hfs] at hend
  cases o with
  | returned v =>
    obtain ⟨T', X', -, -, he⟩ := X.outOf hg hdg (mk := mk) (a := a) hend hW hsame
    exact ⟨_, t, T', L, hL, X', by rw [he]; rfl, by rw [he]; rfl, hq, Or.inl ⟨v, rfl, by rw [← he]; exact hsteps⟩⟩
  | threw x =>
    obtain ⟨T', X', -, -, he⟩ := X.outOfThrown hg (mk := mk) (a := a) hend hW hsame
    exact ⟨_, t, T', L, hL, X', by rw [he]; rfl, by rw [he]; rfl, hq, Or.inr ⟨x, rfl, by rw [← he]; exact hsteps⟩⟩
end
end
section
def xt_Fd (e : Env) (s : State) (f : JFrame) (a : Addr) (rows : List ExceptionTableEntry) (h : Handler) (vm' : Vm) : Prop := ∀ (Q : Handler → Pre) (E : CtlPost) (d : Bool) (acts : List Action), wp (findHandler.go f a rows) Q E e d acts s ↔ Q h d acts (s.setVm vm')
theorem xt_row {e : Env} {s : State} {f : JFrame} {a : Addr} {x : ExceptionTableEntry} {t : List ExceptionTableEntry} {c : ClassId} {cell : Cell} {Q : Handler → Pre} {E : CtlPost} {d : Bool} {acts : List Action} (hx : covers x f.pc = true) (h0 : x.catchType ≠ 0)
    (hl : s.vm.ClassLinks e.platform f.method.cls x.catchType c) (hcell : s.heap[a]? = some cell) (hobj : ∀ k, cell.vm ≠ .statics k) (hk : ∃ k, s.vm.classes[cell.cls]? = some k) (hc : ∃ k, s.vm.classes[c]? = some k) :
    wp (findHandler.go f a (x :: t)) Q E e d acts s ↔ if s.vm.assignable cell.cls c = true then Q (.found x.handlerPc) d acts (s.setVm (s.vm.noted f.method.cls x.catchType (.cls c))) else wp (findHandler.go f a t) Q E e d acts (s.setVm (s.vm.noted f.method.cls x.catchType (.cls c))) := by
  have hal : s.vm.Alike (s.vm.noted f.method.cls x.catchType (.cls c)) := (Vm.Alike.refl s.vm).noted _ _ _
  obtain ⟨k1, hk1⟩ := hk
  obtain ⟨k2, hk2⟩ := hc
  obtain ⟨j1, hj1, -⟩ := hal.2.2 _ _ hk1
  obtain ⟨j2, hj2, -⟩ := hal.2.2 _ _ hk2
  have has := hal.assignable cell.cls c
  obtain ⟨r1, r2⟩ := (resolveClass_links e.toSetting hl).op (op := VmOp.resolveClass f.method.cls x.catchType) rfl
  simp only [covers] at hx
  by_cases hb : s.vm.assignable cell.cls c = true
  · rw [if_pos hb]
    rw [hb] at has
    simp [findHandler.go, hx, h0, r1, r2, hcell, hobj, hj1, hj2, has, VmOp.dirties, VmOp.acts]
  · rw [if_neg hb]
    rw [Bool.eq_false_iff.mpr hb] at has
    simp [findHandler.go, hx, h0, r1, r2, hcell, hobj, hj1, hj2, has, VmOp.dirties, VmOp.acts]
def xt_Rw (own : String) : List ExceptionTableEntry → List (Nat × Nat × Nat × Nat) → Prop
  | [], [] => True
  | x :: xs, (a, b, h, j) :: hs => x.startPc = a ∧ x.endPc = b ∧ x.handlerPc = h ∧ x.catchType ≠ 0 ∧ (j = 1 ∨ j = 2 ∨ j = 3) ∧ Cond.classLink own x.catchType (xt_n j) ∈ wg ∧ xt_Rw own xs hs
  | _, _ => False
theorem xt_find {e : Env} {s0 : State} {args : Array Value} {f : JFrame} {a : Addr} {cell : Cell} {own : String} {bs kk : Nat} (hpl : e.platform.magicAccessors = ({} : Platform).magicAccessors) (hown : s0.vm.findClass own = some f.method.cls) (hts : ∀ w ∈ wg, w.before args s0 = true) (hXT : xt_T bs s0) (hk : kk = 1 ∨ kk = 2 ∨ kk = 3) (hcl : s0.vm.findClass (xt_n kk) = some cell.cls) (hobj : ∀ k, cell.vm ≠ .statics k) (hk0 : ∃ k, s0.vm.classes[cell.cls]? = some k) :
    ∀ (rows : List ExceptionTableEntry) (hs : List (Nat × Nat × Nat × Nat)) (h : Nat), xt_Rw own rows hs → mx_hd hs f.pc kk = some h → ∀ S : State, s0.WarmedH S.vm → S.heap[a]? = some cell → ∃ vm', s0.WarmedH vm' ∧ xt_Fd e S f a rows (.found h) vm' := by
  intro rows
  induction rows with
  | nil =>
    intro hs h hR hh
    cases hs with
    | nil => cases hh
    | cons y ys => exact False.elim hR
  | cons x xs ih =>
    intro hs h hR hh S hW hcell
    cases hs with
    | nil => exact False.elim hR
    | cons y ys =>
      obtain ⟨ya, yb, yh, yj⟩ := y
      obtain ⟨r1, r2, r3, r4, r5, r6, r7⟩ := (show x.startPc = ya ∧ x.endPc = yb ∧ x.handlerPc = yh ∧ x.catchType ≠ 0 ∧ (yj = 1 ∨ yj = 2 ∨ yj = 3) ∧ Cond.classLink own x.catchType (xt_n yj) ∈ wg ∧ xt_Rw own xs ys from hR)
      unfold mx_hd at hh
      by_cases hcov : covers x f.pc = true
      · obtain ⟨c', hc', hl⟩ := Cond.classLink_spec hown (hts _ r6) e.platform hpl
        obtain ⟨dk, _, _, kt, hd, _, _, _, _, hkt, _, hopen⟩ := hl.here
        have hW1 := hW.noted hd hopen (State.rightAt_cls hl)
        obtain ⟨k0, hk0⟩ := hk0
        obtain ⟨k0', hk0', -⟩ := hW.alike.2.2 _ _ hk0
        obtain ⟨kt', hkt', -⟩ := hW.alike.2.2 _ _ hkt
        have has : S.vm.assignable cell.cls c' = decide (yj = kk) := by
          rw [hW.alike.assignable]
          exact xt_asg hXT r5 hk hc' hcl
        have hcv : (Nat.ble ya f.pc && (Nat.blt f.pc yb && Nat.beq yj kk)) = decide (yj = kk) := by
          simp only [covers, Bool.and_eq_true, decide_eq_true_eq] at hcov
          rw [r1, r2] at hcov
          have g1 : Nat.ble ya f.pc = true := Nat.ble_eq.mpr hcov.1
          have g2 : Nat.blt f.pc yb = true := Nat.ble_eq.mpr hcov.2
          rw [g1, g2]
          cases hb : Nat.beq yj kk with
          | true => simp [Nat.eq_of_beq_eq_true hb]
          | false => simp [Nat.ne_of_beq_eq_false hb]
        rw [hcv] at hh
        by_cases hj : yj = kk
        · rw [decide_eq_true hj] at hh has
          cases hh
          exact ⟨_, hW1, fun Q E d acts => by
            rw [xt_row hcov r4 (hW.classLinks hl) hcell hobj ⟨k0', hk0'⟩ ⟨kt', hkt'⟩, if_pos has, r3]⟩
        · rw [decide_eq_false hj] at hh has
          obtain ⟨vm', hW', hF⟩ := ih ys h r7 hh (S.setVm (S.vm.noted f.method.cls x.catchType (.cls c'))) hW1 hcell
          exact ⟨vm', hW', fun Q E d acts => by
            rw [xt_row hcov r4 (hW.classLinks hl) hcell hobj ⟨k0', hk0'⟩ ⟨kt', hkt'⟩, if_neg (by rw [has]; decide)]
            exact hF Q E d acts⟩
      · have hcov0 : covers x f.pc = false := Bool.eq_false_iff.mpr hcov
        have hcv : (Nat.ble ya f.pc && (Nat.blt f.pc yb && Nat.beq yj kk)) = false := by
          cases hb : (Nat.ble ya f.pc && (Nat.blt f.pc yb && Nat.beq yj kk)) with
          | false => rfl
          | true =>
            obtain ⟨g1, g2⟩ := Bool.and_eq_true_iff.mp hb
            obtain ⟨g2, g3⟩ := Bool.and_eq_true_iff.mp g2
            exact absurd (by
              simp only [covers, Bool.and_eq_true, decide_eq_true_eq]
              rw [r1, r2]
              exact ⟨Nat.ble_eq.mp g1, Nat.ble_eq.mp g2⟩) hcov
        rw [hcv] at hh
        obtain ⟨vm', hW', hF⟩ := ih ys h r7 hh S hW hcell
        exact ⟨vm', hW', fun Q E d acts => by
          rw [W.findHandler_go_skip hcov0]
          exact hF Q E d acts⟩
theorem xt_sfv (u : State) (vm' : Vm) (F G : List Frame) : ((u.setFrames F).setVm vm').setFrames G = (u.setVm vm').setFrames G := by
  show ((u.setVm vm').setFrames F).setFrames G = _
  rw [State.setFrames_setFrames]
theorem xt_into {tb : Tables} {e : Env} {s target : State} {g : JFrame} {c : Code} {below : List Frame} {a : Addr} (h : At s g.method c below) {pc : Nat} {vm' : Vm} {meth : Method} (hm : s.vm.method? g.method = some meth) (hc : meth.code = some c)
    (hfind : xt_Fd e ((s.setTop g).pushFrame (.throwing a)) g a c.exceptionTable.toList (.found pc) vm') (hrest : Steps tb e below ((s.setVm vm').setTop { g with pc := pc, stack := [.ref a] }) target) :
    Steps tb e below ((s.setTop g).pushFrame (.throwing a)) target := by
  obtain ⟨hgo, hw⟩ := h.throwing a
  obtain ⟨g₀, hg⟩ := Option.isSome_iff_exists.mp h.top
  obtain ⟨r, hr⟩ := State.topJava?_eq_some.mp hg
  have hfr := frames_entered h.top (.throwing a : Frame) (g := g)
  have hst : (stepThrowing e ((s.setTop g).pushFrame (.throwing a)) a (.java g :: s.frames.tail)).1 = (((s.setTop g).pushFrame (.throwing a)).setVm vm').setFrames (.java { g with pc := pc, stack := [.ref a] } :: s.frames.tail) := by
    have hf9 : ∀ (Q : Handler → Pre) (E : CtlPost) (d : Bool) (acts : List Action), wp (findHandler g a) Q E e d acts ((s.setTop g).pushFrame (.throwing a)) ↔ Q (.found pc) d acts (((s.setTop g).pushFrame (.throwing a)).setVm vm') := fun Q E d acts => by
      rw [W.findHandler_eq (s := (s.setTop g).pushFrame (.throwing a)) (meth := meth) (code := c) hm hc]
      exact hfind Q E d acts
    generalize (s.setTop g).pushFrame (.throwing a) = S at hf9
    simp only [stepThrowing, searchFrame, vmDo]
    generalize hres : Sem.go _ e false [] S = res
    obtain ⟨as, rfl, -⟩ := Sem.eq_ok_of hres (a := Handler.found pc) (s' := S.setVm vm') (acts' := []) (by simp [hf9 _ _ _ _])
    rfl
  refine Steps.head hgo hw ?_
  rw [stepThread_throwing hfr, hst]
  have hr' : (s.setVm vm').frames = .java g₀ :: r := hr
  rw [State.setTop_of_frames _ hr'] at hrest
  rw [hr, List.tail_cons, State.pushFrame, xt_sfv, State.setTop_of_frames _ hr, xt_sfv]
  exact hrest
end
section
theorem xt_meth {mi : Nat} {args : Array Value} {s : State} (h : (mx_cw mi).before args s = true) : ∃ mk methY cY, s.methodNamed? (mx_y mi) = some mk ∧ s.vm.method? mk = some methY ∧ methY.code = some cY ∧ cY.maxLocals = mx_mL mi ∧ parseMethodDescriptor (mx_y mi).desc = some methY.sig := by
  unfold mx_cw at h
  split at h
  · obtain ⟨mk, hn⟩ := Cond.code_named h
    obtain ⟨methY, cY, h1, h2, -, h4, -, -, -, h8⟩ := Cond.code_spec hn h
    exact ⟨mk, methY, cY, hn, h1, h2, h4, h8⟩
  · obtain ⟨mk, methY, cY, hn, h1, h2, -, h4, -, -, -, h8⟩ := Cond.codeWith_spec h
    exact ⟨mk, methY, cY, hn, h1, h2, h4, h8⟩
theorem xt_cwg {mi : Nat} (h : mx_okM mi = true) : mx_cw mi ∈ wg := by
  refine wg_in (mx_okM_o h).1 ?_
  unfold mx_cw
  split <;> rfl
def mx_CalA (l : Launch) (R : Room) (md : Bool) (D : va_G) (ca : Nat → ClassId) (bs : Nat) (scr : mSc) (cal : Nat → List mAV → mSt → mPo → (Nat → mSt → Prop) → Prop) : Prop := ∀ mi as s post ex, mi < mx_nM → mx_oS s as → cal mi as s post ex → ∃ d, mx_CT l md D ca bs scr d mi as s post ex ∧ d + 9 ≤ R.frames ∧ 40 * d + 240 ≤ R.locals
section
variable {p : Program} {l : Launch} {e : Env} {R : Room} {s0 : State} {m : MethodId} {args : Array Value} {below : List Frame} {meth : Method} {c : Code} {Q : State → Prop} {D : va_G} {ca : Nat → ClassId} {bs maxL : Nat} {L : mLV} {S : List mAV} {s : mSt} {u : Nat × Nat}
theorem xt_wsAt {mi : Nat} {U : State} {a' : Array Value} (hok : mx_okM mi = true) (hts : ∀ w ∈ wg, w.before args s0 = true) (hW : s0.WarmedH U.vm) : ∀ w ∈ mx_cw mi :: wg, w.before a' U = true := by
  intro w hw
  have h9 : w ∈ wg := by
    rcases List.mem_cons.mp hw with rfl | hw
    · exact xt_cwg hok
    · exact hw
  exact word_at hW (wg_ok h9) (hts w h9)
set_option maxHeartbeats 4000000 in
theorem xt_call {scr : mSc} {cal : Nat → List mAV → mSt → mPo → (Nat → mSt → Prop) → Prop} {M : mMt} {ex : Nat → mSt → Prop} {k : List mEn → mLV → List mAV → mSt → Nat × Nat → Prop} {es : List mEn} {own : String} {cc : ByteArray} {pc mi rk th : Nat} {as S' : List mAV} {ig : Instr} {H : Heap} {lcs : List Loc} {ls : Array Slot} {T : State} {vm₁ : Vm} {mk : MethodId}
    (hb : c.code = cc) (hml : c.maxLocals = maxL) (hown : s0.vm.findClass own = some m.cls) (hts : ∀ w ∈ wg, w.before args s0 = true) (hV : mx_VM D ca s0) (hX : va_X scr.1 scr.2.1 scr.2.2 s0 s0.heap) (hXb : scr.1 < bs) (hbs : bs ≤ s0.heap.size) (hXT : xt_T bs s0)
    (hok : mx_okM mi = true) (hmi : mi < mx_nM) (hcal : mx_CalA l R true D ca bs scr cal) (hrows : M.2.2.2.2.1 = [] ∨ xt_Rw own c.exceptionTable.toList M.2.2.2.2.1)
    (hlv : ∀ kk u' (x : Addr) (T' : State) (lcs1 : List Loc) (k1 n1 : Nat) (g : JFrame), M.2.2.2.2.2 = true → g.method = m → g.locked = none → g.entered = [] → ex kk u' → mx_WS true D ca bs scr u' T' → mx_Ex kk x T' → va_S (fun q => bs ≤ q) s0.heap T'.heap lcs1 → k1 ≤ R.cells ∧ n1 ≤ R.slots → Stand p l e R s0 m args below meth c T' lcs1 k1 n1 → ∃ t, Steps p.tables e below ((T'.setTop g).pushFrame (.throwing x)) t ∧ Q t)
    (hd : decode cc pc = .ok (ig, 3)) (hnx : ∀ e' r, es = e' :: r → e'.1 = pc + 3) (hsf : mx_Sf M.1 es)
    (hk : ∀ es L S s u, k es L S s u → mx_Sf M.1 es → ∀ pc, (∀ e r, es = e :: r → e.1 = pc) → mx_GA p l e R s0 m args below meth c Q true D ca bs maxL pc L S s u)
    (hc : cal mi as s (mx_kr rk S' (fun S t => mx_kc true s (mx_mt mi).2.2.1 (fun t => k es L S t (u.1 + (mx_mt mi).2.2.1, u.2 + (mx_mt mi).2.2.2.1)) t)) (mx_xs M ex th pc (fun h a s => k (mx_jp M.1 h) L [.inr (.inr (.inr a))] s (u.1 + (mx_mt mi).2.2.1, u.2 + (mx_mt mi).2.2.2.1))))
    (hbud : u.1 + (mx_mt mi).2.2.1 ≤ R.cells ∧ u.2 + (mx_mt mi).2.2.2.1 ≤ R.slots) (hw8 : mx_wt S' ≤ 8)
    (hW : mx_WH true D ca bs s H) (hS : va_S (fun q => bs ≤ q) s0.heap H lcs) (hl : lv_has ls maxL (mx_VL bs L)) (hL : mx_oL s L) (hOa : mx_oS s as) (hOs : mx_oS s S')
    (hT : T.heap = H) (X : Stand p l e R s0 m args below meth c (T.setVm vm₁) lcs u.1 u.2) (hn : s0.methodNamed? (mx_y mi) = some mk) :
    ∃ t, Steps p.tables e below (doInvoke e ((T.setVm vm₁).setTop (F0 m pc ls (S'.map (mx_vv bs)))) [] mk (as.map (mx_vv bs)).toArray).1 t ∧ Q t := by
  obtain ⟨d, hCT, hd1, hd2⟩ := hcal mi as s _ _ hmi hOa hc
  obtain ⟨o1, o2, o3, o4, o5, -⟩ := mx_okM_o hok
  have hwsU := fun (a' : Array Value) => xt_wsAt (mi := mi) (U := T.setVm vm₁) (a' := a') hok hts X.warmed
  obtain ⟨mk', methY, cY, hn', hmY, hcY, hmax, -⟩ := xt_meth (hwsU #[] _ List.mem_cons_self)
  have hnU := X.named hn
  cases hnU.symm.trans hn'
  obtain ⟨kY, hkY, -⟩ := className_of_methodNamed hnU
  have hini : kY.init = .initialized := Cond.initialized_spec (args := #[]) (findClass_of_methodNamed hnU) hkY (hwsU #[] _ (List.mem_cons_of_mem _ (mx_wd_g o2 rfl)))
  have hpre := mx_pre (av := as.map (mx_vv bs)) (md := true) hV hX hXb hbs hXT hW hS (fun h => Bool.noConfusion h) (T.setVm vm₁) hT X.warmed
  have hlo : 2 * (F0 m pc ls (S'.map (mx_vv bs))).monitorRoom + ((S'.map (mx_vv bs)).map fun v => v.category).sum + (cY.maxLocals + 11) + (mx_rm d mi).locals ≤ R.locals := by
    rw [mx_wt_o, hmax]
    show 2 * 0 + mx_wt S' + (mx_mL mi + 11) + (40 * d + 200) ≤ R.locals
    omega
  obtain ⟨o, t, T', L9, hL9, X', e1, e2, ⟨hq, hz, hkp⟩, hend⟩ := xt_go (show mx_Mx l (mx_y mi) (mx_cw mi :: wg) (mx_rm d mi) _ _ (mx_mt mi).2.2.1 (mx_mt mi).2.2.2.1 (fun q => bs ≤ q) from hCT) mx_blind rfl rfl (by show d + 8 + 1 ≤ R.frames; omega) X (g := F0 m pc ls (S'.map (mx_vv bs))) rfl (hl.1.trans hml.symm) (by rw [hb]; exact hd) hnU hmY hcY hlo hkY hini (hwsU _) hpre hbud
  have hz : H.size ≤ t.heap.size := by
    rw [← hT]
    exact hz
  have hkp : ∀ q, q < H.size → ¬ bs ≤ q → t.heap[q]? = H[q]? := fun q h1 h2 => by
    rw [← hT] at h1 ⊢
    exact hkp q h1 h2
  have hS1 : va_S (fun q => bs ≤ q) s0.heap t.heap (lcs ++ L9) := ⟨Nat.le_trans hS.1 hz, fun q h1 h2 => (hkp q (Nat.lt_of_lt_of_le h1 hS.1) h2).trans (hS.2.1 q h1 h2), fun q hq => by
    rcases List.mem_append.mp hq with h | h
    · exact hS.2.2 q h
    · exact hL9 q h⟩
  rcases hend with ⟨v, rfl, st⟩ | ⟨x, rfl, st⟩
  · have hv : mx_Qv true D ca bs scr (mx_kr rk S' (fun S t => mx_kc true s (mx_mt mi).2.2.1 (fun t => k es L S t (u.1 + (mx_mt mi).2.2.1, u.2 + (mx_mt mi).2.2.2.1)) t)) v t := by
      rcases hq with ⟨w, hw, hq⟩ | ⟨_, _, _, hw, -⟩
      · cases hw
        exact hq
      · cases hw
    obtain ⟨t2, a1, b1⟩ := mx_back hsf hnx hk hW hl hL hOs hbud (fun h => Bool.noConfusion h) hv hS1 T' e1 X'
    exact ⟨t2, st.trans a1, b1⟩
  · rcases hq with ⟨w, hw, -⟩ | ⟨kk, u', a, hw, hex, hWS, hEx⟩
    · cases hw
    · cases hw
      obtain ⟨hk3, cell, hcell, hobj, hfc⟩ := hEx
      have hWS' : mx_WS true D ca bs scr u' T' := by
        obtain ⟨q1, ⟨qK, qN, qR, qV⟩, q2, ⟨q3, q4⟩, q5, q6⟩ := hWS
        have hvm : t.vm = T'.vm := e2.symm
        have hal : t.vm.Alike T'.vm := by rw [hvm]; exact Vm.Alike.refl _
        have hwr : t.WarmedH T'.vm := by rw [← hvm]; exact State.WarmedH.refl t
        exact ⟨by rw [e1]; exact q1, ⟨va_K.moved hal qK, NW.same hvm qN, va_AO.moved hal qR, va_AO.moved hal qV⟩, by rw [e1]; exact q2, ⟨by rw [e1]; exact va_X.moved hal q3, q4⟩, fun h => Bool.noConfusion h, q6.moved hwr (fun q _ => by rw [e1])⟩
      have hex1 : mx_ex M ex pc kk (fun h a s => k (mx_jp M.1 h) L [.inr (.inr (.inr a))] s (u.1 + (mx_mt mi).2.2.1, u.2 + (mx_mt mi).2.2.2.1)) u' := by
        cases th with
        | zero => exact False.elim hex
        | succ th =>
          obtain ⟨x1, x2, x3⟩ := (show (kk = 1 → _) ∧ (kk = 2 → _) ∧ (kk = 3 → _) from hex)
          rcases hk3 with rfl | rfl | rfl
          · exact x1 rfl
          · exact x2 rfl
          · exact x3 rfl
      unfold mx_ex at hex1
      cases hh : mx_hd M.2.2.2.2.1 pc kk with
      | none =>
        rw [hh] at hex1
        cases hthr : M.2.2.2.2.2 with
        | false =>
          rw [hthr] at hex1
          exact False.elim hex1
        | true =>
          rw [hthr] at hex1
          have hEx' : mx_Ex kk x T' := ⟨hk3, cell, by rw [e1]; exact hcell, hobj, by rw [e2]; exact hfc⟩
          obtain ⟨t2, a1, b1⟩ := hlv kk u' x T' (lcs ++ L9) _ _ (F0 m pc ls (S'.map (mx_vv bs))) hthr rfl rfl rfl hex1 hWS' hEx' (by rw [e1]; exact hS1) hbud X'
          exact ⟨t2, st.trans a1, b1⟩
      | some h =>
        rw [hh] at hex1
        have hrows : xt_Rw own c.exceptionTable.toList M.2.2.2.2.1 := by
          rcases hrows with h0 | h0
          · rw [h0] at hh
            cases hh
          · exact h0
        have hkk := hex1 x
        have hpl : e.platform.magicAccessors = ({} : Platform).magicAccessors := by rw [X.admits.platform]
        have hal := X'.warmed.alike
        have hcl0 : s0.vm.findClass (xt_n kk) = some cell.cls := by
          rw [← hal.findClass, e2]
          exact hfc
        have hk0 : ∃ k, s0.vm.classes[cell.cls]? = some k := by
          obtain ⟨c1, kX, q1, q2, -⟩ := Cond.instantiable_spec (hts _ (xt_wk hk3).2.1)
          cases hcl0.symm.trans q1
          exact ⟨kX, q2⟩
        obtain ⟨vm2, hW2, hF⟩ := xt_find (e := e) (f := F0 m pc ls (S'.map (mx_vv bs))) (a := x) (own := own) hpl hown hts hXT hk3 hcl0 hobj hk0 _ _ h hrows hh ((T'.setTop (F0 m pc ls (S'.map (mx_vv bs)))).pushFrame (.throwing x)) X'.warmed (show T'.heap[x]? = some cell by rw [e1]; exact hcell)
        have X2 := X'.noted hW2
        have hGA := (hk _ _ _ _ _ hkk (mx_jp_sf _ _) _ mx_jp_hd) t.heap (lcs ++ L9) ls hWS.1 hS1 hl (fun q hq => mx_ok_le (by rw [(hW.2.2 rfl).1, (hWS.1.2.2 rfl).1]; exact Nat.le_refl _) (hL q hq)) (mx_oS_c trivial mx_oS_n) hbud (fun h => Bool.noConfusion h)
        obtain ⟨t2, a1, b1⟩ := hGA (T'.setVm vm2) e1 X2
        exact ⟨t2, st.trans (xt_into (meth := meth) X'.here X'.method' X'.code hF a1), b1⟩
end
end
section
section
variable {p : Program} {l : Launch} {e : Env} {R : Room} {s0 : State} {m : MethodId} {args : Array Value} {below : List Frame} {meth : Method} {c : Code} {Q : State → Prop} {D : va_G} {ca : Nat → ClassId} {bs maxL : Nat} {L : mLV} {S : List mAV} {s : mSt} {u : Nat × Nat}
set_option maxHeartbeats 4000000 in
theorem mx_invx_ok {scr : mSc} {cal : Nat → List mAV → mSt → mPo → (Nat → mSt → Prop) → Prop} {M : mMt} {ex : Nat → mSt → Prop} {k : List mEn → mLV → List mAV → mSt → Nat × Nat → Prop} {es : List mEn} {own : String} {cc : ByteArray} {pc : Nat} {ins : Instr} {aux : List Nat}
    (hx : p.tables.exec = Jvm.exec) (hb : c.code = cc) (hml : c.maxLocals = maxL) (hown : s0.vm.findClass own = some m.cls) (hts : ∀ w ∈ wg, w.before args s0 = true) (hV : mx_VM D ca s0) (hX : va_X scr.1 scr.2.1 scr.2.2 s0 s0.heap) (hXb : scr.1 < bs) (hbs : bs ≤ s0.heap.size) (hXT : xt_T bs s0) (hR : M.2.2.1 ≤ R.cells ∧ M.2.2.2.1 ≤ R.slots)
    (hMs : ∀ mi, mi < mx_nM → mx_okM mi = true) (hcal : mx_CalA l R true D ca bs scr cal) (hrows : M.2.2.2.2.1 = [] ∨ xt_Rw own c.exceptionTable.toList M.2.2.2.2.1)
    (hlv : ∀ kk u' (x : Addr) (T' : State) (lcs1 : List Loc) (k1 n1 : Nat) (g : JFrame), M.2.2.2.2.2 = true → g.method = m → g.locked = none → g.entered = [] → ex kk u' → mx_WS true D ca bs scr u' T' → mx_Ex kk x T' → va_S (fun q => bs ≤ q) s0.heap T'.heap lcs1 → k1 ≤ R.cells ∧ n1 ≤ R.slots → Stand p l e R s0 m args below meth c T' lcs1 k1 n1 → ∃ t, Steps p.tables e below ((T'.setTop g).pushFrame (.throwing x)) t ∧ Q t)
    (hd : decode cc pc = .ok (ins, 3)) (hiv : mx_iv own ins aux = true) (hnx : ∀ e' r, es = e' :: r → e'.1 = pc + 3) (hsf : mx_Sf M.1 es)
    (hk : ∀ es L S s u, k es L S s u → mx_Sf M.1 es → ∀ pc, (∀ e r, es = e :: r → e.1 = pc) → mx_GA p l e R s0 m args below meth c Q true D ca bs maxL pc L S s u)
    (hn0 : aux.getD 7 0 = 0) (hni : ∀ n, ¬ ins = .invokespecial n)
    (h : mx_inv true cal M ex aux es L S s u k pc) : mx_GA p l e R s0 m args below meth c Q true D ca bs maxL pc L S s u := by
  unfold mx_iv at hiv
  split at hiv
  · rename_i mi np rk th mc ms rc nest w r
    obtain rfl : nest = 0 := hn0
    obtain ⟨g1, g2⟩ := Bool.and_eq_true_iff.mp hiv
    obtain ⟨g2, g3⟩ := Bool.and_eq_true_iff.mp g2
    obtain ⟨hmi, rfl, rfl, hms0⟩ := of_decide_eq_true g1
    have hok := hMs mi hmi
    obtain ⟨o1, o2, o3, o4, o5, o6, o7, o8⟩ := mx_okM_o hok
    unfold mx_inv at h
    dsimp only at h
    cases hp : mx_pop np [] S with
    | none =>
      rw [hp] at h
      exact False.elim h
    | some q =>
      obtain ⟨as, S'⟩ := q
      rw [hp] at h
      obtain ⟨P, hP1, hP2, hP3⟩ := mx_pop_o hp
      rw [List.append_nil] at hP1
      subst hP1
      subst hP2
      obtain ⟨hw8, h⟩ := mx_eq_o (show mx_eq (Nat.ble (mx_wt S') 8).toNat 1 _ from h)
      have hw8 : mx_wt S' ≤ 8 := Nat.le_of_ble_eq_true (by cases hb9 : Nat.ble (mx_wt S') 8 with
        | true => rfl
        | false => rw [hb9] at hw8; cases hw8)
      intro H lcs ls hW hS hl hL hO hu hz
      have hOa : mx_oS s as := fun v hv => hO v (List.mem_append_left _ (List.mem_reverse.mpr hv))
      have hOs : mx_oS s S' := fun v hv => hO v (List.mem_append_right _ hv)
      have body : ∀ (hc : cal mi as s (mx_kr rk S' (fun S t => mx_kc true s (mx_mt mi).2.2.1 (fun t => k es L S t (u.1 + (mx_mt mi).2.2.1, u.2 + (mx_mt mi).2.2.2.1)) t)) (mx_xs M ex th pc (fun h a s => k (mx_jp M.1 h) L [.inr (.inr (.inr a))] s (u.1 + (mx_mt mi).2.2.1, u.2 + (mx_mt mi).2.2.2.1)))), u.1 + (mx_mt mi).2.2.1 ≤ R.cells ∧ u.2 + (mx_mt mi).2.2.2.1 ≤ R.slots →
          (rc ≠ 0 → ∃ f i as', as = .inr (.inr (.inl (f, i))) :: as' ∧ mx_fK f = 0 ∧ mx_fX f + 1 = rc) → W p l e R s0 m args below meth c H lcs u.1 u.2 Q (F0 m pc ls ((as.reverse ++ S').map (mx_vv bs))) := fun hc hbud hrcv => by
        intro T hT X
        cases ins with
        | invokevirtual n =>
          obtain ⟨k1, k2⟩ := Bool.and_eq_true_iff.mp g3
          obtain ⟨k2, k3⟩ := Bool.and_eq_true_iff.mp k2
          obtain ⟨k4, k5⟩ := of_decide_eq_true k1
          cases rc with
          | zero => cases k2
          | succ ci =>
            obtain ⟨f, i, as', rfl, hf0, hf1⟩ := hrcv (Nat.succ_ne_zero _)
            obtain rfl : mx_fX f = ci := Nat.succ.inj hf1
            obtain ⟨w1, w2⟩ := o6 k4
            have w1 := mx_wd_g w1 rfl
            have w2 := mx_wd_g w2 rfl
            have wl := mx_wd_g k3 rfl
            have hokv := mx_oS_h hOa
            have k2 : decide ((cls[mx_fX f]?).map (fun q => q.1) = some (mx_y mi).cls) = true := k2
            cases hcl : cls[mx_fX f]? with
            | none =>
              rw [hcl] at k2
              cases (of_decide_eq_true k2)
            | some q =>
              rw [hcl] at k2
              have hqc : q.1 = (mx_y mi).cls := Option.some.inj (of_decide_eq_true k2)
              obtain ⟨cellB, hcB, hoB, hclB⟩ := va_recv hV.1 hW.1 hcl ((mx_at hokv).trans (by rw [mx_enc0 hf0]))
              rw [hqc] at hclB
              obtain ⟨mk, methM, hnamed, hmethM, hstM, habM⟩ := Cond.instanceMethod_spec (hts _ w1)
              obtain ⟨c2, r2, m2, q1, q2, q3, q4, kP, hkP, hkPi⟩ := Cond.selects_spec (hts _ w2)
              cases hclB.symm.trans q1
              cases (State.methodFound?_of_named hnamed ⟨o3.1, o3.2.1⟩).symm.trans q2
              cases hnamed.symm.trans q3
              have hselP : selectMethod e.platform s0.vm cellB.cls mk = .method mk := by rw [Launch.admits_selectMethod X.admits]; exact q4
              obtain ⟨mk', methY, cY, hn', hmY, -, -, hsig⟩ := xt_meth (hts _ (xt_cwg hok))
              cases hnamed.symm.trans hn'
              cases hmethM.symm.trans hmY
              have hlen : (as'.map (mx_vv bs)).length = methM.sig.parameters.length := by
                have h8 := o3.2.2
                rw [hsig] at h8
                rw [List.length_map]
                have h9 : as'.length + 1 = np := hP3
                have h7 : methM.sig.parameters.length = mx_mw mi 1 := Option.some.inj h8
                omega
              have hstk : (F0 m pc ls (((Sum.inr (Sum.inr (Sum.inl (f, i))) :: as').reverse ++ S').map (mx_vv bs))).stack = (as'.map (mx_vv bs)).reverse ++ .ref (bs + mx_num f i) :: S'.map (mx_vv bs) := by
                simp [mx_vv]
              obtain ⟨vm₁, X₁, hstep₁⟩ := X.invokevirtual hx hown (hts _ wl) hnamed hmethM hstM hkP hkPi ⟨o3.1, o3.2.1⟩ (a := bs + mx_num f i) (cell := cellB) (by rw [hT]; exact hcB) (fun z h => by rw [h] at hoB; cases hoB) hselP hmethM habM hkP hkPi (g := F0 m pc ls (((Sum.inr (Sum.inr (Sum.inl (f, i))) :: as').reverse ++ S').map (mx_vv bs))) rfl (argsL := as'.map (mx_vv bs)) (rest := S'.map (mx_vv bs)) hlen hstk (by rw [hb]; exact hd)
              obtain ⟨t, st, q⟩ := xt_call (T := T) hb hml hown hts hV hX hXb hbs hXT hok hmi hcal hrows hlv hd hnx hsf hk hc hbud hw8 hW hS hl hL hOa hOs hT X₁ hnamed
              exact ⟨t, hstep₁ _ (fun acts => by rw [doInvoke_state]; exact st), q⟩
        | invokestatic n =>
          obtain ⟨k1, k3⟩ := Bool.and_eq_true_iff.mp g3
          obtain ⟨k4, k5, k6⟩ := of_decide_eq_true k1
          have w1 := mx_wd_g (o7 k4) rfl
          have wl := mx_wd_g k3 rfl
          have wi := mx_wd_g o2 rfl
          obtain ⟨mk, methM, cM, hnamed, hmethM, -, -, hsig⟩ := xt_meth (hts _ (xt_cwg hok))
          have hstatic : methM.isStatic = true := Cond.static_spec hnamed hmethM (hts _ w1)
          obtain ⟨kP, hkP, -⟩ := className_of_methodNamed hnamed
          have hinitP : kP.init = .initialized := Cond.initialized_spec (findClass_of_methodNamed hnamed) hkP (hts _ wi)
          have hlen : (as.map (mx_vv bs)).length = methM.sig.parameters.length := by
            have h8 := o3.2.2
            rw [hsig] at h8
            rw [List.length_map]
            have h7 : methM.sig.parameters.length = mx_mw mi 1 := Option.some.inj h8
            omega
          have hstk : (F0 m pc ls ((as.reverse ++ S').map (mx_vv bs))).stack = (as.map (mx_vv bs)).reverse ++ S'.map (mx_vv bs) := by
            simp
          obtain ⟨vm₁, X₁, hstep₁⟩ := X.invokestatic hx hown (hts _ wl) hnamed hmethM hstatic hkP hinitP ⟨o3.1, o3.2.1⟩ (g := F0 m pc ls ((as.reverse ++ S').map (mx_vv bs))) rfl (argsL := as.map (mx_vv bs)) (rest := S'.map (mx_vv bs)) hlen hstk (by rw [hb]; exact hd)
          obtain ⟨t, st, q⟩ := xt_call (T := T) hb hml hown hts hV hX hXb hbs hXT hok hmi hcal hrows hlv hd hnx hsf hk hc hbud hw8 hW hS hl hL hOa hOs hT X₁ hnamed
          exact ⟨t, hstep₁ _ (fun acts => by rw [doInvoke_state]; exact st), q⟩
        | invokespecial n => exact absurd rfl (hni n)
        | _ => cases g3
      have hrc9 : ∀ {P : Prop}, mx_rc rc as P → P ∧ (rc ≠ 0 → ∃ f i as', as = .inr (.inr (.inl (f, i))) :: as' ∧ mx_fK f = 0 ∧ mx_fX f + 1 = rc) := fun {P} h9 => by
        cases rc with
        | zero => exact ⟨h9, fun h => absurd rfl h⟩
        | succ ci =>
          obtain ⟨f, i, as', e1, h9⟩ := mx_rf_o (show mx_rf as _ from h9)
          obtain ⟨e2, h9⟩ := mx_eq_o (show mx_eq (mx_fK f) 0 _ from h9)
          obtain ⟨e3, h9⟩ := mx_eq_o (show mx_eq (mx_fX f) ci _ from h9)
          exact ⟨h9, fun _ => ⟨f, i, as', e1, e2, by rw [e3]⟩⟩
      obtain ⟨h, hrcv⟩ := hrc9 h
      generalize hmc : (mx_mt mi).2.2.1 = mc at h body hms0
      generalize hms : (mx_mt mi).2.2.2.1 = ms at h body hms0
      cases mc with
      | zero =>
        have hms1 := hms0 rfl
        subst hms1
        exact body h ⟨hu.1, hu.2⟩ hrcv
      | succ mc =>
        obtain ⟨b1, b2, h⟩ := mx_bg_o (show mx_bg (u.1 + (mc + 1)) (u.2 + ms) M _ from h)
        exact body h ⟨Nat.le_trans b1 hR.1, Nat.le_trans b2 hR.2⟩ hrcv
  · cases hiv
end
end
section
theorem mx_WS_same {md : Bool} {D : va_G} {ca : Nat → ClassId} {bs : Nat} {scr : mSc} {s : mSt} {t t' : State} (hh : t'.heap = t.heap) (hv : t'.vm = t.vm) (h : mx_WS md D ca bs scr s t) : mx_WS md D ca bs scr s t' := by
  obtain ⟨q1, ⟨qK, qN, qR, qV⟩, q2, ⟨q3, q4⟩, q5, q6⟩ := h
  have hal : t.vm.Alike t'.vm := by rw [hv]; exact Vm.Alike.refl _
  have hwr : t.WarmedH t'.vm := by rw [hv]; exact State.WarmedH.refl t
  exact ⟨by rw [hh]; exact q1, ⟨va_K.moved hal qK, NW.same hv.symm qN, va_AO.moved hal qR, va_AO.moved hal qV⟩, by rw [hh]; exact q2, ⟨by rw [hh]; exact va_X.moved hal q3, q4⟩, by rw [hh]; exact q5, q6.moved hwr (fun q _ => by rw [hh])⟩
def mx_xn1 : List mEn → Bool
  | (_, _, .new n, _, (_ + 1) :: kk :: _, _, _) :: (_, _, i1, _, _, _, _) :: (_, _, i2, _, _, _, _) :: (_, _, i3, _, _, _, _) :: _ => decide ((kk = 1 ∨ kk = 2 ∨ kk = 3) ∧ n = xt_c kk ∧ i1 = .dup ∧ i2 = .invokespecial (xt_i kk) ∧ i3 = .athrow)
  | (_, _, .new _, _, (_ + 1) :: _, _, _) :: _ => false
  | _ => true
def mx_xal : List mEn → Bool
  | [] => true
  | e :: es => mx_xn1 (e :: es) && mx_xal es
theorem mx_xal_o : ∀ {pre es : List mEn}, mx_xal (pre ++ es) = true → mx_xn1 es = true
  | [], [], _ => rfl
  | [], _ :: _, h => (Bool.and_eq_true_iff.mp h).1
  | _ :: pre, es, h => mx_xal_o (pre := pre) (Bool.and_eq_true_iff.mp h).2
def mx_hk (own : String) : List (Nat × Nat × Nat × Nat) → List (Nat × Nat × Nat × Nat) → List Nat → Bool
  | [], [], _ => true
  | (a, b, h, ct) :: r, (a', b', h', j) :: r', w :: ws => decide (a = a' ∧ b = b' ∧ h = h' ∧ ct ≠ 0 ∧ (j = 1 ∨ j = 2 ∨ j = 3)) && (mx_wd w (.classLink own ct (xt_n j)) && mx_hk own r r' ws)
  | _, _, _ => false
theorem mx_hk_o {own : String} : ∀ {rows : List ExceptionTableEntry} {hh hs : List (Nat × Nat × Nat × Nat)} {ws : List Nat}, rows.map (fun h => (h.startPc, h.endPc, h.handlerPc, h.catchType)) = hh → mx_hk own hh hs ws = true → xt_Rw own rows hs
  | [], [], [], _, _, _ => trivial
  | [], [], _ :: _, _, _, h => by cases h
  | [], _ :: _, _, _, h, _ => by cases h
  | _ :: _, [], _, _, h, _ => by cases h
  | x :: xs, y :: ys, [], _, _, h => by
    obtain ⟨a, b, c, d⟩ := y
    cases h
  | x :: xs, y :: ys, z :: zs, [], _, h => by
    obtain ⟨a, b, c, d⟩ := y
    obtain ⟨a', b', c', d'⟩ := z
    cases h
  | x :: xs, y :: ys, z :: zs, w :: ws, h1, h => by
    obtain ⟨a, b, c, d⟩ := y
    obtain ⟨a', b', c', d'⟩ := z
    obtain ⟨g1, g2⟩ := Bool.and_eq_true_iff.mp (show (decide (a = a' ∧ b = b' ∧ c = c' ∧ d ≠ 0 ∧ (d' = 1 ∨ d' = 2 ∨ d' = 3)) && (mx_wd w (.classLink own d (xt_n d')) && mx_hk own ys zs ws)) = true from h)
    obtain ⟨g2, g3⟩ := Bool.and_eq_true_iff.mp g2
    obtain ⟨e1, e2, e3, e4, e5⟩ := of_decide_eq_true g1
    have h1 : (x.startPc, x.endPc, x.handlerPc, x.catchType) :: xs.map (fun h => (h.startPc, h.endPc, h.handlerPc, h.catchType)) = (a, b, c, d) :: ys := h1
    obtain ⟨h2, h3⟩ := List.cons.inj h1
    cases h2
    exact ⟨e1, e2, e3, e4, e5, mx_wd_g g2 rfl, mx_hk_o h3 g3⟩
def mx_okX (mi : Nat) : Bool := mx_okC mi && (mx_xal (mx_mt mi).1 && (mx_hk (mx_y mi).cls (mx_hr mi) (mx_mt mi).2.2.2.2.1 (mx_hws.getD mi []) && ((!(mx_mt mi).2.2.2.2.2 || (decide ((mx_y mi).cls = R_Rs ∧ (mx_mt mi).2.2.2.2.1 = []))) && (mx_mt mi).1.all (fun e => match e.2.2.1 with
  | .invokevirtual _ => mx_pu (e.2.2.2.2.1.headD 0) || decide (e.2.2.2.2.1.getD 7 0 = 0)
  | .invokestatic _ => mx_pu (e.2.2.2.2.1.headD 0) || decide (e.2.2.2.2.1.getD 7 0 = 0)
  | .invokespecial _ => match e.2.2.2.2.1 with
    | [] => true
    | a :: _ => mx_pu a
  | _ => true))))
section
variable {p : Program} {l : Launch} {e : Env} {R : Room} {s0 : State} {m : MethodId} {args : Array Value} {below : List Frame} {meth : Method} {c : Code} {D : va_G} {ca : Nat → ClassId} {bs maxL : Nat} {L : mLV} {S : List mAV} {s : mSt} {u : Nat × Nat}
theorem mx_leave {scr : mSc} {M : mMt} {post : mPo} {ex : Nat → mSt → Prop} (hout : M.2.2.2.2.2 = true → c.exceptionTable.toList = []) (hlk : meth.locks = false) (hRe : R.cells = M.2.2.1 ∧ R.slots = M.2.2.2.1) :
    ∀ kk u' (x : Addr) (T' : State) (lcs1 : List Loc) (k1 n1 : Nat) (g : JFrame), M.2.2.2.2.2 = true → g.method = m → g.locked = none → g.entered = [] → ex kk u' → mx_WS true D ca bs scr u' T' → mx_Ex kk x T' → va_S (fun q => bs ≤ q) s0.heap T'.heap lcs1 → k1 ≤ R.cells ∧ n1 ≤ R.slots → Stand p l e R s0 m args below meth c T' lcs1 k1 n1 → ∃ t, Steps p.tables e below ((T'.setTop g).pushFrame (.throwing x)) t ∧ mx_MQ below (mx_Q true D ca bs scr post ex) args s0 M.2.2.1 M.2.2.2.1 (fun q => bs ≤ q) t := by
  intro kk u' x T' lcs1 k1 n1 g hthr hg hlc hen hex hWS hEx hS hle X
  obtain ⟨st, hrun, hend, hWm, hsame⟩ := X.leaveThrown x (g := g) hg hlc hen (fun y hy => by rw [hout hthr] at hy; cases hy) hlk
  rw [hRe.1, hRe.2] at hle
  refine ⟨_, st, .threw x, hrun, hend, ⟨Or.inr ⟨kk, u', x, rfl, hex, mx_WS_same (t := T') (t' := T'.setFrames (.throwing x :: below)) rfl rfl hWS, hEx⟩, hS.1, hS.2.1⟩, lcs1, ⟨hWm, hsame.mono hle.1 hle.2⟩, hS.2.2⟩
end
end
section
section
variable {p : Program} {l : Launch} {e : Env} {R : Room} {s0 : State} {m : MethodId} {args : Array Value} {below : List Frame} {meth : Method} {c : Code} {D : va_G} {ca : Nat → ClassId} {bs maxL : Nat} {L : mLV} {S : List mAV} {s : mSt} {u : Nat × Nat}
theorem mx_throw_ok {scr : mSc} {cal : Nat → List mAV → mSt → mPo → (Nat → mSt → Prop) → Prop} {M : mMt} {post : mPo} {ex : Nat → mSt → Prop} {es : List mEn} {mn : String} {cc : ByteArray} {pc kk z n len : Nat} {r : List Nat} {cut : Option (List Nat)} {ic : Int32} {lc : Int64}
    (hCx : mx_Cx p l R s0 m args meth c true D ca bs scr R_Rs mn cc maxL M cal) (htr : ∀ e, l.admits e → e.platform.stackTraces = false) (hrm : 8 ≤ R.frames ∧ 200 ≤ R.locals) (hout : c.exceptionTable.toList = []) (hlk : meth.locks = false) (hRe : R.cells = M.2.2.1 ∧ R.slots = M.2.2.2.1)
    (hcns : mx_cns M.1 = true) (hE : ∀ e0 ∈ M.1, mx_okE R_Rs mn cc maxL e0 = true) (hxal : mx_xal M.1 = true) (hsf : mx_Sf M.1 ((pc, cut, .new n, len, (z + 1) :: kk :: r, ic, lc) :: es))
    (hbg : u.1 + 1 ≤ M.2.2.1 ∧ u.2 + 6 ≤ M.2.2.2.1) (h : ex kk s) : mx_GA p l e R s0 m args below meth c (mx_MQ below (mx_Q true D ca bs scr post ex) args s0 M.2.2.1 M.2.2.2.1 (fun q => bs ≤ q)) true D ca bs maxL pc L [] s u := by
  obtain ⟨hx, hb, hml, hown, hmn, hts, hV, hX, hXb, hbs, hR, hcal, hXT⟩ := hCx
  have hx1 : mx_xn1 ((pc, cut, .new n, len, (z + 1) :: kk :: r, ic, lc) :: es) = true := by
    obtain ⟨pre, hpre⟩ := hsf
    rw [hpre] at hxal
    exact mx_xal_o hxal
  have hE0 := hE _ hsf.in
  have hd0 : decode cc pc = .ok (.new n, len) := of_decide_eq_true (Bool.and_eq_true_iff.mp hE0).1
  obtain rfl : len = 3 := by
    have h9 := (Bool.and_eq_true_iff.mp hE0).2
    exact of_decide_eq_true (Bool.and_eq_true_iff.mp h9).1
  match es, hx1, hsf with
  | [], hx1, _ => cases hx1
  | [_], hx1, _ => cases hx1
  | [_, _], hx1, _ => cases hx1
  | (p1, c1, i1, l1, a1, ic1, lc1) :: (p2, c2, i2, l2, a2, ic2, lc2) :: (p3, c3, i3, l3, a3, ic3, lc3) :: rest, hx1, hsf =>
    obtain ⟨hk, rfl, rfl, rfl, rfl⟩ := of_decide_eq_true hx1
    obtain rfl : p1 = pc + 3 := mx_nx hcns hsf _ _ rfl
    have hsf1 := hsf.tail
    have hE1 := hE _ hsf1.in
    have hd1 : decode cc (pc + 3) = .ok (.dup, l1) := of_decide_eq_true (Bool.and_eq_true_iff.mp hE1).1
    obtain rfl : l1 = 1 := of_decide_eq_true (Bool.and_eq_true_iff.mp hE1).2
    obtain rfl : p2 = pc + 3 + 1 := mx_nx hcns hsf1 _ _ rfl
    have hsf2 := hsf1.tail
    have hE2 := hE _ hsf2.in
    have hd2 : decode cc (pc + 4) = .ok (.invokespecial (xt_i kk), l2) := of_decide_eq_true (Bool.and_eq_true_iff.mp hE2).1
    obtain rfl : l2 = 3 := of_decide_eq_true (Bool.and_eq_true_iff.mp (Bool.and_eq_true_iff.mp hE2).2).1
    obtain rfl : p3 = pc + 3 + 1 + 3 := mx_nx hcns hsf2 _ _ rfl
    have hsf3 := hsf2.tail
    have hE3 := hE _ hsf3.in
    have hd3 : decode cc (pc + 7) = .ok (.athrow, l3) := of_decide_eq_true (Bool.and_eq_true_iff.mp hE3).1
    obtain rfl : l3 = 1 := of_decide_eq_true (Bool.and_eq_true_iff.mp hE3).2
    intro H lcs ls hW hS hl hL hO hu hz
    obtain ⟨w1, w2, w3⟩ := xt_wk hk
    refine xt_throw hx hb (hl.1.trans hml.symm) hown hlk hts hXT hbs hS htr hk w1 w2 w3 hd0 hd1 hd2 hd3 (fun y hy => by rw [hout] at hy; cases hy) ⟨by rw [hRe.1]; exact hbg.1, by rw [hRe.2]; exact hbg.2⟩ hrm (fun t a h1 h2 h3 h4 h5 h6 h7 => ?_)
    obtain ⟨cell, q1, q2, q3⟩ := h7
    have hkept : ∀ q, q < H.size → t.heap[q]? = H[q]? := h6
    have hS1 : va_S (fun q => bs ≤ q) s0.heap t.heap lcs := ⟨Nat.le_trans hS.1 h5, fun q g1 g2 => (hkept q (Nat.lt_of_lt_of_le g1 hS.1)).trans (hS.2.1 q g1 g2), hS.2.2⟩
    have hWt : mx_WH true D ca bs s t.heap := ⟨fun k q hq => (hW.1 k q hq).kept (hkept _ (hW.1 k q hq).lt), hW.2.1, hW.2.2⟩
    refine ⟨.threw a, h1, h2, ⟨Or.inr ⟨kk, s, a, rfl, h, mx_endW (md := true) hV hX hXb hbs hXT hWt hS1 (fun h => Bool.noConfusion h) rfl h3, hk, cell, q1, fun k hk9 => ?_, ?_⟩, hS1.1, hS1.2.1⟩, lcs, ⟨h3, h4.mono hbg.1 hbg.2⟩, hS.2.2⟩
    · rw [q2] at hk9
      cases hk9
    · rw [h3.alike.findClass]
      exact q3
end
end
section
theorem xt_tabl {p : Program} {l : Launch} {S : Spec} {mi : Nat} {e : Env} {s : State} {m : MethodId} {args : Array Value} {below : List Frame} {meth : Method} {c : Code} {s₁ : State} (B : BodyLoose p l (mx_y mi) S (mx_b mi) (mx_mL mi) (mx_mt mi).2.1 e s m args below meth c s₁) (h : (mx_cw mi).before args s = true) : c.exceptionTable.toList.map (fun h => (h.startPc, h.endPc, h.handlerPc, h.catchType)) = mx_hr mi := by
  have hc0 := (Stand.of_body B).code
  unfold mx_cw at h
  split at h
  · rename_i hr
    obtain ⟨meth', c', hm', hc', -, -, -, -, he', -⟩ := Cond.code_spec B.named h
    cases B.method.symm.trans hm'
    cases hc0.symm.trans hc'
    rw [hr]
    have h9 : c.exceptionTable = #[] := Array.isEmpty_iff.mp he'
    rw [h9]
    rfl
  · rename_i a r hr
    obtain ⟨mk, methY, cY, hn, h1, h2, -, -, h5, -⟩ := Cond.codeWith_spec h
    cases B.named.symm.trans hn
    cases B.method.symm.trans h1
    cases hc0.symm.trans h2
    rw [hr]
    exact h5
theorem mx_th_o {b : Bool} {S : List mAV} {P : Prop} (h : mx_th b S P) : b = true ∧ S = [] ∧ P := by
  unfold mx_th at h
  split at h
  · exact ⟨rfl, rfl, h⟩
  · exact False.elim h
theorem mx_okX_o {mi : Nat} (h : mx_okX mi = true) : mx_okC mi = true ∧ mx_xal (mx_mt mi).1 = true ∧ mx_hk (mx_y mi).cls (mx_hr mi) (mx_mt mi).2.2.2.2.1 (mx_hws.getD mi []) = true ∧ ((mx_mt mi).2.2.2.2.2 = true → (mx_y mi).cls = R_Rs ∧ (mx_mt mi).2.2.2.2.1 = []) ∧ ∀ e0 ∈ (mx_mt mi).1, (∀ n, e0.2.2.1 = .invokevirtual n ∨ e0.2.2.1 = .invokestatic n → mx_pu (e0.2.2.2.2.1.headD 0) = true ∨ e0.2.2.2.2.1.getD 7 0 = 0) ∧ ∀ n a r, e0.2.2.1 = .invokespecial n → e0.2.2.2.2.1 = a :: r → mx_pu a = true := by
  unfold mx_okX at h
  obtain ⟨h1, h⟩ := Bool.and_eq_true_iff.mp h
  obtain ⟨h2, h⟩ := Bool.and_eq_true_iff.mp h
  obtain ⟨h3, h⟩ := Bool.and_eq_true_iff.mp h
  obtain ⟨h4, h⟩ := Bool.and_eq_true_iff.mp h
  refine ⟨h1, h2, h3, fun ht => ?_, fun e0 he => ?_⟩
  · rw [ht] at h4
    exact of_decide_eq_true h4
  · have h5 := List.all_eq_true.mp h e0 he
    refine ⟨fun n hn => ?_, fun n a r hn ha => ?_⟩
    · rcases hn with hn | hn
      · rw [hn] at h5
        rcases Bool.or_eq_true_iff.mp h5 with h6 | h6
        · exact Or.inl h6
        · exact Or.inr (of_decide_eq_true h6)
      · rw [hn] at h5
        rcases Bool.or_eq_true_iff.mp h5 with h6 | h6
        · exact Or.inl h6
        · exact Or.inr (of_decide_eq_true h6)
    · rw [hn] at h5
      dsimp only at h5
      rw [ha] at h5
      exact h5
section
variable {p : Program} {l : Launch} {e : Env} {R : Room} {s0 : State} {m : MethodId} {args : Array Value} {below : List Frame} {meth : Method} {c : Code} {D : va_G} {ca : Nat → ClassId} {bs maxL : Nat} {L : mLV} {S : List mAV} {s : mSt} {u : Nat × Nat}
set_option maxHeartbeats 4000000 in
theorem mx_lat_a {scr : mSc} {cal : Nat → List mAV → mSt → mPo → (Nat → mSt → Prop) → Prop} {mi : Nat} {post : mPo} {ex : Nat → mSt → Prop} {k : List mEn → mLV → List mAV → mSt → Nat × Nat → Prop} {e0 : mEn} {es : List mEn}
    (hCx : mx_Cx p l R s0 m args meth c true D ca bs scr (mx_y mi).cls (mx_y mi).name (mx_b mi) maxL (mx_mt mi) cal) (hcalA : mx_CalA l R true D ca bs scr cal) (hmL : maxL = mx_mL mi) (hRe : R.cells = (mx_mt mi).2.2.1 ∧ R.slots = (mx_mt mi).2.2.2.1) (hret : meth.sig.returnType = (mx_mt mi).2.1) (hlk : meth.locks = false)
    (hMs : ∀ mi, mi < mx_nM → mx_okM mi = true) (hXm : mx_okX mi = true) (htr : ∀ e, l.admits e → e.platform.stackTraces = false) (hrm : 8 ≤ R.frames ∧ 200 ≤ R.locals) (hrows : xt_Rw (mx_y mi).cls c.exceptionTable.toList (mx_mt mi).2.2.2.2.1)
    (hk : ∀ es L S s u, k es L S s u → mx_Sf (mx_mt mi).1 es → ∀ pc, (∀ e r, es = e :: r → e.1 = pc) → mx_GA p l e R s0 m args below meth c (mx_MQ below (mx_Q true D ca bs scr post ex) args s0 (mx_mt mi).2.2.1 (mx_mt mi).2.2.2.1 (fun q => bs ≤ q)) true D ca bs maxL pc L S s u)
    (hsf : mx_Sf (mx_mt mi).1 (e0 :: es)) (hlat : mx_lat e0.2.2.1 = true) (h : mx_stp true scr cal (mx_mt mi) post ex k e0 es L S s u) : mx_GA p l e R s0 m args below meth c (mx_MQ below (mx_Q true D ca bs scr post ex) args s0 (mx_mt mi).2.2.1 (mx_mt mi).2.2.2.1 (fun q => bs ≤ q)) true D ca bs maxL e0.1 L S s u := by
  subst hmL
  obtain ⟨hC, hxal, -, hthr, hinv⟩ := mx_okX_o hXm
  obtain ⟨hcns, -, hall⟩ := mx_okC_o hC
  obtain ⟨hE, hv, hs, hi⟩ := hall e0 hsf.in
  obtain ⟨hp2, hp3⟩ := hinv e0 hsf.in
  have hnx := mx_nx hcns hsf
  have hout : (mx_mt mi).2.2.2.2.2 = true → c.exceptionTable.toList = [] := fun ht => by
    rw [(hthr ht).2] at hrows
    cases hl9 : c.exceptionTable.toList with
    | nil => rfl
    | cons x xs =>
      rw [hl9] at hrows
      exact False.elim hrows
  have hret9 := mx_ret_ok (e := e) (below := below) (k := k) (es := es) (L := L) (S := S) (s := s) (u := u) (post := post) (ex := ex) hCx hRe hret hlk hE
  have hlv := mx_leave (p := p) (l := l) (e := e) (s0 := s0) (m := m) (args := args) (below := below) (D := D) (ca := ca) (bs := bs) (scr := scr) (post := post) (ex := ex) hout hlk hRe
  have hCx0 := hCx
  obtain ⟨hx, hb, hml, hown, hmn, hts, hV, hX, hXb, hbs, hR, hcal, hXT⟩ := hCx
  obtain ⟨pc, cut, ins, len, aux, ic, lc⟩ := e0
  have hd : decode (mx_b mi) pc = .ok (ins, len) := of_decide_eq_true (Bool.and_eq_true_iff.mp hE).1
  have hI := (Bool.and_eq_true_iff.mp hE).2
  cases ins with
  | new n =>
    obtain ⟨z, r, rfl, h⟩ := mx_aq_o (show mx_aq aux _ from h)
    obtain ⟨ci, r, rfl, h⟩ := mx_aq_o (show mx_aq r _ from h)
    cases z with
    | zero => exact False.elim h
    | succ z =>
      obtain ⟨ht, hS0, hh⟩ := mx_th_o (show mx_th (mx_mt mi).2.2.2.2.2 S _ from h)
      clear h hret9
      subst hS0
      have h := hh
      obtain ⟨b1, b2, h⟩ := mx_bg_o (show mx_bg (u.1 + 1) (u.2 + 6) (mx_mt mi) (ex ci s) from h)
      have hc := (hthr ht).1
      rw [hc] at hCx0
      exact mx_throw_ok hCx0 htr hrm (hout ht) hlk hRe hcns (fun e1 h1 => by have h9 := (hall e1 h1).1; rw [hc] at h9; exact h9) hxal hsf ⟨b1, b2⟩ h
  | newarray n => exact False.elim h
  | anewarray n =>
    obtain ⟨z, r, rfl, h⟩ := mx_aq_o (show mx_aq aux _ from h)
    exact False.elim h
  | aastore =>
    obtain ⟨g, y, S, rfl, h⟩ := mx_rf_o (show mx_rf S _ from h)
    obtain ⟨j, f, i, S, rfl, h⟩ := mx_ix_o (show mx_ix S _ from h)
    obtain ⟨-, h⟩ := mx_eq_o (show mx_eq (mx_fK f) 5 _ from h)
    exact False.elim h
  | putfield n => exact mx_put_ok hx hb hown hmn hts hV hE hnx hsf.tail hk h
  | invokevirtual n =>
    obtain rfl : len = 3 := of_decide_eq_true hI
    by_cases hp : mx_pu (aux.headD 0) = true
    · exact mx_inv_ok hx hb hml hown hts hV hX hXb hbs hXT hR hMs hcal hd (hv n rfl) hnx hsf.tail hk (fun a r ha => mx_pu_o (by rw [show aux = a :: r from ha] at hp; exact hp)) h
    · exact mx_invx_ok hx hb hml hown hts hV hX hXb hbs hXT hR hMs hcalA (Or.inr hrows) hlv hd (hv n rfl) hnx hsf.tail hk ((hp2 n (Or.inl rfl)).resolve_left hp) (fun n9 h9 => by cases h9) h
  | invokestatic n =>
    obtain rfl : len = 3 := of_decide_eq_true hI
    by_cases hp : mx_pu (aux.headD 0) = true
    · exact mx_inv_ok hx hb hml hown hts hV hX hXb hbs hXT hR hMs hcal hd (hs n rfl) hnx hsf.tail hk (fun a r ha => mx_pu_o (by rw [show aux = a :: r from ha] at hp; exact hp)) h
    · exact mx_invx_ok hx hb hml hown hts hV hX hXb hbs hXT hR hMs hcalA (Or.inr hrows) hlv hd (hs n rfl) hnx hsf.tail hk ((hp2 n (Or.inr rfl)).resolve_left hp) (fun n9 h9 => by cases h9) h
  | invokespecial n =>
    obtain rfl : len = 3 := of_decide_eq_true (Bool.and_eq_true_iff.mp (show (decide (len = 3) && mx_ok0 _ n aux) = true from hI)).1
    cases aux with
    | nil => exact False.elim h
    | cons a r => exact mx_inv_ok hx hb hml hown hts hV hX hXb hbs hXT hR hMs hcal hd (hi n a r rfl rfl) hnx hsf.tail hk (fun a' r' ha => by cases ha; exact mx_pu_o (hp3 n a r rfl rfl)) h
  | return_ => exact hret9 (Or.inl rfl) h
  | ireturn => exact hret9 (Or.inr (Or.inl rfl)) h
  | areturn => exact hret9 (Or.inr (Or.inr rfl)) h
  | _ => cases hlat
end
def mx_allX : Prop := (∀ mi, mi < mx_nM → mx_okM mi = true) ∧ ∀ mi, mi < mx_nM → mx_okX mi = true
theorem mx_full1 {l : Launch} {D : va_G} {ca : Nat → ClassId} {bs : Nat} {scr : mSc} {d mi : Nat} {as : List mAV} {s : mSt} {post : mPo} {ex : Nat → mSt → Prop} (hall : mx_allX) (htr : ∀ e, l.admits e → e.platform.stackTraces = false) (hmi : mi < mx_nM) (hO : mx_oS s as)
    (hCal : ∀ R : Room, d + 8 ≤ R.frames → 40 * d + 200 ≤ R.locals → mx_CalA l R true D ca bs scr (mx_XW true scr d)) (h : mx_XW true scr (d + 1) mi as s post ex) : mx_CT l true D ca bs scr d mi as s post ex := by
  have hXm := hall.2 mi hmi
  obtain ⟨hC, -, hhk, -, -⟩ := mx_okX_o hXm
  obtain ⟨hcns, hhd, hE⟩ := mx_okC_o hC
  obtain ⟨o1, o2, o3, o4, o5, -⟩ := mx_okM_o (hall.1 mi hmi)
  obtain ⟨hle, n, h⟩ := mx_eq_o (show mx_eq (Nat.ble (mx_wt as) (mx_mLs.getD mi 0)).toNat 1 _ from h)
  have hle : mx_wt as ≤ mx_mLs.getD mi 0 := Nat.le_of_ble_eq_true (by cases hb9 : Nat.ble (mx_wt as) (mx_mLs.getD mi 0) with
    | true => rfl
    | false => rw [hb9] at hle; cases hle)
  rw [mx_mLs_eq mi hmi] at hle
  refine mx_ofW o5 (fun p e s0 m args below meth c s₁ B hml hv => ?_)
  obtain ⟨rfl, hWS⟩ := hv
  have hts0 := atoms_spec (ws := mx_cw mi :: wg) B.pre
  have hts : ∀ w ∈ wg, w.before _ s0 = true := fun w h => hts0 w (List.mem_cons_of_mem _ h)
  have hrows := mx_hk_o (xt_tabl B (hts0 _ List.mem_cons_self)) hhk
  have hown := findClass_of_methodNamed B.named
  have hl := lv_entry (as.map (mx_vv bs)) (n := mx_mL mi) (by rw [mx_wt_sl]; exact hle)
  rw [lg_entry_eq]
  generalize (lg_sl (as.map (mx_vv bs)) ++ List.replicate (mx_mL mi - (lg_sl (as.map (mx_vv bs))).length) Slot.unset).toArray = ls at hl ⊢
  rw [mx_lv_args] at hl
  have hcalA := hCal (mx_rm d mi) (Nat.le_refl _) (Nat.le_refl _)
  have hCx : mx_Cx p l (mx_rm d mi) s0 m (as.map (mx_vv bs)).toArray meth c true D ca bs scr (mx_y mi).cls (mx_y mi).name (mx_b mi) (mx_mL mi) (mx_mt mi) (mx_XW true scr d) :=
    ⟨B.exec, B.bytes, hml, hown, (name_of_methodNamed B.named B.method).1, hts, hWS.2.1, hWS.2.2.2.1.1, hWS.2.2.2.1.2, hWS.2.2.1, ⟨Nat.le_refl _, Nat.le_refl _⟩, fun mi as s post ex h1 _ h2 h3 => hcalA mi as s post ex h1 h2 h3, hWS.2.2.2.2.2⟩
  have hE9 : ∀ e0 ∈ (mx_mt mi).1, mx_okE (mx_y mi).cls (mx_y mi).name (mx_b mi) (mx_mL mi) e0 = true := fun e0 he => (hE e0 he).1
  have hl8 := fun (k : List mEn → mLV → List mAV → mSt → Nat × Nat → Prop) e0 es L S s u hk hsf hlat h => mx_lat_a (below := below) (e := e) (post := post) (ex := ex) (k := k) (e0 := e0) (es := es) (L := L) (S := S) (s := s) (u := u) hCx hcalA rfl ⟨rfl, rfl⟩ B.returns B.notSynchronized hall.1 hXm htr ⟨Nat.le_add_left 8 d, Nat.le_add_left 200 (40 * d)⟩ hrows hk hsf hlat h
  refine mx_blk_ok hCx hcns hE9 (mx_xq_ok hCx hcns hE9 hl8 n) hl8 _ _ _ _ _ _ _ h ⟨[], rfl⟩ 0 (fun e r he => ?_) s0.heap [] ls hWS.1 va_S.rf hl (mx_oL_args hO) mx_oS_n ⟨Nat.zero_le _, Nat.zero_le _⟩ (fun h => by cases h)
  rw [he] at hhd
  exact Option.some.inj hhd
theorem mx_full (l : Launch) (D : va_G) (ca : Nat → ClassId) (bs : Nat) (scr : mSc) (hall : mx_allX) (htr : ∀ e, l.admits e → e.platform.stackTraces = false) : ∀ d mi as s post ex, mi < mx_nM → mx_oS s as → mx_XW true scr (d + 1) mi as s post ex → mx_CT l true D ca bs scr d mi as s post ex := by
  intro d
  induction d with
  | zero => exact fun mi as s post ex hmi hO h => mx_full1 hall htr hmi hO (fun R _ _ _ _ _ _ _ _ _ h => False.elim h) h
  | succ d ih => exact fun mi as s post ex hmi hO h => mx_full1 hall htr hmi hO (fun R h1 h2 mi as s post ex hmi hO h => ⟨d, ih mi as s post ex hmi hO h, by omega, by omega⟩) h
end
section
theorem mx_Klt {K : Nat} (h : ¬ mx_fK (mx_cod.getD K (99, 0)).1 = 9) : K < mx_KT := by
  refine Nat.lt_of_not_le fun hK => h ?_
  have hl : mx_cod.length ≤ K := hK
  rw [List.getD_eq_getElem?_getD, List.getElem?_eq_none hl]
  rfl
section
variable {ca : Nat → ClassId} {bs : Nat} {s : mSt} {f i : Nat}
theorem mx_wsn (hc : mx_cod.getD s.2.2.2 (99, 0) = (f, i)) (hK : s.2.2.2 < mx_KT) : mx_ws ca bs (mx_sn s f i) = mx_ws ca bs s ++ [(bs + s.2.2.2, mx_enc ca bs (mx_sn s f i) f i)] := by
  have e1 : (mx_sn s f i).2.2.2 = s.2.2.2 + 1 := rfl
  unfold mx_ws
  rw [e1, List.range_succ, List.map_append]
  congr 1
  · refine List.map_congr_left (fun q hq => ?_)
    have hq := List.mem_range.mp hq
    have hne : ¬ ((mx_cod.getD q (99, 0)).1 = f ∧ (mx_cod.getD q (99, 0)).2 = i) := fun h => by
      have h1 := (mx_t2 q (by omega)).1
      have h2 := (mx_t2 s.2.2.2 hK).1
      rw [h.1, h.2] at h1
      rw [hc] at h2
      have h2 : mx_num f i = s.2.2.2 := h2
      omega
    rw [mx_encC (s' := mx_sn s f i) (s := s) (mx_u2n hne) (mx_u2n hne) (mx_u2n hne)]
  · simp only [List.map_cons, List.map_nil]
    rw [hc]
theorem mx_snok (hc : mx_cod.getD s.2.2.2 (99, 0) = (f, i)) (hK : s.2.2.2 < mx_KT) : mx_ok (mx_sn s f i) (.inr (.inr (.inl (f, i)))) ∧ mx_num f i = s.2.2.2 := by
  obtain ⟨h1, h2⟩ := mx_t2 s.2.2.2 hK
  rw [hc] at h1 h2
  have h1 : mx_num f i = s.2.2.2 := h1
  exact ⟨⟨h2, by rw [h1]; exact Nat.lt_succ_self _⟩, h1⟩
theorem mx_sni : (mx_sn s f i).1 f i = fun _ => 0 := mx_u2s
theorem mx_snl : (mx_sn s f i).2.1 f i = fun _ => 0 := mx_u2s
theorem mx_snr : (mx_sn s f i).2.2.1 f i = fun _ => none := mx_u2s
end
theorem mx_addr {ca : Nat → ClassId} {bs K q : Nat} {s : mSt} {E : va_E} {D : va_G} {H1 : Heap} {n : Nat} (hP : va_P D cls (mx_ws ca bs s ++ [(q, E)]) H1) (hD : va_D (fun q => bs ≤ q) (mx_ws ca bs s ++ [(q, E)])) (hK : s.2.2.2 = K) (hsz : H1.size ≤ n) (hn : n = bs + K + 1) : q = bs + K := by
  have hat : (mx_ws ca bs s ++ [(q, E)])[K]? = some (q, E) := by
    rw [List.getElem?_append_right (by rw [mx_len]; omega), mx_len, hK, Nat.sub_self]
    rfl
  have h1 : q < H1.size := (hP K _ hat).lt
  have h2 : bs ≤ q := hD.2 K _ hat
  refine Nat.le_antisymm (by omega) (Nat.le_of_not_lt fun h => ?_)
  have hj : q - bs < s.2.2.2 := by omega
  have h3 : (mx_ws ca bs s ++ [(q, E)])[q - bs]? = some (bs + (q - bs), mx_enc ca bs s (mx_cod.getD (q - bs) (99, 0)).1 (mx_cod.getD (q - bs) (99, 0)).2) := by
    rw [List.getElem?_append_left (by rw [mx_len]; exact hj)]
    unfold mx_ws
    rw [List.getElem?_map, List.getElem?_range hj]
    rfl
  have h4 := hD.1 (q - bs) K _ _ h3 hat (by show bs + (q - bs) = q; omega)
  omega
theorem mx_dfl {ci : Nat} {C : String} {T : u_T} {N : Nat} (h : cls[ci]? = some (C, T, N)) : ∃ ty : Nat → FieldType, (∀ k, k < N → parseFieldDescriptor (T k).2.2.1 = some (ty k)) ∧ ∀ j, j < N → defaultValue (ty j) = match mx_fR ci j with
    | 0 => .int 0
    | _ + 1 => .null := by
  match ci, h with
  | 0, h => cases h; exact ⟨_, tk_Rs, by decide +kernel⟩
  | 1, h => cases h; exact ⟨_, tk_Cf, by decide +kernel⟩
  | 2, h => cases h; exact ⟨_, tk_Lg, by decide +kernel⟩
  | 3, h => cases h; exact ⟨_, tk_Rd, by decide +kernel⟩
  | 4, h => cases h; exact ⟨_, tk_Rl, by decide +kernel⟩
  | 5, h => cases h; exact ⟨_, tk_Vs, by decide +kernel⟩
  | 6, h => cases h; exact ⟨_, tk_Md, by decide +kernel⟩
  | n + 7, h => cases h
section
variable {p : Program} {l : Launch} {e : Env} {R : Room} {s0 : State} {m : MethodId} {args : Array Value} {below : List Frame} {meth : Method} {c : Code} {Q : State → Prop} {D : va_G} {ca : Nat → ClassId} {bs maxL : Nat} {L : mLV} {S : List mAV} {s : mSt} {u : Nat × Nat}
theorem mx_after {H1 : Heap} {lcs : List Loc} {ls : Array Slot} {q f i pc n : Nat} {E : va_E} (hcod : mx_cod.getD s.2.2.2 (99, 0) = (f, i)) (hK : s.2.2.2 < mx_KT) (hE : mx_enc ca bs (mx_sn s f i) f i = E)
    (hP1 : va_P D cls (mx_ws ca bs s ++ [(q, E)]) H1) (hD1 : va_D (fun q => bs ≤ q) (mx_ws ca bs s ++ [(q, E)])) (hS1 : va_S (fun q => bs ≤ q) s0.heap H1 lcs) (hl : lv_has ls maxL (mx_VL bs L)) (hL : mx_oL s L) (hO : mx_oS s S) (hu : u.1 + 1 ≤ R.cells ∧ u.2 + n ≤ R.slots) (hz : bs + s.2.2.2 = s0.heap.size + u.1)
    (hGA : mx_GA p l e R s0 m args below meth c Q false D ca bs maxL pc L (.inr (.inr (.inl (f, i))) :: S) (mx_sn s f i) (u.1 + 1, u.2 + n)) : W p l e R s0 m args below meth c H1 lcs (u.1 + 1) (u.2 + n) Q (F0 m pc ls (.ref q :: S.map (mx_vv bs))) := by
  refine mx_szW (fun hsz => ?_)
  have hq := mx_addr (K := s.2.2.2) hP1 hD1 rfl hsz (by omega)
  obtain ⟨hok, hnum⟩ := mx_snok hcod hK
  subst hq
  rw [← hE, ← mx_wsn hcod hK] at hP1
  have h9 := hGA H1 lcs ls ⟨hP1, hK, fun h => Bool.noConfusion h⟩ hS1 hl (fun x hx => mx_ok_le (Nat.le_succ _) (hL x hx)) (mx_oS_c hok (fun x hx => mx_ok_le (Nat.le_succ _) (hO x hx))) hu (fun _ => by show bs + (s.2.2.2 + 1) = s0.heap.size + (u.1 + 1); omega)
  have h9 : W p l e R s0 m args below meth c H1 lcs (u.1 + 1) (u.2 + n) Q (F0 m pc ls (.ref (bs + mx_num f i) :: S.map (mx_vv bs))) := h9
  rw [hnum] at h9
  exact h9
end
section
variable {p : Program} {l : Launch} {e : Env} {R : Room} {s0 : State} {m : MethodId} {args : Array Value} {below : List Frame} {meth : Method} {c : Code} {Q : State → Prop} {D : va_G} {ca : Nat → ClassId} {bs maxL : Nat} {L : mLV} {S : List mAV} {s : mSt} {u : Nat × Nat}
theorem mx_new_ok {scr : mSc} {cal : Nat → List mAV → mSt → mPo → (Nat → mSt → Prop) → Prop} {M : mMt} {post : mPo} {ex : Nat → mSt → Prop} {k : List mEn → mLV → List mAV → mSt → Nat × Nat → Prop} {es : List mEn} {own mn : String} {cc : ByteArray} {pc n len : Nat} {cut : Option (List Nat)} {aux : List Nat} {ic : Int32} {lc : Int64}
    (hx : p.tables.exec = Jvm.exec) (hb : c.code = cc) (hown : s0.vm.findClass own = some m.cls) (hts : ∀ w ∈ wg, w.before args s0 = true) (hV : mx_VM D ca s0) (hbs : bs ≤ s0.heap.size) (hR : M.2.2.1 ≤ R.cells ∧ M.2.2.2.1 ≤ R.slots) (hthr : M.2.2.2.2.2 = false)
    (hE : mx_okE own mn cc maxL (pc, cut, .new n, len, aux, ic, lc) = true) (hnx : ∀ e' r, es = e' :: r → e'.1 = pc + len) (hsf : mx_Sf M.1 es)
    (hk : ∀ es L S s u, k es L S s u → mx_Sf M.1 es → ∀ pc, (∀ e r, es = e :: r → e.1 = pc) → mx_GA p l e R s0 m args below meth c Q false D ca bs maxL pc L S s u)
    (h : mx_stp false scr cal M post ex k (pc, cut, .new n, len, aux, ic, lc) es L S s u) : mx_GA p l e R s0 m args below meth c Q false D ca bs maxL pc L S s u := by
  have h9 := Bool.and_eq_true_iff.mp hE
  have hd : decode cc pc = .ok (.new n, len) := of_decide_eq_true h9.1
  obtain ⟨h1, h2⟩ := Bool.and_eq_true_iff.mp (show (decide (len = 3) && mx_nk own n aux) = true from h9.2)
  obtain rfl : len = 3 := of_decide_eq_true h1
  obtain ⟨z, r, rfl, h⟩ := mx_aq_o (show mx_aq aux _ from h)
  obtain ⟨ci, r, rfl, h⟩ := mx_aq_o (show mx_aq r _ from h)
  cases z with
  | succ z =>
    have h : mx_th M.2.2.2.2.2 S (mx_bg (u.1 + 1) (u.2 + 6) M (ex ci s)) := h
    rw [hthr] at h
    exact False.elim h
  | zero =>
    obtain ⟨C, T, N, hc, w1, w2, w3⟩ := mx_nk_o h2
    have h : mx_nw s (fun f i => mx_kd f 0 (mx_eq (mx_fX f) ci (mx_bg (u.1 + 1) (u.2 + mx_nF ci) M (k es L (.inr (.inr (.inl (f, i))) :: S) (mx_sn s f i) (u.1 + 1, u.2 + mx_nF ci))))) := h
    obtain ⟨f, i, hcod, h⟩ := mx_nw_o h
    obtain ⟨h0, h⟩ := mx_eq_o (show mx_eq (mx_fK f) 0 _ from h)
    obtain ⟨hfx, h⟩ := mx_eq_o (show mx_eq (mx_fX f) ci _ from h)
    obtain ⟨b1, b2, h⟩ := mx_bg_o (show mx_bg (u.1 + 1) (u.2 + mx_nF ci) M _ from h)
    have hK : s.2.2.2 < mx_KT := mx_Klt (by rw [hcod, h0]; decide)
    obtain ⟨hin, hN⟩ := mx_cin hc
    obtain ⟨ty, hty, hdf⟩ := mx_dfl hc
    intro H lcs ls hW hS hl hL hO hu hz
    have hbud : u.1 + 1 ≤ R.cells ∧ u.2 + mx_nF ci ≤ R.slots := ⟨Nat.le_trans b1 hR.1, Nat.le_trans b2 hR.2⟩
    rw [hN] at hbud
    refine va_new (ci := ci) (fs := (List.range N).map (mx_fv bs (mx_sn s f i) f i)) hx hb hts hin ty hty hown (hts _ w1) (hts _ w2) (hts _ w3) hV.1 hW.1 mx_D hS (fun q hq => Nat.le_trans hbs hq) hc (fun j hj => ?_) hbud.1 hbud.2 hd (fun q H1 hP1 hD1 hS1 => ?_)
    · rw [hdf j hj]
      have e1 : vp_V ((List.range N).map (mx_fv bs (mx_sn s f i) f i)) j = mx_fv bs (mx_sn s f i) f i j := by
        unfold vp_V
        rw [List.getD_eq_getElem?_getD, List.getElem?_map, List.getElem?_range hj]
        rfl
      rw [e1]
      unfold mx_fv
      rw [hfx, mx_sni, mx_snr]
      cases mx_fR ci j with
      | zero => rfl
      | succ g => rfl
    · refine mx_after hcod hK ?_ hP1 hD1 hS1 hl hL hO hbud (hz rfl) ?_
      · rw [mx_enc0 h0, hfx, hN]
      · rw [← hN]
        exact hk _ _ _ _ _ h hsf _ hnx
end
end
section
theorem mx_s1 : ∀ f, f < mx_fam.length → mx_fX f ≤ 1000 := by decide +kernel
theorem mx_s2 : ∀ f, f < mx_fam.length → mx_fK f = 5 → (mx_fY f = 5 ∧ mx_tA f = 3) ∨ (mx_fY f = 14 ∧ mx_tA f = 4) := by decide +kernel
theorem mx_arI : Cond.arrayClass .int ∈ wg := k_110
theorem mx_arC : Cond.arrayClass .char ∈ wg := k_111
theorem mx_arJ : Cond.arrayClass .long ∈ wg := k_176
theorem mx_arZ : Cond.arrayClass .boolean ∈ wg := k_710
section
variable {p : Program} {l : Launch} {e : Env} {R : Room} {s0 : State} {m : MethodId} {args : Array Value} {below : List Frame} {meth : Method} {c : Code} {Q : State → Prop} {D : va_G} {ca : Nat → ClassId} {bs maxL : Nat} {L : mLV} {S : List mAV} {s : mSt} {u : Nat × Nat}
theorem mx_newa_ok {scr : mSc} {cal : Nat → List mAV → mSt → mPo → (Nat → mSt → Prop) → Prop} {M : mMt} {post : mPo} {ex : Nat → mSt → Prop} {k : List mEn → mLV → List mAV → mSt → Nat × Nat → Prop} {es : List mEn} {own mn : String} {cc : ByteArray} {pc len : Nat} {ty : ArrayType} {cut : Option (List Nat)} {aux : List Nat} {ic : Int32} {lc : Int64}
    (hx : p.tables.exec = Jvm.exec) (hb : c.code = cc) (hts : ∀ w ∈ wg, w.before args s0 = true) (hV : mx_VM D ca s0) (hbs : bs ≤ s0.heap.size) (hR : M.2.2.1 ≤ R.cells ∧ M.2.2.2.1 ≤ R.slots)
    (hE : mx_okE own mn cc maxL (pc, cut, .newarray ty, len, aux, ic, lc) = true) (hnx : ∀ e' r, es = e' :: r → e'.1 = pc + len) (hsf : mx_Sf M.1 es)
    (hk : ∀ es L S s u, k es L S s u → mx_Sf M.1 es → ∀ pc, (∀ e r, es = e :: r → e.1 = pc) → mx_GA p l e R s0 m args below meth c Q false D ca bs maxL pc L S s u)
    (h : mx_stp false scr cal M post ex k (pc, cut, .newarray ty, len, aux, ic, lc) es L S s u) : mx_GA p l e R s0 m args below meth c Q false D ca bs maxL pc L S s u := by
  have h9 := Bool.and_eq_true_iff.mp hE
  have hd : decode cc pc = .ok (.newarray ty, len) := of_decide_eq_true h9.1
  obtain rfl : len = 2 := of_decide_eq_true h9.2
  have h : mx_nw s (fun f i => mx_p1 S (fun n S => mx_eq (mx_fK f) (mx_ty ty) (n = nI (mx_fX f) ∧ mx_bg (u.1 + 1) (u.2 + mx_fX f) M (k es L (.inr (.inr (.inl (f, i))) :: S) (mx_sn s f i) (u.1 + 1, u.2 + mx_fX f))))) := h
  obtain ⟨f, i, hcod, h⟩ := mx_nw_o h
  obtain ⟨n, S, rfl, h⟩ := mx_p1_o h
  obtain ⟨hkd, hn, h⟩ := mx_eq_o h
  obtain ⟨b1, b2, h⟩ := mx_bg_o h
  have hK : s.2.2.2 < mx_KT := mx_Klt (by rw [hcod, hkd]; cases ty <;> decide)
  obtain ⟨hok, hnum⟩ := mx_snok hcod hK
  have hlen := mx_s1 f (mx_t0 hok.1)
  have hn0 : ¬ n < 0 := by rw [hn]; exact nI_pos (by omega)
  have hnN : n.toNatClampNeg = mx_fX f := by rw [hn]; exact nI_clamp (by omega)
  have hbud : u.1 + 1 ≤ R.cells ∧ u.2 + mx_fX f ≤ R.slots := ⟨Nat.le_trans b1 hR.1, Nat.le_trans b2 hR.2⟩
  have hkk := hk _ _ _ _ _ h hsf _ hnx
  intro H lcs ls hW hS hl hL hO hu hz
  have hO := mx_oS_t hO
  cases ty with
  | int =>
    refine va_newa (a0 := (mx_fX f, .inl (fun _ => 0))) (atype := .int) hx hb (hts _ mx_arI) rfl hV.1 hW.1 mx_D hS (fun q hq => Nat.le_trans hbs hq) (fun cA => rfl) hn0 hnN (by show mx_fX f * 4 ≤ _; omega) hbud.1 hbud.2 hd (fun q cA H1 hK1 hP1 hD1 hS1 => ?_)
    have hcA : cA = ca 0 := Option.some.inj ((hK1.2 6 _ rfl).2.symm.trans (hV.1.2 0 _ rfl).2)
    subst hcA
    exact mx_after hcod hK (by rw [mx_enc1 hkd, mx_sni]) hP1 hD1 hS1 hl hL hO hbud (hz rfl) hkk
  | char =>
    refine va_newa (a0 := (mx_fX f, .inl (fun _ => 0))) (atype := .char) hx hb (hts _ mx_arC) rfl hV.1 hW.1 mx_D hS (fun q hq => Nat.le_trans hbs hq) (fun cA => rfl) hn0 hnN (by show mx_fX f * 2 ≤ _; omega) hbud.1 hbud.2 hd (fun q cA H1 hK1 hP1 hD1 hS1 => ?_)
    have hcA : cA = ca 2 := Option.some.inj ((hK1.2 6 _ rfl).2.symm.trans (hV.1.2 2 _ rfl).2)
    subst hcA
    exact mx_after hcod hK (by rw [mx_enc2 hkd, mx_sni]) hP1 hD1 hS1 hl hL hO hbud (hz rfl) hkk
  | boolean =>
    refine va_newa (a0 := (mx_fX f, .inl (fun _ => 0))) (atype := .boolean) hx hb (hts _ mx_arZ) rfl hV.1 hW.1 mx_D hS (fun q hq => Nat.le_trans hbs hq) (fun cA => rfl) hn0 hnN (by show mx_fX f * 1 ≤ _; omega) hbud.1 hbud.2 hd (fun q cA H1 hK1 hP1 hD1 hS1 => ?_)
    have hcA : cA = ca 5 := Option.some.inj ((hK1.2 6 _ rfl).2.symm.trans (hV.1.2 5 _ rfl).2)
    subst hcA
    exact mx_after hcod hK (by rw [mx_enc3 hkd, mx_sni]) hP1 hD1 hS1 hl hL hO hbud (hz rfl) hkk
  | long =>
    refine va_newa (a0 := (mx_fX f, .inr (.inl (fun _ => 0)))) (atype := .long) hx hb (hts _ mx_arJ) rfl hV.1 hW.1 mx_D hS (fun q hq => Nat.le_trans hbs hq) (fun cA => rfl) hn0 hnN (by show mx_fX f * 8 ≤ _; omega) hbud.1 hbud.2 hd (fun q cA H1 hK1 hP1 hD1 hS1 => ?_)
    have hcA : cA = ca 1 := Option.some.inj ((hK1.2 6 _ rfl).2.symm.trans (hV.1.2 1 _ rfl).2)
    subst hcA
    exact mx_after hcod hK (by rw [mx_enc4 hkd, mx_snl]) hP1 hD1 hS1 hl hL hO hbud (hz rfl) hkk
  | _ =>
    exfalso
    rcases mx_t6 f (mx_t0 hok.1) with e9 | e9 | e9 | e9 | e9 | e9 <;> rw [e9] at hkd <;> cases hkd
theorem mx_newq_ok {scr : mSc} {cal : Nat → List mAV → mSt → mPo → (Nat → mSt → Prop) → Prop} {M : mMt} {post : mPo} {ex : Nat → mSt → Prop} {k : List mEn → mLV → List mAV → mSt → Nat × Nat → Prop} {es : List mEn} {own mn : String} {cc : ByteArray} {pc n0 len : Nat} {cut : Option (List Nat)} {aux : List Nat} {ic : Int32} {lc : Int64}
    (hx : p.tables.exec = Jvm.exec) (hb : c.code = cc) (hown : s0.vm.findClass own = some m.cls) (hts : ∀ w ∈ wg, w.before args s0 = true) (hV : mx_VM D ca s0) (hbs : bs ≤ s0.heap.size) (hR : M.2.2.1 ≤ R.cells ∧ M.2.2.2.1 ≤ R.slots)
    (hE : mx_okE own mn cc maxL (pc, cut, .anewarray n0, len, aux, ic, lc) = true) (hnx : ∀ e' r, es = e' :: r → e'.1 = pc + len) (hsf : mx_Sf M.1 es)
    (hk : ∀ es L S s u, k es L S s u → mx_Sf M.1 es → ∀ pc, (∀ e r, es = e :: r → e.1 = pc) → mx_GA p l e R s0 m args below meth c Q false D ca bs maxL pc L S s u)
    (h : mx_stp false scr cal M post ex k (pc, cut, .anewarray n0, len, aux, ic, lc) es L S s u) : mx_GA p l e R s0 m args below meth c Q false D ca bs maxL pc L S s u := by
  have h9 := Bool.and_eq_true_iff.mp hE
  have hd : decode cc pc = .ok (.anewarray n0, len) := of_decide_eq_true h9.1
  obtain ⟨h1, h2⟩ := Bool.and_eq_true_iff.mp (show (decide (len = 3) && mx_ak own n0 aux) = true from h9.2)
  obtain rfl : len = 3 := of_decide_eq_true h1
  obtain ⟨g, r, rfl, h⟩ := mx_aq_o (show mx_aq aux _ from h)
  obtain ⟨C, T, N, hc, w1, hg⟩ := mx_ak_o h2
  have h : mx_nw s (fun f i => mx_p1 S (fun n S => mx_eq (mx_fK f) 5 (mx_eq (mx_fY f) g (n = nI (mx_fX f) ∧ mx_bg (u.1 + 1) (u.2 + mx_fX f) M (k es L (.inr (.inr (.inl (f, i))) :: S) (mx_sn s f i) (u.1 + 1, u.2 + mx_fX f)))))) := h
  obtain ⟨f, i, hcod, h⟩ := mx_nw_o h
  obtain ⟨n, S, rfl, h⟩ := mx_p1_o h
  obtain ⟨hkd, h⟩ := mx_eq_o h
  obtain ⟨hfy, hn, h⟩ := mx_eq_o h
  obtain ⟨b1, b2, h⟩ := mx_bg_o h
  have hK : s.2.2.2 < mx_KT := mx_Klt (by rw [hcod, hkd]; decide)
  obtain ⟨hok, hnum⟩ := mx_snok hcod hK
  have hlen := mx_s1 f (mx_t0 hok.1)
  have hn0 : ¬ n < 0 := by rw [hn]; exact nI_pos (by omega)
  have hnN : n.toNatClampNeg = mx_fX f := by rw [hn]; exact nI_clamp (by omega)
  have hbud : u.1 + 1 ≤ R.cells ∧ u.2 + mx_fX f ≤ R.slots := ⟨Nat.le_trans b1 hR.1, Nat.le_trans b2 hR.2⟩
  have hkk := hk _ _ _ _ _ h hsf _ hnx
  intro H lcs ls hW hS hl hL hO hu hz
  have hO := mx_oS_t hO
  have hover : va_AO C s0 := by
    rcases hg with ⟨-, rfl⟩ | ⟨-, rfl⟩
    · exact hV.2.2.1
    · exact hV.2.2.2
  refine va_newq (C := C) hx hb hown (hts _ w1) hover hV.1 hW.1 mx_D hS (fun q hq => Nat.le_trans hbs hq) hn0 hnN (by omega) hbud.1 hbud.2 hd (fun q cA H1 hK1 hP1 hD1 hS1 => ?_)
  have hcA : cA = ca (mx_tA f) := by
    obtain ⟨_, _, -, -, -, h4⟩ := (hK1.2 6 _ rfl).2
    rcases hg with ⟨hg, rfl⟩ | ⟨hg, rfl⟩
    · rcases mx_s2 f (mx_t0 hok.1) hkd with ⟨q1, q2⟩ | ⟨q1, q2⟩
      · obtain ⟨_, _, -, -, -, h5⟩ := (hV.1.2 3 _ rfl).2
        rw [q2]
        exact Option.some.inj (h4.symm.trans h5)
      · omega
    · rcases mx_s2 f (mx_t0 hok.1) hkd with ⟨q1, q2⟩ | ⟨q1, q2⟩
      · omega
      · obtain ⟨_, _, -, -, -, h5⟩ := (hV.1.2 4 _ rfl).2
        rw [q2]
        exact Option.some.inj (h4.symm.trans h5)
  subst hcA
  exact mx_after hcod hK (by rw [mx_enc5 hkd, mx_snr]; rfl) hP1 hD1 hS1 hl hL hO hbud (hz rfl) hkk
theorem mx_aast_ok {scr : mSc} {cal : Nat → List mAV → mSt → mPo → (Nat → mSt → Prop) → Prop} {M : mMt} {post : mPo} {ex : Nat → mSt → Prop} {k : List mEn → mLV → List mAV → mSt → Nat × Nat → Prop} {es : List mEn} {own mn : String} {cc : ByteArray} {pc len : Nat} {cut : Option (List Nat)} {aux : List Nat} {ic : Int32} {lc : Int64}
    (hx : p.tables.exec = Jvm.exec) (hb : c.code = cc) (hV : mx_VM D ca s0)
    (hE : mx_okE own mn cc maxL (pc, cut, .aastore, len, aux, ic, lc) = true) (hnx : ∀ e' r, es = e' :: r → e'.1 = pc + len) (hsf : mx_Sf M.1 es)
    (hk : ∀ es L S s u, k es L S s u → mx_Sf M.1 es → ∀ pc, (∀ e r, es = e :: r → e.1 = pc) → mx_GA p l e R s0 m args below meth c Q false D ca bs maxL pc L S s u)
    (h : mx_stp false scr cal M post ex k (pc, cut, .aastore, len, aux, ic, lc) es L S s u) : mx_GA p l e R s0 m args below meth c Q false D ca bs maxL pc L S s u := by
  have h9 := Bool.and_eq_true_iff.mp hE
  have hd : decode cc pc = .ok (.aastore, len) := of_decide_eq_true h9.1
  obtain rfl : len = 1 := of_decide_eq_true h9.2
  obtain ⟨g, y, S, rfl, h⟩ := mx_rf_o (show mx_rf S _ from h)
  obtain ⟨j, f, i, S, rfl, h⟩ := mx_ix_o (show mx_ix S _ from h)
  obtain ⟨hkd, h⟩ := mx_eq_o (show mx_eq (mx_fK f) 5 _ from h)
  obtain ⟨-, h⟩ := mx_no_o h
  obtain ⟨hfy, hin, hh⟩ := mx_eq_o h
  clear h
  subst hfy
  have hkk := hk _ _ _ _ _ hh hsf _ hnx
  intro H lcs ls hW hS hl hL hO hu hz
  have hokv := mx_oS_h hO
  have hok := mx_oS_h (mx_oS_t (mx_oS_t hO))
  have fin : ∀ (t0 ci : Nat) (r : vw_C), (tyl ca)[t0]? = some (ca (mx_tA f), FieldType.object r.1) → cls[ci]? = some r → mx_fK (mx_fY f) = 0 → mx_fX (mx_fY f) = ci → W p l e R s0 m args below meth c H lcs u.1 u.2 Q (F0 m pc ls ((Sum.inr (Sum.inr (Sum.inl (mx_fY f, y))) :: Sum.inl j :: Sum.inr (Sum.inr (Sum.inl (f, i))) :: S).map (mx_vv bs))) := fun t0 ci r ht hc h0 h1 => by
    refine va_astq hx hb hV.1 hW.1 mx_D hS (mx_num f i) t0 (mx_num (mx_fY f) y) ci ((mx_at hok).trans (by rw [mx_enc5 hkd])) ht ((mx_at hokv).trans (by rw [mx_enc0 h0, h1])) hc hin hd (fun H1 lcs1 hP1 _ hS1 => ?_)
    exact hkk H1 lcs1 ls (mx_WH_sp hW hok (Or.inl rfl) (mx_enc5p hkd) hP1) hS1 hl hL (mx_oS_t (mx_oS_t (mx_oS_t hO))) hu hz
  rcases mx_s2 f (mx_t0 hok.1) hkd with ⟨q1, q2⟩ | ⟨q1, q2⟩
  · exact fin 3 4 (R_Rl, T_Rl, 13) (by rw [q2]; rfl) rfl (by rw [q1]; rfl) (by rw [q1]; rfl)
  · exact fin 4 5 (R_Vs, T_Vs, 5) (by rw [q2]; rfl) rfl (by rw [q1]; rfl) (by rw [q1]; rfl)
end
end
section
def mx_isR : Instr → Bool
  | .return_ => true
  | .ireturn => true
  | .areturn => true
  | _ => false
theorem mx_oi1 : Cond.instanceMethod Lib.objectInit ∈ wg := wg_in (List.mem_append_right _ (List.mem_of_getElem? (i := 23) (by decide +kernel))) rfl
theorem mx_oi2 : Cond.code Lib.objectInit ⟨#[0xb1]⟩ 1 none ∈ wg := wg_in (List.mem_append_right _ (List.mem_of_getElem? (i := 24) (by decide +kernel))) rfl
section
variable {p : Program} {l : Launch} {e : Env} {R : Room} {s0 : State} {m : MethodId} {args : Array Value} {below : List Frame} {meth : Method} {c : Code} {Q : State → Prop} {D : va_G} {ca : Nat → ClassId} {bs maxL : Nat} {L : mLV} {S : List mAV} {s : mSt} {u : Nat × Nat}
set_option maxHeartbeats 4000000 in
theorem mx_lat_f {scr : mSc} {cal : Nat → List mAV → mSt → mPo → (Nat → mSt → Prop) → Prop} {M : mMt} {post : mPo} {ex : Nat → mSt → Prop} {k : List mEn → mLV → List mAV → mSt → Nat × Nat → Prop} {e0 : mEn} {es : List mEn} {own mn : String} {cc : ByteArray}
    (hCx : mx_Cx p l R s0 m args meth c false D ca bs scr own mn cc maxL M cal) (hcns : mx_cns M.1 = true) (hE : mx_okE own mn cc maxL e0 = true) (hthr : M.2.2.2.2.2 = false) (hrm : 8 ≤ R.frames ∧ 200 ≤ R.locals) (hMs : ∀ mi, mi < mx_nM → mx_okM mi = true)
    (hiv : ∀ n, e0.2.2.1 = .invokevirtual n ∨ e0.2.2.1 = .invokestatic n ∨ e0.2.2.1 = .invokespecial n → (e0.2.2.2.2.1 = [] ∧ e0.2.2.1 = .invokespecial n ∧ Cond.methodLink own n Lib.objectInit ∈ wg) ∨ (mx_iv own e0.2.2.1 e0.2.2.2.2.1 = true ∧ ∀ a r, e0.2.2.2.2.1 = a :: r → mx_pu a = true))
    (hret : mx_isR e0.2.2.1 = true → mx_stp false scr cal M post ex k e0 es L S s u → mx_GA p l e R s0 m args below meth c Q false D ca bs maxL e0.1 L S s u)
    (hk : ∀ es L S s u, k es L S s u → mx_Sf M.1 es → ∀ pc, (∀ e r, es = e :: r → e.1 = pc) → mx_GA p l e R s0 m args below meth c Q false D ca bs maxL pc L S s u)
    (hsf : mx_Sf M.1 (e0 :: es)) (hlat : mx_lat e0.2.2.1 = true) (h : mx_stp false scr cal M post ex k e0 es L S s u) : mx_GA p l e R s0 m args below meth c Q false D ca bs maxL e0.1 L S s u := by
  have hnx := mx_nx hcns hsf
  obtain ⟨hx, hb, hml, hown, hmn, hts, hV, hX, hXb, hbs, hR, hcal, hXT⟩ := hCx
  obtain ⟨pc, cut, ins, len, aux, ic, lc⟩ := e0
  have hd : decode cc pc = .ok (ins, len) := of_decide_eq_true (Bool.and_eq_true_iff.mp hE).1
  have hI := (Bool.and_eq_true_iff.mp hE).2
  cases ins with
  | new n => exact mx_new_ok hx hb hown hts hV hbs hR hthr hE hnx hsf.tail hk h
  | newarray n => exact mx_newa_ok hx hb hts hV hbs hR hE hnx hsf.tail hk h
  | anewarray n => exact mx_newq_ok hx hb hown hts hV hbs hR hE hnx hsf.tail hk h
  | aastore => exact mx_aast_ok hx hb hV hE hnx hsf.tail hk h
  | putfield n => exact mx_put_ok hx hb hown hmn hts hV hE hnx hsf.tail hk h
  | invokevirtual n =>
    obtain rfl : len = 3 := of_decide_eq_true hI
    rcases hiv n (Or.inl rfl) with ⟨-, h9, -⟩ | ⟨hv, hp⟩
    · cases h9
    · exact mx_inv_ok hx hb hml hown hts hV hX hXb hbs hXT hR hMs hcal hd hv hnx hsf.tail hk (fun a r ha => mx_pu_o (hp a r ha)) h
  | invokestatic n =>
    obtain rfl : len = 3 := of_decide_eq_true hI
    rcases hiv n (Or.inr (Or.inl rfl)) with ⟨-, h9, -⟩ | ⟨hv, hp⟩
    · cases h9
    · exact mx_inv_ok hx hb hml hown hts hV hX hXb hbs hXT hR hMs hcal hd hv hnx hsf.tail hk (fun a r ha => mx_pu_o (hp a r ha)) h
  | invokespecial n =>
    obtain rfl : len = 3 := of_decide_eq_true (Bool.and_eq_true_iff.mp (show (decide (len = 3) && mx_ok0 _ n aux) = true from hI)).1
    rcases hiv n (Or.inr (Or.inr rfl)) with ⟨h8, -, hw⟩ | ⟨hv, hp⟩
    · obtain rfl : aux = [] := h8
      obtain ⟨r, S, rfl, h⟩ := mx_r1_o (show mx_r1 S (fun _ S => mx_em S (k es L [] s u)) from h)
      cases S with
      | cons _ _ => exact False.elim h
      | nil =>
        have hkk := hk _ _ _ _ _ (show k es L [] s u from h) hsf.tail _ hnx
        intro H lcs ls hW hS hl hL hO hu hz
        have hgo := hkk H lcs ls hW hS hl hL mx_oS_n hu hz
        rcases r with ⟨f, i⟩ | a
        · exact W.objInit hx hb hown (hts _ hw) (hts _ mx_oi1) (hts _ mx_oi2) (g := F0 m pc ls [.ref (bs + mx_num f i)]) rfl (hl.1.trans hml.symm) (rest := []) rfl hd (by omega) (by show 2 * 0 + 0 + 12 ≤ R.locals; omega) hgo
        · exact W.objInit hx hb hown (hts _ hw) (hts _ mx_oi1) (hts _ mx_oi2) (g := F0 m pc ls [.ref a]) rfl (hl.1.trans hml.symm) (rest := []) rfl hd (by omega) (by show 2 * 0 + 0 + 12 ≤ R.locals; omega) hgo
    · cases aux with
      | nil => cases hv
      | cons a r => exact mx_inv_ok hx hb hml hown hts hV hX hXb hbs hXT hR hMs hcal hd hv hnx hsf.tail hk (fun a' r' ha => mx_pu_o (hp a' r' ha)) h
  | return_ => exact hret rfl h
  | ireturn => exact hret rfl h
  | areturn => exact hret rfl h
  | _ => cases hlat
end
def mx_oiC (mi : Nat) : Bool := (mx_mt mi).1.all (fun e => match e.2.2.1 with
  | .invokespecial n => match e.2.2.2.2.1 with
    | [] => decide (Cond.methodLink (mx_y mi).cls n Lib.objectInit ∈ lw_tbl)
    | _ :: _ => true
  | _ => true)
def mx_allF : Prop := (∀ mi, mi < mx_nM → mx_okM mi = true) ∧ ∀ mi, mi < mx_nM → mx_pu mi = true → mx_okC mi = true ∧ mx_puC mi = true ∧ mx_oiC mi = true
theorem mx_make1 {l : Launch} {D : va_G} {ca : Nat → ClassId} {bs : Nat} {scr : mSc} {d mi : Nat} {as : List mAV} {s : mSt} {post : mPo} {ex : Nat → mSt → Prop} (hall : mx_allF) (hmi : mi < mx_nM) (hpu : mx_pu mi = true) (hO : mx_oS s as)
    (hCal : ∀ R : Room, d + 8 ≤ R.frames → 40 * d + 200 ≤ R.locals → mx_Cal l R false D ca bs scr (mx_XW false scr d)) (h : mx_XW false scr (d + 1) mi as s post ex) : mx_CT l false D ca bs scr d mi as s post ex := by
  obtain ⟨hC, hpC, hoC⟩ := hall.2 mi hmi hpu
  obtain ⟨hcns, hhd, hE⟩ := mx_okC_o hC
  obtain ⟨o1, o2, o3, o4, o5, -⟩ := mx_okM_o (hall.1 mi hmi)
  obtain ⟨hle, n, h⟩ := mx_eq_o (show mx_eq (Nat.ble (mx_wt as) (mx_mLs.getD mi 0)).toNat 1 _ from h)
  have hle : mx_wt as ≤ mx_mLs.getD mi 0 := Nat.le_of_ble_eq_true (by cases hb9 : Nat.ble (mx_wt as) (mx_mLs.getD mi 0) with
    | true => rfl
    | false => rw [hb9] at hle; cases hle)
  rw [mx_mLs_eq mi hmi] at hle
  refine mx_ofW o5 (fun p e s0 m args below meth c s₁ B hml hv => ?_)
  obtain ⟨rfl, hWS⟩ := hv
  have hts0 := atoms_spec (ws := mx_cw mi :: wg) B.pre
  have hts : ∀ w ∈ wg, w.before _ s0 = true := fun w h => hts0 w (List.mem_cons_of_mem _ h)
  have hown := findClass_of_methodNamed B.named
  have hl := lv_entry (as.map (mx_vv bs)) (n := mx_mL mi) (by rw [mx_wt_sl]; exact hle)
  rw [lg_entry_eq]
  generalize (lg_sl (as.map (mx_vv bs)) ++ List.replicate (mx_mL mi - (lg_sl (as.map (mx_vv bs))).length) Slot.unset).toArray = ls at hl ⊢
  rw [mx_lv_args] at hl
  have hCx : mx_Cx p l (mx_rm d mi) s0 m (as.map (mx_vv bs)).toArray meth c false D ca bs scr (mx_y mi).cls (mx_y mi).name (mx_b mi) (mx_mL mi) (mx_mt mi) (mx_XW false scr d) :=
    ⟨B.exec, B.bytes, hml, hown, (name_of_methodNamed B.named B.method).1, hts, hWS.2.1, hWS.2.2.2.1.1, hWS.2.2.2.1.2, hWS.2.2.1, ⟨Nat.le_refl _, Nat.le_refl _⟩, hCal _ (Nat.le_refl _) (Nat.le_refl _), hWS.2.2.2.2.2⟩
  have hE9 : ∀ e0 ∈ (mx_mt mi).1, mx_okE (mx_y mi).cls (mx_y mi).name (mx_b mi) (mx_mL mi) e0 = true := fun e0 he => (hE e0 he).1
  have hl8 := fun (k : List mEn → mLV → List mAV → mSt → Nat × Nat → Prop) (e0 : mEn) (es : List mEn) L S s u hk (hsf : mx_Sf (mx_mt mi).1 (e0 :: es)) hlat h => mx_lat_f (below := below) (e := e) (post := post) (ex := ex) (k := k) (e0 := e0) (es := es) (L := L) (S := S) (s := s) (u := u) (Q := mx_MQ below (mx_Q false D ca bs scr post ex) (as.map (mx_vv bs)).toArray s0 (mx_mt mi).2.2.1 (mx_mt mi).2.2.2.1 (fun q => bs ≤ q)) hCx hcns (hE9 e0 hsf.in) (mx_pu_o hpu).2 ⟨Nat.le_add_left 8 d, Nat.le_add_left 200 (40 * d)⟩ hall.1 (fun n hn => by
    obtain ⟨-, hv, hs, hi⟩ := hE e0 hsf.in
    have hp := List.all_eq_true.mp hpC e0 hsf.in
    have ho := List.all_eq_true.mp hoC e0 hsf.in
    rcases hn with hn | hn | hn
    · rw [hn] at hp ⊢
      refine Or.inr ⟨hv n hn, fun a r ha => ?_⟩
      dsimp only at hp
      rw [ha] at hp
      exact hp
    · rw [hn] at hp ⊢
      refine Or.inr ⟨hs n hn, fun a r ha => ?_⟩
      dsimp only at hp
      rw [ha] at hp
      exact hp
    · rw [hn] at hp ho ⊢
      dsimp only at hp ho
      cases ha : e0.2.2.2.2.1 with
      | nil =>
        rw [ha] at ho
        exact Or.inl ⟨rfl, rfl, wg_in (of_decide_eq_true ho) rfl⟩
      | cons a r =>
        rw [ha] at hp
        refine Or.inr ⟨hi n a r hn ha, fun a' r' h9 => ?_⟩
        cases h9
        exact hp) (fun hr h9 => mx_ret_ok (e := e) (below := below) (k := k) (es := es) (L := L) (S := S) (s := s) (u := u) (post := post) (ex := ex) hCx ⟨rfl, rfl⟩ B.returns B.notSynchronized (hE9 e0 hsf.in) (by
    cases h8 : e0.2.2.1 <;> rw [h8] at hr <;> first | exact Or.inl rfl | exact Or.inr (Or.inl rfl) | exact Or.inr (Or.inr rfl) | cases hr) h9) hk hsf hlat h
  refine mx_blk_ok hCx hcns hE9 (mx_xq_ok hCx hcns hE9 hl8 n) hl8 _ _ _ _ _ _ _ h ⟨[], rfl⟩ 0 (fun e r he => ?_) s0.heap [] ls hWS.1 va_S.rf hl (mx_oL_args hO) mx_oS_n ⟨Nat.zero_le _, Nat.zero_le _⟩ (fun _ => by rw [hWS.2.2.2.2.1 rfl]; rfl)
  rw [he] at hhd
  exact Option.some.inj hhd
theorem mx_make (l : Launch) (D : va_G) (ca : Nat → ClassId) (bs : Nat) (scr : mSc) (hall : mx_allF) : ∀ d mi as s post ex, mi < mx_nM → mx_pu mi = true → mx_oS s as → mx_XW false scr (d + 1) mi as s post ex → mx_CT l false D ca bs scr d mi as s post ex := by
  intro d
  induction d with
  | zero => exact fun mi as s post ex hmi hpu hO h => mx_make1 hall hmi hpu hO (fun R _ _ _ _ _ _ _ _ _ _ h => False.elim h) h
  | succ d ih => exact fun mi as s post ex hmi hpu hO h => mx_make1 hall hmi hpu hO (fun R h1 h2 mi as s post ex hmi hpu hO h => ⟨d, ih mi as s post ex hmi hpu hO h, by omega, by omega⟩) h
end
section
theorem mx_okE_mn {own mn mn' : String} {cc : ByteArray} {maxL : Nat} {e : mEn} (hn : ∀ n, ¬ e.2.2.1 = .putfield n) : mx_okE own mn cc maxL e = mx_okE own mn' cc maxL e := by
  obtain ⟨pc, cut, ins, len, aux, ic, lc⟩ := e
  unfold mx_okE
  congr 1
  cases ins <;> first | rfl | exact absurd rfl (hn _)
theorem mx_GA_tf {p : Program} {l : Launch} {e : Env} {R : Room} {s0 : State} {m : MethodId} {args : Array Value} {below : List Frame} {meth : Method} {c : Code} {Q : State → Prop} {D : va_G} {ca : Nat → ClassId} {bs maxL pc : Nat} {L : mLV} {S : List mAV} {s : mSt} {u : Nat × Nat} (hM : mx_Made s) (h : mx_GA p l e R s0 m args below meth c Q true D ca bs maxL pc L S s u) : mx_GA p l e R s0 m args below meth c Q false D ca bs maxL pc L S s u :=
  fun H lcs ls hW hS hl hL hO hu _ => h H lcs ls ⟨hW.1, hW.2.1, fun _ => hM⟩ hS hl hL hO hu (fun h => Bool.noConfusion h)
section
variable {p : Program} {l : Launch} {e : Env} {R : Room} {s0 : State} {m : MethodId} {args : Array Value} {below : List Frame} {meth : Method} {c : Code} {Q : State → Prop} {D : va_G} {ca : Nat → ClassId} {bs maxL : Nat} {L : mLV} {S : List mAV} {s : mSt} {u : Nat × Nat}
set_option maxHeartbeats 4000000 in
theorem mx_lat_l {scr : mSc} {cal : Nat → List mAV → mSt → mPo → (Nat → mSt → Prop) → Prop} {M : mMt} {post : mPo} {ex : Nat → mSt → Prop} {k : List mEn → mLV → List mAV → mSt → Nat × Nat → Prop} {e0 : mEn} {es : List mEn} {own mn : String} {cc : ByteArray}
    (hCx : mx_Cx p l R s0 m args meth c true D ca bs scr own mn cc maxL M cal) (hcalA : mx_CalA l R true D ca bs scr cal) (hcns : mx_cns M.1 = true) (hE : mx_okE own mn cc maxL e0 = true) (hthr : M.2.2.2.2.2 = false) (hh0 : M.2.2.2.2.1 = []) (hMs : ∀ mi, mi < mx_nM → mx_okM mi = true)
    (hiv : ∀ n, e0.2.2.1 = .invokevirtual n ∨ e0.2.2.1 = .invokestatic n ∨ (e0.2.2.1 = .invokespecial n ∧ ¬ e0.2.2.2.2.1 = []) → mx_iv own e0.2.2.1 e0.2.2.2.2.1 = true ∧ ((∀ a r, e0.2.2.2.2.1 = a :: r → mx_pu a = true) ∨ (e0.2.2.2.2.1.getD 7 0 = 0 ∧ ∀ n, ¬ e0.2.2.1 = .invokespecial n)))
    (hret : mx_isR e0.2.2.1 = true → mx_stp true scr cal M post ex k e0 es L S s u → mx_GA p l e R s0 m args below meth c Q true D ca bs maxL e0.1 L S s u)
    (hk : ∀ es L S s u, k es L S s u → mx_Sf M.1 es → ∀ pc, (∀ e r, es = e :: r → e.1 = pc) → mx_GA p l e R s0 m args below meth c Q true D ca bs maxL pc L S s u)
    (hsf : mx_Sf M.1 (e0 :: es)) (hlat : mx_lat e0.2.2.1 = true) (h : mx_stp true scr cal M post ex k e0 es L S s u) : mx_GA p l e R s0 m args below meth c Q true D ca bs maxL e0.1 L S s u := by
  have hnx := mx_nx hcns hsf
  obtain ⟨hx, hb, hml, hown, hmn, hts, hV, hX, hXb, hbs, hR, hcal, hXT⟩ := hCx
  obtain ⟨pc, cut, ins, len, aux, ic, lc⟩ := e0
  have hd : decode cc pc = .ok (ins, len) := of_decide_eq_true (Bool.and_eq_true_iff.mp hE).1
  have hI := (Bool.and_eq_true_iff.mp hE).2
  cases ins with
  | new n =>
    obtain ⟨z, r, rfl, h⟩ := mx_aq_o (show mx_aq aux _ from h)
    obtain ⟨ci, r, rfl, h⟩ := mx_aq_o (show mx_aq r _ from h)
    cases z with
    | zero => exact False.elim h
    | succ z =>
      have h : mx_th M.2.2.2.2.2 S (mx_bg (u.1 + 1) (u.2 + 6) M (ex ci s)) := h
      rw [hthr] at h
      exact False.elim h
  | newarray n => exact False.elim h
  | anewarray n =>
    obtain ⟨z, r, rfl, h⟩ := mx_aq_o (show mx_aq aux _ from h)
    exact False.elim h
  | aastore =>
    obtain ⟨g, y, S, rfl, h⟩ := mx_rf_o (show mx_rf S _ from h)
    obtain ⟨j, f, i, S, rfl, h⟩ := mx_ix_o (show mx_ix S _ from h)
    obtain ⟨-, h⟩ := mx_eq_o (show mx_eq (mx_fK f) 5 _ from h)
    exact False.elim h
  | putfield n => exact mx_put_ok hx hb hown hmn hts hV hE hnx hsf.tail hk h
  | invokevirtual n =>
    obtain rfl : len = 3 := of_decide_eq_true hI
    obtain ⟨hv, hp | ⟨hp, -⟩⟩ := hiv n (Or.inl rfl)
    · exact mx_inv_ok hx hb hml hown hts hV hX hXb hbs hXT hR hMs hcal hd hv hnx hsf.tail hk (fun a r ha => mx_pu_o (hp a r ha)) h
    · exact mx_invx_ok hx hb hml hown hts hV hX hXb hbs hXT hR hMs hcalA (Or.inl hh0) (fun _ _ _ _ _ _ _ _ h9 => by rw [hthr] at h9; cases h9) hd hv hnx hsf.tail hk hp (fun n9 h9 => by cases h9) h
  | invokestatic n =>
    obtain rfl : len = 3 := of_decide_eq_true hI
    obtain ⟨hv, hp | ⟨hp, -⟩⟩ := hiv n (Or.inr (Or.inl rfl))
    · exact mx_inv_ok hx hb hml hown hts hV hX hXb hbs hXT hR hMs hcal hd hv hnx hsf.tail hk (fun a r ha => mx_pu_o (hp a r ha)) h
    · exact mx_invx_ok hx hb hml hown hts hV hX hXb hbs hXT hR hMs hcalA (Or.inl hh0) (fun _ _ _ _ _ _ _ _ h9 => by rw [hthr] at h9; cases h9) hd hv hnx hsf.tail hk hp (fun n9 h9 => by cases h9) h
  | invokespecial n =>
    obtain rfl : len = 3 := of_decide_eq_true (Bool.and_eq_true_iff.mp (show (decide (len = 3) && mx_ok0 _ n aux) = true from hI)).1
    cases aux with
    | nil => exact False.elim h
    | cons a r =>
      obtain ⟨hv, hp | ⟨-, hp⟩⟩ := hiv n (Or.inr (Or.inr ⟨rfl, fun h9 => by cases h9⟩))
      · exact mx_inv_ok hx hb hml hown hts hV hX hXb hbs hXT hR hMs hcal hd hv hnx hsf.tail hk (fun a' r' ha => mx_pu_o (hp a' r' ha)) h
      · exact absurd rfl (hp n)
  | return_ => exact hret rfl h
  | ireturn => exact hret rfl h
  | areturn => exact hret rfl h
  | _ => cases hlat
end
end
section
def R_law : String := "RelationStoreLaw"
def lw_P (b : Addr) (xs : List Int32) (args : Array Value) (s : State) : Prop := args = #[.ref b] ∧ s.IntsAt b xs ∧ xs.length ≤ 3585 ∧ (Jvm.Cond.and given_1 narrow_1).before args s = true
def lw_Q (_ : Array Value) (s : State) (o : Outcome) (t : State) : Prop := o = .returned (some (.int 1)) ∧ Framed s o t [] 601024 7293000
def lw_Z (below : List Frame) (a : Array Value) (s : State) : State → Prop := fun t => ∃ o, t.status = .running ∧ Ended t below o ∧ lw_Q a s o t
theorem lw_ret {p : Program} {l : Launch} {e : Env} {s : State} {m : MethodId} {below : List Frame} {meth : Method} {c : Code} {b : Nat} (hx : p.tables.exec = Jvm.exec) (hb : c.code = code) (hr : meth.sig.returnType = ret) (hlocks : meth.locks = false) {pc : Nat} {H : Heap} {ls : Array Slot} (hdg : decode code pc = .ok (.ireturn, 1)) : W p l e room_1 s m #[Value.ref b] below meth c H [] 601024 7293000 (lw_Z below #[Value.ref b] s) (F0 m pc ls [.int 1]) := by
  intro T hT X
  obtain ⟨fs, hret, hrun, hended, hW, hframe⟩ := X.leave (v := some (.int 1)) (hlocks := hlocks) (fun h => by rw [hr] at h; cases h)
  have hmeth' : T.vm.method? m = some meth := X.method'
  refine ⟨T.setFrames fs, ?_, .returned (some (.int 1)), hrun, hended, rfl, ⟨_, rfl⟩, hW, hframe⟩
  jvm_step X.here [X.here.top, hx, hb, hdg, hmeth', hr, ret, narrow_b1]
  (try refine ⟨rfl, ?_⟩); (try refine ⟨rfl, ?_⟩)
  first | (intro acts; rw [hret _ acts rfl rfl rfl]) | rw [hret _ _ rfl rfl rfl]
  exact Steps.refl _
def lw_At (p : Program) (s : State) (m : MethodId) (meth : Method) (c : Code) (b L : Nat) (xs : Nat → Int32) : Prop :=
  p.tables.exec = Jvm.exec ∧ c.code = code ∧ meth.sig.returnType = ret ∧ c.maxLocals = 7 ∧ s.vm.findClass R_law = some m.cls ∧ (∀ w ∈ lw_tbl, w.before #[Value.ref b] s = true) ∧ va_X b L xs s s.heap ∧ b < s.heap.size ∧ meth.locks = false ∧ (Jvm.Cond.and given_1 narrow_1).before #[Value.ref b] s = true
end
section
def lw_sm : Cond → Bool
  | .lays .. => true
  | .laysFinal .. => true
  | .instantiable .. => true
  | .arrayClass .. => true
  | .arrayOver .. => true
  | .declares .. => true
  | .castable .. => true
  | .laysStatic .. => true
  | _ => false
def lw_nd : List Cond := cls.flatMap (fun q => .instantiable q.1 q.2.2 :: u_ws q.1 q.2.1 q.2.2) ++ ([.arrayClass .int, .arrayClass .long, .arrayClass .char, .arrayClass .boolean, .arrayOver (.object R_Rl), .arrayOver (.object R_Vs)] ++ (xt_ws.take 6 ++ xt_hs.take 2))
theorem lw_nd_in : lw_nd.all (fun w => decide (w ∈ lw_tbl.filter lw_sm)) = true := by decide +kernel
theorem lw_nd_o {w : Cond} (h : w ∈ lw_nd) : w ∈ lw_tbl := (List.mem_filter.mp (of_decide_eq_true (List.all_eq_true.mp lw_nd_in w h))).1
theorem lw_nr_in : (xt_ws.drop 6 ++ xt_hs.drop 2).all (fun w => decide (w ∈ flatC (Jvm.Cond.and given_1 narrow_1))) = true := by decide +kernel
theorem lw_arr {A : Array Value} {s : State} {ty : FieldType} (h : (Cond.arrayClass ty).before A s = true) (hp : ∀ C, ¬ ty = .object C) : ∃ cA, ArrOfT s cA ty ∧ va_RA s cA ty := by
  obtain ⟨cA, k, comp, h1, h2, h3⟩ := Cond.arrayClass_spec h
  refine ⟨cA, fun N z => ⟨(fun k h => by cases h), k, h2, comp, h3⟩, ?_⟩
  unfold va_RA
  split
  · rename_i C
    exact absurd rfl (hp C)
  · exact h1
theorem lw_arrO {A : Array Value} {s : State} {C : String} (h : (Cond.arrayOver (.object C)).before A s = true) : ∃ cA, ArrOfT s cA (.object C) ∧ va_RA s cA (.object C) := by
  obtain ⟨comp, cA, k, h1, h2, h3, h4, h5⟩ := Cond.arrayOver_spec h
  exact ⟨cA, fun N z => ⟨(fun k h => by cases h), k, h3, comp, h4⟩, k, comp, h3, h4, h1, h5⟩
theorem lw_known {A : Array Value} {s : State} (hts : ∀ w ∈ lw_tbl, w.before A s = true) : ∃ (D : va_G) (ca : Nat → ClassId), va_K D cls (tyl ca) s := by
  have hw : ∀ w ∈ lw_nd, w.before A s = true := fun w h => hts w (lw_nd_o h)
  have hk : ∀ c : Nat, ∃ r : ClassId × (Nat → Nat), ∀ q : vw_C, cls[c]? = some q → u_Kn s q.1 q.2.1 q.2.2 r.1 r.2 := by
    intro c
    cases h : cls[c]? with
    | none => exact ⟨((0 : Nat), fun _ => 0), fun q h => by cases h⟩
    | some q =>
      have hq := List.mem_of_getElem? h
      have hin : ∀ w ∈ Cond.instantiable q.1 q.2.2 :: u_ws q.1 q.2.1 q.2.2, w ∈ lw_nd := fun w hw => List.mem_append_left _ (List.mem_flatMap.mpr ⟨q, hq, hw⟩)
      obtain ⟨cC, iS, h9⟩ := u_known (ws := lw_nd) (args := A) hw (fun w hw => hin w (List.mem_cons_of_mem _ hw)) (hw _ (hin _ List.mem_cons_self))
      exact ⟨(cC, iS), fun q' h' => by cases h'; exact h9⟩
  obtain ⟨a0, f0⟩ := lw_arr (hw (.arrayClass .int) (List.mem_append_right _ (List.mem_append_left _ (by simp)))) (fun C h => by cases h)
  obtain ⟨a1, f1⟩ := lw_arr (hw (.arrayClass .long) (List.mem_append_right _ (List.mem_append_left _ (by simp)))) (fun C h => by cases h)
  obtain ⟨a2, f2⟩ := lw_arr (hw (.arrayClass .char) (List.mem_append_right _ (List.mem_append_left _ (by simp)))) (fun C h => by cases h)
  obtain ⟨a5, f5⟩ := lw_arr (hw (.arrayClass .boolean) (List.mem_append_right _ (List.mem_append_left _ (by simp)))) (fun C h => by cases h)
  obtain ⟨a3, f3⟩ := lw_arrO (hw (.arrayOver (.object R_Rl)) (List.mem_append_right _ (List.mem_append_left _ (by simp))))
  obtain ⟨a4, f4⟩ := lw_arrO (hw (.arrayOver (.object R_Vs)) (List.mem_append_right _ (List.mem_append_left _ (by simp))))
  refine ⟨(fun c => (Classical.choose (hk c)).1, fun c => (Classical.choose (hk c)).2), fun k => match k with | 0 => a0 | 1 => a1 | 2 => a2 | 3 => a3 | 4 => a4 | _ => a5, fun c q hq => Classical.choose_spec (hk c) q hq, fun k q hq => ?_⟩
  match k, hq with
  | 0, hq => cases hq; exact f0
  | 1, hq => cases hq; exact f1
  | 2, hq => cases hq; exact f2
  | 3, hq => cases hq; exact f3
  | 4, hq => cases hq; exact f4
  | 5, hq => cases hq; exact f5
  | _ + 6, hq => cases hq
theorem lw_thrown {A : Array Value} {s : State} (hts : ∀ w ∈ lw_tbl, w.before A s = true) (hg : (Jvm.Cond.and given_1 narrow_1).before A s = true) : xt_T s.heap.size s := by
  intro w hw
  have hf := flat_of_before _ hg
  have h1 : w.before A s = true := by
    have h2 : w ∈ (xt_ws.take 6 ++ xt_hs.take 2) ∨ w ∈ (xt_ws.drop 6 ++ xt_hs.drop 2) := by
      rcases List.mem_append.mp hw with h | h
      · rw [← List.take_append_drop 6 xt_ws] at h
        rcases List.mem_append.mp h with h | h
        · exact Or.inl (List.mem_append_left _ h)
        · exact Or.inr (List.mem_append_left _ h)
      · rw [← List.take_append_drop 2 xt_hs] at h
        rcases List.mem_append.mp h with h | h
        · exact Or.inl (List.mem_append_right _ h)
        · exact Or.inr (List.mem_append_right _ h)
    rcases h2 with h | h
    · exact hts w (lw_nd_o (List.mem_append_right _ (List.mem_append_right _ h)))
    · exact hf w (of_decide_eq_true (List.all_eq_true.mp lw_nr_in w h))
  refine xt_move (u := s) (U := xt_cut s.heap.size s) (State.WarmedH.refl s) (fun q c hq => ?_) w hw h1
  rw [xt_cutAt, if_pos (Array.getElem?_eq_some_iff.mp hq).1]
  exact hq
theorem lw_nest {A : Array Value} {s : State} (hts : ∀ w ∈ lw_tbl, w.before A s = true) : NW s := by
  intro w hw
  have h2 := (List.mem_filter.mp hw).2
  refine va_Nw.of (A := A) ?_ (hts w (List.mem_filter.mp hw).1)
  cases w <;> first | rfl | (simp [isNest] at h2; done)
def mt_Lw_pre : mMt := (cd_Lw_law.take 20, (some .boolean), 2000, 40000, [], false)
def mx_s0 : mSt := (fun _ _ _ => 0, fun _ _ _ => 0, fun _ _ _ => none, 0)
def lw_po : mPo := mx_kI (fun x _ => x = 1)
def lw_q (scr : mSc) (d : Nat) : Nat → mLV → mSt → Nat × Nat → Prop := fun pc L s u => mx_Made s ∧ ∃ n, mx_xq true scr (mx_XW true scr d) mt_Lw_law lw_po (fun _ _ => False) n pc L s u
def lw_Go (scr : mSc) : Prop := ∃ d d', d ≤ 2000 ∧ d' ≤ 2000 ∧ mx_blk false scr (mx_XW false scr d) mt_Lw_pre lw_po (fun _ _ => False) (lw_q scr d') 700 true (cd_Lw_law.take 20) [(0, .inr (.inr (.inr scr.1)))] [] mx_s0 (0, 0)
def lw_i1 (e : mEn) : Bool := match e.2.2.1 with
  | .putfield _ => false
  | .invokevirtual n => mx_iv R_law (.invokevirtual n) e.2.2.2.2.1 && (mx_pu (e.2.2.2.2.1.headD 0) || decide (e.2.2.2.2.1.getD 7 0 = 0))
  | .invokestatic n => mx_iv R_law (.invokestatic n) e.2.2.2.2.1 && (mx_pu (e.2.2.2.2.1.headD 0) || decide (e.2.2.2.2.1.getD 7 0 = 0))
  | .invokespecial n => mx_iv R_law (.invokespecial n) e.2.2.2.2.1 && mx_pu (e.2.2.2.2.1.headD 0)
  | _ => true
def lw_i2 (e : mEn) : Bool := match e.2.2.1 with
  | .invokevirtual _ => mx_pu (e.2.2.2.2.1.headD 0)
  | .invokestatic _ => mx_pu (e.2.2.2.2.1.headD 0)
  | .return_ => false
  | .ireturn => false
  | .areturn => false
  | _ => true
def lw_okL : Prop := mx_cns cd_Lw_law = true ∧ mx_cns (cd_Lw_law.take 20) = true ∧ (∀ e ∈ cd_Lw_law, mx_okE R_law "" code 7 e = true) ∧ (∀ e ∈ cd_Lw_law, lw_i1 e = true) ∧ (∀ e ∈ cd_Lw_law.take 20, lw_i2 e = true)
theorem lw_i1_p {e : mEn} (h : lw_i1 e = true) : ∀ n, ¬ e.2.2.1 = .putfield n := fun n hn => by
  unfold lw_i1 at h
  rw [hn] at h
  cases h
theorem lw_iv_ne {own : String} {ins : Instr} {aux : List Nat} (h : mx_iv own ins aux = true) : ∃ a r, aux = a :: r := by
  cases aux with
  | nil => cases h
  | cons a r => exact ⟨a, r, rfl⟩
theorem lw_i1_o {e : mEn} (h : lw_i1 e = true) : ∀ n, e.2.2.1 = .invokevirtual n ∨ e.2.2.1 = .invokestatic n ∨ (e.2.2.1 = .invokespecial n ∧ ¬ e.2.2.2.2.1 = []) → mx_iv R_law e.2.2.1 e.2.2.2.2.1 = true ∧ ((∀ a r, e.2.2.2.2.1 = a :: r → mx_pu a = true) ∨ (e.2.2.2.2.1.getD 7 0 = 0 ∧ ∀ n, ¬ e.2.2.1 = .invokespecial n)) := by
  intro n hn
  have hd : ∀ a r, e.2.2.2.2.1 = a :: r → e.2.2.2.2.1.headD 0 = a := fun a r h => by rw [h]; rfl
  unfold lw_i1 at h
  rcases hn with hn | hn | ⟨hn, -⟩
  · rw [hn] at h ⊢
    obtain ⟨h1, h2⟩ := Bool.and_eq_true_iff.mp h
    refine ⟨h1, ?_⟩
    rcases Bool.or_eq_true_iff.mp h2 with h2 | h2
    · exact Or.inl (fun a r ha => by rw [hd a r ha] at h2; exact h2)
    · exact Or.inr ⟨of_decide_eq_true h2, fun n h => by cases h⟩
  · rw [hn] at h ⊢
    obtain ⟨h1, h2⟩ := Bool.and_eq_true_iff.mp h
    refine ⟨h1, ?_⟩
    rcases Bool.or_eq_true_iff.mp h2 with h2 | h2
    · exact Or.inl (fun a r ha => by rw [hd a r ha] at h2; exact h2)
    · exact Or.inr ⟨of_decide_eq_true h2, fun n h => by cases h⟩
  · rw [hn] at h ⊢
    obtain ⟨h1, h2⟩ := Bool.and_eq_true_iff.mp h
    exact ⟨h1, Or.inl (fun a r ha => by rw [hd a r ha] at h2; exact h2)⟩
theorem lw_i2_o {e : mEn} (h : lw_i1 e = true) (h2 : lw_i2 e = true) : ∀ n, e.2.2.1 = .invokevirtual n ∨ e.2.2.1 = .invokestatic n ∨ e.2.2.1 = .invokespecial n → mx_iv R_law e.2.2.1 e.2.2.2.2.1 = true ∧ ∀ a r, e.2.2.2.2.1 = a :: r → mx_pu a = true := by
  intro n hn
  have hd : ∀ a r, e.2.2.2.2.1 = a :: r → e.2.2.2.2.1.headD 0 = a := fun a r h => by rw [h]; rfl
  unfold lw_i1 at h
  unfold lw_i2 at h2
  rcases hn with hn | hn | hn
  · rw [hn] at h h2 ⊢
    exact ⟨(Bool.and_eq_true_iff.mp h).1, fun a r ha => by rw [hd a r ha] at h2; exact h2⟩
  · rw [hn] at h h2 ⊢
    exact ⟨(Bool.and_eq_true_iff.mp h).1, fun a r ha => by rw [hd a r ha] at h2; exact h2⟩
  · rw [hn] at h ⊢
    obtain ⟨h1, h3⟩ := Bool.and_eq_true_iff.mp h
    exact ⟨h1, fun a r ha => by rw [hd a r ha] at h3; exact h3⟩
theorem lw_i2_r {e : mEn} (h2 : lw_i2 e = true) : ¬ mx_isR e.2.2.1 = true := by
  intro h
  unfold lw_i2 at h2
  cases h9 : e.2.2.1 <;> rw [h9] at h h2 <;> first | (cases h; done) | (cases h2; done)
set_option maxHeartbeats 4000000 in
theorem lw_of {p : Program} {e : Env} {s : State} {m : MethodId} {below : List Frame} {meth : Method} {c : Code} (l : Launch) {b L : Nat} {xs : Nat → Int32} (hall : mx_allX) (hallF : mx_allF) (hok : lw_okL) (htr : ∀ e, l.admits e → e.platform.stackTraces = false) (hgo : lw_Go (b, L, xs)) (C0 : lw_At p s m meth c b L xs) : W p l e room_1 s m #[Value.ref b] below meth c s.heap [] 0 0 (lw_Z below #[Value.ref b] s) (entryFrame m ([Value.ref b] : List Value).toArray 7) := by
  obtain ⟨hx, hb, hr, hml, hown, hts, hX, hbl, hlk, hgv⟩ := C0
  obtain ⟨k1, k2, k3, k4, k5⟩ := hok
  obtain ⟨d, d', hd, hd', hgo⟩ := hgo
  obtain ⟨D, ca, hK⟩ := lw_known hts
  have hV : mx_VM D ca s := ⟨hK, lw_nest hts, hts _ (lw_nd_o (w := .arrayOver (.object R_Rl)) (List.mem_append_right _ (List.mem_append_left _ (by simp)))), hts _ (lw_nd_o (w := .arrayOver (.object R_Vs)) (List.mem_append_right _ (List.mem_append_left _ (by simp))))⟩
  have hXT := lw_thrown hts hgv
  have hwg : ∀ w ∈ wg, w.before #[Value.ref b] s = true := fun w h => hts w (List.mem_filter.mp h).1
  have hE : ∀ e0 ∈ cd_Lw_law, mx_okE R_law meth.name code 7 e0 = true := fun e0 he => by
    rw [mx_okE_mn (mn' := "") (lw_i1_p (k4 e0 he))]
    exact k3 e0 he
  have hcalF : mx_Cal l room_1 false D ca s.heap.size (b, L, xs) (mx_XW false (b, L, xs) d) := fun mi as t post ex hmi hpu hO h => by
    cases d with
    | zero => exact False.elim h
    | succ d => exact ⟨d, mx_make l D ca _ _ hallF d mi as t post ex hmi hpu hO h, by show d + 9 ≤ 2048; omega, by show 40 * d + 240 ≤ 84000; omega⟩
  have hcalA : mx_CalA l room_1 true D ca s.heap.size (b, L, xs) (mx_XW true (b, L, xs) d') := fun mi as t post ex hmi hO h => by
    cases d' with
    | zero => exact False.elim h
    | succ d => exact ⟨d, mx_full l D ca _ _ hall htr d mi as t post ex hmi hO h, by show d + 9 ≤ 2048; omega, by show 40 * d + 240 ≤ 84000; omega⟩
  have hCt : mx_Cx p l room_1 s m #[Value.ref b] meth c true D ca s.heap.size (b, L, xs) R_law meth.name code 7 mt_Lw_law (mx_XW true (b, L, xs) d') := ⟨hx, hb, hml, hown, rfl, hwg, hV, hX, hbl, Nat.le_refl _, ⟨by show 2000 ≤ 601024; omega, by show 40000 ≤ 7293000; omega⟩, fun mi as s post ex h1 _ h2 h3 => hcalA mi as s post ex h1 h2 h3, hXT⟩
  have hCf : mx_Cx p l room_1 s m #[Value.ref b] meth c false D ca s.heap.size (b, L, xs) R_law meth.name code 7 mt_Lw_pre (mx_XW false (b, L, xs) d) := ⟨hx, hb, hml, hown, rfl, hwg, hV, hX, hbl, Nat.le_refl _, ⟨by show 2000 ≤ 601024; omega, by show 40000 ≤ 7293000; omega⟩, hcalF, hXT⟩
  have hret : ∀ (k : List mEn → mLV → List mAV → mSt → Nat × Nat → Prop) (e0 : mEn) (es : List mEn) (Lc : mLV) (S : List mAV) (t : mSt) (u : Nat × Nat), e0 ∈ cd_Lw_law → mx_isR e0.2.2.1 = true → mx_stp true (b, L, xs) (mx_XW true (b, L, xs) d') mt_Lw_law lw_po (fun _ _ => False) k e0 es Lc S t u → mx_GA p l e room_1 s m #[Value.ref b] below meth c (lw_Z below #[Value.ref b] s) true D ca s.heap.size 7 e0.1 Lc S t u := by
    intro k e0 es Lc S t u he hi h H lcs ls hW hS hl hL hO hu hz
    have hE0 := hE e0 he
    obtain ⟨pc, cut, ins, len, aux, ic, lc⟩ := e0
    have hdd : decode code pc = .ok (ins, len) := of_decide_eq_true (Bool.and_eq_true_iff.mp hE0).1
    have hI := (Bool.and_eq_true_iff.mp hE0).2
    cases ins with
    | return_ =>
      obtain ⟨-, h9, -⟩ := mx_rt0_o (show mx_rt0 S mt_Lw_law.2.1 _ from h)
      cases h9
    | ireturn =>
      obtain rfl : len = 1 := of_decide_eq_true hI
      obtain ⟨x, S, rfl, h⟩ := mx_p1_o (show mx_p1 S _ from h)
      obtain ⟨ty, rfl, hM, hn, h⟩ := mx_rt1_o (show mx_rt1 S mt_Lw_law.2.1 x _ from h)
      obtain rfl : x = 1 := h
      exact va_forget hS.2.2 (W.widen hu.1 hu.2 (lw_ret hx hb hr hlk hdd))
    | areturn =>
      obtain ⟨f, i, S, rfl, h⟩ := mx_rf_o (show mx_rf S _ from h)
      obtain ⟨n, rfl, hM, h⟩ := mx_rt2_o (show mx_rt2 S mt_Lw_law.2.1 _ from h)
      cases hM
    | _ => cases hi
  have hl8 := fun (k : List mEn → mLV → List mAV → mSt → Nat × Nat → Prop) (e0 : mEn) (es : List mEn) Lc S t u hk (hsf : mx_Sf cd_Lw_law (e0 :: es)) hlat h => mx_lat_l (below := below) (e := e) (post := lw_po) (ex := fun _ _ => False) (k := k) (e0 := e0) (es := es) (L := Lc) (S := S) (s := t) (u := u) (Q := lw_Z below #[Value.ref b] s) hCt hcalA k1 (hE e0 hsf.in) rfl rfl hall.1 (lw_i1_o (k4 e0 hsf.in)) (fun hi h9 => hret k e0 es Lc S t u hsf.in hi h9) hk hsf hlat h
  have hsub : ∀ e0 ∈ cd_Lw_law.take 20, e0 ∈ cd_Lw_law := fun e0 h => List.mem_of_mem_take h
  have hl9 := fun (k : List mEn → mLV → List mAV → mSt → Nat × Nat → Prop) (e0 : mEn) (es : List mEn) Lc S t u hk (hsf : mx_Sf (cd_Lw_law.take 20) (e0 :: es)) hlat h => mx_lat_f (below := below) (e := e) (post := lw_po) (ex := fun _ _ => False) (k := k) (e0 := e0) (es := es) (L := Lc) (S := S) (s := t) (u := u) (Q := lw_Z below #[Value.ref b] s) hCf k2 (hE e0 (hsub e0 hsf.in)) rfl ⟨by decide, by decide⟩ hallF.1 (fun n hn => Or.inr (lw_i2_o (k4 e0 (hsub e0 hsf.in)) (k5 e0 hsf.in) n hn)) (fun hi _ => absurd hi (lw_i2_r (k5 e0 hsf.in))) hk hsf hlat h
  have hq : ∀ pc Lc t u, lw_q (b, L, xs) d' pc Lc t u → mx_GA p l e room_1 s m #[Value.ref b] below meth c (lw_Z below #[Value.ref b] s) false D ca s.heap.size 7 pc Lc [] t u := fun pc Lc t u h => by
    obtain ⟨hM, n, h⟩ := h
    exact mx_GA_tf hM (mx_xq_ok hCt k1 hE hl8 n pc Lc t u h)
  have hl := lv_entry ([.inr (.inr (.inr b))].map (mx_vv s.heap.size)) (n := 7) (by rw [mx_wt_sl]; show 1 ≤ 7; omega)
  rw [lg_entry_eq]
  have e9 : ([Value.ref b] : List Value) = [.inr (.inr (.inr b))].map (mx_vv s.heap.size) := rfl
  rw [e9]
  generalize (lg_sl ([.inr (.inr (.inr b))].map (mx_vv s.heap.size)) ++ List.replicate (7 - (lg_sl ([.inr (.inr (.inr b))].map (mx_vv s.heap.size))).length) Slot.unset).toArray = ls at hl ⊢
  rw [mx_lv_args] at hl
  refine mx_blk_ok hCf k2 (fun e0 he => hE e0 (hsub e0 he)) hq hl9 _ _ _ _ _ _ _ hgo ⟨[], rfl⟩ 0 (fun e r he => ?_) s.heap [] ls ⟨?_, Nat.zero_le _, fun h => by cases h⟩ va_S.rf hl ?_ mx_oS_n ⟨Nat.zero_le _, Nat.zero_le _⟩ (fun _ => rfl)
  · cases he
    rfl
  · intro k q hk
    cases hk
  · exact mx_oL_args (s := mx_s0) (vs := [.inr (.inr (.inr b))]) (mx_oS_c (v := .inr (.inr (.inr b))) trivial mx_oS_n)
end
section
def mx_lu {α : Type} (z : α) : List (Nat × Nat × Nat × α) → Nat → Nat → Nat → α
  | [], _, _, _ => z
  | (f, i, j, v) :: l, x, y, w => if x = f ∧ y = i ∧ w = j then v else mx_lu z l x y w
def mx_kk {α : Type} : List (Nat × Nat × Nat × α) → Nat → Nat → Bool
  | [], _, _ => true
  | (f, i, _, _) :: l, x, y => match Nat.beq x f && Nat.beq y i with
    | true => false
    | false => mx_kk l x y
theorem mx_lu3 {α : Type} {z : α} {l : List (Nat × Nat × Nat × α)} {f i j : Nat} {v : α} : mx_u3 (mx_lu z l) f i j v = mx_lu z ((f, i, j, v) :: l) := rfl
theorem mx_kk_o {α : Type} {z : α} : ∀ {l : List (Nat × Nat × Nat × α)} {f i : Nat}, mx_kk l f i = true → ∀ j, mx_lu z l f i j = z
  | [], _, _, _, _ => rfl
  | (f', i', j', v) :: l, f, i, h, j => by
    unfold mx_kk at h
    unfold mx_lu
    split at h
    · cases h
    · rename_i hb
      rw [if_neg]
      · exact mx_kk_o h j
      · rintro ⟨h1, h2, -⟩
        rw [h1, h2, Nat.beq_refl, Nat.beq_refl] at hb
        cases hb
theorem mx_lu2 {α : Type} {z : α} {l : List (Nat × Nat × Nat × α)} {f i : Nat} (h : mx_kk l f i = true) : mx_u2 (mx_lu z l) f i z = mx_lu z l := by
  funext x y w
  unfold mx_u2
  split
  · rename_i h9
    obtain ⟨rfl, rfl⟩ := h9
    exact (mx_kk_o h w).symm
  · rfl
def mx_as (il : List (Nat × Nat × Nat × Int32)) (rl : List (Nat × Nat × Nat × Option Nat)) (N : Nat) : mSt := (mx_lu 0 il, fun _ _ _ => 0, mx_lu none rl, N)
section
variable {il : List (Nat × Nat × Nat × Int32)} {rl : List (Nat × Nat × Nat × Option Nat)} {N : Nat} {s : mSt} {f i j y : Nat} {v : Int32}
theorem mx_En (h : s = mx_as il rl N) (h1 : mx_kk il f i = true) (h2 : mx_kk rl f i = true) : mx_sn s f i = mx_as il rl (N + 1) := by
  subst h
  unfold mx_sn mx_as
  dsimp only
  rw [mx_lu2 h1, mx_lu2 h2]
  congr 2
  funext x y w
  unfold mx_u2
  split <;> rfl
theorem mx_Ep (h : s = mx_as il rl N) : mx_sp s f i j y = mx_as il ((f, i, j, some y) :: rl) N := by
  subst h
  rfl
theorem mx_Ei (h : s = mx_as il rl N) : mx_si s f i j v = mx_as ((f, i, j, v) :: il) rl N := by
  subst h
  rfl
end
section
variable {scr : mSc} {d : Nat} {post : mPo} {ex : Nat → mSt → Prop} {il : List (Nat × Nat × Nat × Int32)} {rl : List (Nat × Nat × Nat × Option Nat)} {s : mSt}
theorem mx_vi {j : Int32} {n : Nat} (h : ¬ (j < 0 ∨ n ≤ j.toNatClampNeg)) : vp_in j n := h
theorem mx_P_Rd (h : post.1 s) : mx_XW false scr (d + 1) 2 [.inr (.inr (.inl (3, 0)))] s post ex := ⟨0, h⟩
theorem mx_P_Rl_0 (hs : s = mx_as il rl 6) (k0 : mx_kk il 6 0 = true) (g0 : mx_kk rl 6 0 = true) (k1 : mx_kk il 7 0 = true) (g1 : mx_kk rl 7 0 = true) (k2 : mx_kk il 8 0 = true) (g2 : mx_kk rl 8 0 = true) (k3 : mx_kk il 9 0 = true) (g3 : mx_kk rl 9 0 = true) (h : post.1 (mx_as (il) ((5, 0, 8, some 0) :: (5, 0, 7, some 0) :: (5, 0, 6, some 0) :: (5, 0, 4, some 0) :: rl) 10)) : mx_XW false scr (d + 1) 3 [.inr (.inr (.inl (5, 0)))] s post ex := by
  subst hs
  have e9 : mx_sp (mx_sn (mx_sp (mx_sn (mx_sp (mx_sn (mx_sp (mx_sn (mx_as il rl 6) 6 0) 5 0 4 0) 7 0) 5 0 6 0) 8 0) 5 0 7 0) 9 0) 5 0 8 0 = mx_as (il) ((5, 0, 8, some 0) :: (5, 0, 7, some 0) :: (5, 0, 6, some 0) :: (5, 0, 4, some 0) :: rl) 10 := mx_Ep (mx_En (mx_Ep (mx_En (mx_Ep (mx_En (mx_Ep (mx_En (rfl) k0 g0)) k1 g1)) k2 g2)) k3 g3)
  rw [← e9] at h
  exact ⟨0, rfl, rfl, rfl, rfl, h⟩
theorem mx_P_Rl_1 (hs : s = mx_as il rl 11) (k0 : mx_kk il 6 1 = true) (g0 : mx_kk rl 6 1 = true) (k1 : mx_kk il 7 1 = true) (g1 : mx_kk rl 7 1 = true) (k2 : mx_kk il 8 1 = true) (g2 : mx_kk rl 8 1 = true) (k3 : mx_kk il 9 1 = true) (g3 : mx_kk rl 9 1 = true) (h : post.1 (mx_as (il) ((5, 1, 8, some 1) :: (5, 1, 7, some 1) :: (5, 1, 6, some 1) :: (5, 1, 4, some 1) :: rl) 15)) : mx_XW false scr (d + 1) 3 [.inr (.inr (.inl (5, 1)))] s post ex := by
  subst hs
  have e9 : mx_sp (mx_sn (mx_sp (mx_sn (mx_sp (mx_sn (mx_sp (mx_sn (mx_as il rl 11) 6 1) 5 1 4 1) 7 1) 5 1 6 1) 8 1) 5 1 7 1) 9 1) 5 1 8 1 = mx_as (il) ((5, 1, 8, some 1) :: (5, 1, 7, some 1) :: (5, 1, 6, some 1) :: (5, 1, 4, some 1) :: rl) 15 := mx_Ep (mx_En (mx_Ep (mx_En (mx_Ep (mx_En (mx_Ep (mx_En (rfl) k0 g0)) k1 g1)) k2 g2)) k3 g3)
  rw [← e9] at h
  exact ⟨0, rfl, rfl, rfl, rfl, h⟩
theorem mx_P_Rl_2 (hs : s = mx_as il rl 16) (k0 : mx_kk il 6 2 = true) (g0 : mx_kk rl 6 2 = true) (k1 : mx_kk il 7 2 = true) (g1 : mx_kk rl 7 2 = true) (k2 : mx_kk il 8 2 = true) (g2 : mx_kk rl 8 2 = true) (k3 : mx_kk il 9 2 = true) (g3 : mx_kk rl 9 2 = true) (h : post.1 (mx_as (il) ((5, 2, 8, some 2) :: (5, 2, 7, some 2) :: (5, 2, 6, some 2) :: (5, 2, 4, some 2) :: rl) 20)) : mx_XW false scr (d + 1) 3 [.inr (.inr (.inl (5, 2)))] s post ex := by
  subst hs
  have e9 : mx_sp (mx_sn (mx_sp (mx_sn (mx_sp (mx_sn (mx_sp (mx_sn (mx_as il rl 16) 6 2) 5 2 4 2) 7 2) 5 2 6 2) 8 2) 5 2 7 2) 9 2) 5 2 8 2 = mx_as (il) ((5, 2, 8, some 2) :: (5, 2, 7, some 2) :: (5, 2, 6, some 2) :: (5, 2, 4, some 2) :: rl) 20 := mx_Ep (mx_En (mx_Ep (mx_En (mx_Ep (mx_En (mx_Ep (mx_En (rfl) k0 g0)) k1 g1)) k2 g2)) k3 g3)
  rw [← e9] at h
  exact ⟨0, rfl, rfl, rfl, rfl, h⟩
theorem mx_P_Rl_3 (hs : s = mx_as il rl 21) (k0 : mx_kk il 6 3 = true) (g0 : mx_kk rl 6 3 = true) (k1 : mx_kk il 7 3 = true) (g1 : mx_kk rl 7 3 = true) (k2 : mx_kk il 8 3 = true) (g2 : mx_kk rl 8 3 = true) (k3 : mx_kk il 9 3 = true) (g3 : mx_kk rl 9 3 = true) (h : post.1 (mx_as (il) ((5, 3, 8, some 3) :: (5, 3, 7, some 3) :: (5, 3, 6, some 3) :: (5, 3, 4, some 3) :: rl) 25)) : mx_XW false scr (d + 1) 3 [.inr (.inr (.inl (5, 3)))] s post ex := by
  subst hs
  have e9 : mx_sp (mx_sn (mx_sp (mx_sn (mx_sp (mx_sn (mx_sp (mx_sn (mx_as il rl 21) 6 3) 5 3 4 3) 7 3) 5 3 6 3) 8 3) 5 3 7 3) 9 3) 5 3 8 3 = mx_as (il) ((5, 3, 8, some 3) :: (5, 3, 7, some 3) :: (5, 3, 6, some 3) :: (5, 3, 4, some 3) :: rl) 25 := mx_Ep (mx_En (mx_Ep (mx_En (mx_Ep (mx_En (mx_Ep (mx_En (rfl) k0 g0)) k1 g1)) k2 g2)) k3 g3)
  rw [← e9] at h
  exact ⟨0, rfl, rfl, rfl, rfl, h⟩
theorem mx_P_Rl_4 (hs : s = mx_as il rl 26) (k0 : mx_kk il 6 4 = true) (g0 : mx_kk rl 6 4 = true) (k1 : mx_kk il 7 4 = true) (g1 : mx_kk rl 7 4 = true) (k2 : mx_kk il 8 4 = true) (g2 : mx_kk rl 8 4 = true) (k3 : mx_kk il 9 4 = true) (g3 : mx_kk rl 9 4 = true) (h : post.1 (mx_as (il) ((5, 4, 8, some 4) :: (5, 4, 7, some 4) :: (5, 4, 6, some 4) :: (5, 4, 4, some 4) :: rl) 30)) : mx_XW false scr (d + 1) 3 [.inr (.inr (.inl (5, 4)))] s post ex := by
  subst hs
  have e9 : mx_sp (mx_sn (mx_sp (mx_sn (mx_sp (mx_sn (mx_sp (mx_sn (mx_as il rl 26) 6 4) 5 4 4 4) 7 4) 5 4 6 4) 8 4) 5 4 7 4) 9 4) 5 4 8 4 = mx_as (il) ((5, 4, 8, some 4) :: (5, 4, 7, some 4) :: (5, 4, 6, some 4) :: (5, 4, 4, some 4) :: rl) 30 := mx_Ep (mx_En (mx_Ep (mx_En (mx_Ep (mx_En (mx_Ep (mx_En (rfl) k0 g0)) k1 g1)) k2 g2)) k3 g3)
  rw [← e9] at h
  exact ⟨0, rfl, rfl, rfl, rfl, h⟩
theorem mx_P_Rl_5 (hs : s = mx_as il rl 31) (k0 : mx_kk il 6 5 = true) (g0 : mx_kk rl 6 5 = true) (k1 : mx_kk il 7 5 = true) (g1 : mx_kk rl 7 5 = true) (k2 : mx_kk il 8 5 = true) (g2 : mx_kk rl 8 5 = true) (k3 : mx_kk il 9 5 = true) (g3 : mx_kk rl 9 5 = true) (h : post.1 (mx_as (il) ((5, 5, 8, some 5) :: (5, 5, 7, some 5) :: (5, 5, 6, some 5) :: (5, 5, 4, some 5) :: rl) 35)) : mx_XW false scr (d + 1) 3 [.inr (.inr (.inl (5, 5)))] s post ex := by
  subst hs
  have e9 : mx_sp (mx_sn (mx_sp (mx_sn (mx_sp (mx_sn (mx_sp (mx_sn (mx_as il rl 31) 6 5) 5 5 4 5) 7 5) 5 5 6 5) 8 5) 5 5 7 5) 9 5) 5 5 8 5 = mx_as (il) ((5, 5, 8, some 5) :: (5, 5, 7, some 5) :: (5, 5, 6, some 5) :: (5, 5, 4, some 5) :: rl) 35 := mx_Ep (mx_En (mx_Ep (mx_En (mx_Ep (mx_En (mx_Ep (mx_En (rfl) k0 g0)) k1 g1)) k2 g2)) k3 g3)
  rw [← e9] at h
  exact ⟨0, rfl, rfl, rfl, rfl, h⟩
theorem mx_P_Rl_6 (hs : s = mx_as il rl 36) (k0 : mx_kk il 6 6 = true) (g0 : mx_kk rl 6 6 = true) (k1 : mx_kk il 7 6 = true) (g1 : mx_kk rl 7 6 = true) (k2 : mx_kk il 8 6 = true) (g2 : mx_kk rl 8 6 = true) (k3 : mx_kk il 9 6 = true) (g3 : mx_kk rl 9 6 = true) (h : post.1 (mx_as (il) ((5, 6, 8, some 6) :: (5, 6, 7, some 6) :: (5, 6, 6, some 6) :: (5, 6, 4, some 6) :: rl) 40)) : mx_XW false scr (d + 1) 3 [.inr (.inr (.inl (5, 6)))] s post ex := by
  subst hs
  have e9 : mx_sp (mx_sn (mx_sp (mx_sn (mx_sp (mx_sn (mx_sp (mx_sn (mx_as il rl 36) 6 6) 5 6 4 6) 7 6) 5 6 6 6) 8 6) 5 6 7 6) 9 6) 5 6 8 6 = mx_as (il) ((5, 6, 8, some 6) :: (5, 6, 7, some 6) :: (5, 6, 6, some 6) :: (5, 6, 4, some 6) :: rl) 40 := mx_Ep (mx_En (mx_Ep (mx_En (mx_Ep (mx_En (mx_Ep (mx_En (rfl) k0 g0)) k1 g1)) k2 g2)) k3 g3)
  rw [← e9] at h
  exact ⟨0, rfl, rfl, rfl, rfl, h⟩
theorem mx_P_Rl_7 (hs : s = mx_as il rl 41) (k0 : mx_kk il 6 7 = true) (g0 : mx_kk rl 6 7 = true) (k1 : mx_kk il 7 7 = true) (g1 : mx_kk rl 7 7 = true) (k2 : mx_kk il 8 7 = true) (g2 : mx_kk rl 8 7 = true) (k3 : mx_kk il 9 7 = true) (g3 : mx_kk rl 9 7 = true) (h : post.1 (mx_as (il) ((5, 7, 8, some 7) :: (5, 7, 7, some 7) :: (5, 7, 6, some 7) :: (5, 7, 4, some 7) :: rl) 45)) : mx_XW false scr (d + 1) 3 [.inr (.inr (.inl (5, 7)))] s post ex := by
  subst hs
  have e9 : mx_sp (mx_sn (mx_sp (mx_sn (mx_sp (mx_sn (mx_sp (mx_sn (mx_as il rl 41) 6 7) 5 7 4 7) 7 7) 5 7 6 7) 8 7) 5 7 7 7) 9 7) 5 7 8 7 = mx_as (il) ((5, 7, 8, some 7) :: (5, 7, 7, some 7) :: (5, 7, 6, some 7) :: (5, 7, 4, some 7) :: rl) 45 := mx_Ep (mx_En (mx_Ep (mx_En (mx_Ep (mx_En (mx_Ep (mx_En (rfl) k0 g0)) k1 g1)) k2 g2)) k3 g3)
  rw [← e9] at h
  exact ⟨0, rfl, rfl, rfl, rfl, h⟩
theorem mx_P_Rl_8 (hs : s = mx_as il rl 46) (k0 : mx_kk il 6 8 = true) (g0 : mx_kk rl 6 8 = true) (k1 : mx_kk il 7 8 = true) (g1 : mx_kk rl 7 8 = true) (k2 : mx_kk il 8 8 = true) (g2 : mx_kk rl 8 8 = true) (k3 : mx_kk il 9 8 = true) (g3 : mx_kk rl 9 8 = true) (h : post.1 (mx_as (il) ((5, 8, 8, some 8) :: (5, 8, 7, some 8) :: (5, 8, 6, some 8) :: (5, 8, 4, some 8) :: rl) 50)) : mx_XW false scr (d + 1) 3 [.inr (.inr (.inl (5, 8)))] s post ex := by
  subst hs
  have e9 : mx_sp (mx_sn (mx_sp (mx_sn (mx_sp (mx_sn (mx_sp (mx_sn (mx_as il rl 46) 6 8) 5 8 4 8) 7 8) 5 8 6 8) 8 8) 5 8 7 8) 9 8) 5 8 8 8 = mx_as (il) ((5, 8, 8, some 8) :: (5, 8, 7, some 8) :: (5, 8, 6, some 8) :: (5, 8, 4, some 8) :: rl) 50 := mx_Ep (mx_En (mx_Ep (mx_En (mx_Ep (mx_En (mx_Ep (mx_En (rfl) k0 g0)) k1 g1)) k2 g2)) k3 g3)
  rw [← e9] at h
  exact ⟨0, rfl, rfl, rfl, rfl, h⟩
theorem mx_P_Lg (hs : s = mx_as il rl 52) (k0 : mx_kk il 12 0 = true) (g0 : mx_kk rl 12 0 = true) (h : post.1 (mx_as (il) ((11, 0, 0, some 0) :: rl) 53)) : mx_XW false scr (d + 1) 4 [.inr (.inr (.inl (11, 0)))] s post ex := by
  subst hs
  have e9 : mx_sp (mx_sn (mx_as il rl 52) 12 0) 11 0 0 0 = mx_as (il) ((11, 0, 0, some 0) :: rl) 53 := mx_Ep (mx_En (rfl) k0 g0)
  rw [← e9] at h
  exact ⟨0, rfl, h⟩
theorem mx_P_Vs_0 (hs : s = mx_as il rl 55) (k0 : mx_kk il 15 0 = true) (g0 : mx_kk rl 15 0 = true) (k1 : mx_kk il 16 0 = true) (g1 : mx_kk rl 16 0 = true) (k2 : mx_kk il 17 0 = true) (g2 : mx_kk rl 17 0 = true) (h : post.1 (mx_as ((14, 0, 0, (-1)) :: il) ((14, 0, 4, some 0) :: (14, 0, 2, some 0) :: (14, 0, 1, some 0) :: rl) 58)) : mx_XW false scr (d + 1) 5 [.inr (.inr (.inl (14, 0)))] s post ex := by
  subst hs
  have e9 : mx_sp (mx_sn (mx_sp (mx_sn (mx_sp (mx_sn (mx_si (mx_as il rl 55) 14 0 0 (-1)) 15 0) 14 0 1 0) 16 0) 14 0 2 0) 17 0) 14 0 4 0 = mx_as ((14, 0, 0, (-1)) :: il) ((14, 0, 4, some 0) :: (14, 0, 2, some 0) :: (14, 0, 1, some 0) :: rl) 58 := mx_Ep (mx_En (mx_Ep (mx_En (mx_Ep (mx_En (mx_Ei (rfl)) k0 g0)) k1 g1)) k2 g2)
  rw [← e9] at h
  exact ⟨0, rfl, rfl, rfl, h⟩
theorem mx_P_Vs_1 (hs : s = mx_as il rl 59) (k0 : mx_kk il 15 1 = true) (g0 : mx_kk rl 15 1 = true) (k1 : mx_kk il 16 1 = true) (g1 : mx_kk rl 16 1 = true) (k2 : mx_kk il 17 1 = true) (g2 : mx_kk rl 17 1 = true) (h : post.1 (mx_as ((14, 1, 0, (-1)) :: il) ((14, 1, 4, some 1) :: (14, 1, 2, some 1) :: (14, 1, 1, some 1) :: rl) 62)) : mx_XW false scr (d + 1) 5 [.inr (.inr (.inl (14, 1)))] s post ex := by
  subst hs
  have e9 : mx_sp (mx_sn (mx_sp (mx_sn (mx_sp (mx_sn (mx_si (mx_as il rl 59) 14 1 0 (-1)) 15 1) 14 1 1 1) 16 1) 14 1 2 1) 17 1) 14 1 4 1 = mx_as ((14, 1, 0, (-1)) :: il) ((14, 1, 4, some 1) :: (14, 1, 2, some 1) :: (14, 1, 1, some 1) :: rl) 62 := mx_Ep (mx_En (mx_Ep (mx_En (mx_Ep (mx_En (mx_Ei (rfl)) k0 g0)) k1 g1)) k2 g2)
  rw [← e9] at h
  exact ⟨0, rfl, rfl, rfl, h⟩
theorem mx_P_Vs_2 (hs : s = mx_as il rl 63) (k0 : mx_kk il 15 2 = true) (g0 : mx_kk rl 15 2 = true) (k1 : mx_kk il 16 2 = true) (g1 : mx_kk rl 16 2 = true) (k2 : mx_kk il 17 2 = true) (g2 : mx_kk rl 17 2 = true) (h : post.1 (mx_as ((14, 2, 0, (-1)) :: il) ((14, 2, 4, some 2) :: (14, 2, 2, some 2) :: (14, 2, 1, some 2) :: rl) 66)) : mx_XW false scr (d + 1) 5 [.inr (.inr (.inl (14, 2)))] s post ex := by
  subst hs
  have e9 : mx_sp (mx_sn (mx_sp (mx_sn (mx_sp (mx_sn (mx_si (mx_as il rl 63) 14 2 0 (-1)) 15 2) 14 2 1 2) 16 2) 14 2 2 2) 17 2) 14 2 4 2 = mx_as ((14, 2, 0, (-1)) :: il) ((14, 2, 4, some 2) :: (14, 2, 2, some 2) :: (14, 2, 1, some 2) :: rl) 66 := mx_Ep (mx_En (mx_Ep (mx_En (mx_Ep (mx_En (mx_Ei (rfl)) k0 g0)) k1 g1)) k2 g2)
  rw [← e9] at h
  exact ⟨0, rfl, rfl, rfl, h⟩
theorem mx_P_Vs_3 (hs : s = mx_as il rl 67) (k0 : mx_kk il 15 3 = true) (g0 : mx_kk rl 15 3 = true) (k1 : mx_kk il 16 3 = true) (g1 : mx_kk rl 16 3 = true) (k2 : mx_kk il 17 3 = true) (g2 : mx_kk rl 17 3 = true) (h : post.1 (mx_as ((14, 3, 0, (-1)) :: il) ((14, 3, 4, some 3) :: (14, 3, 2, some 3) :: (14, 3, 1, some 3) :: rl) 70)) : mx_XW false scr (d + 1) 5 [.inr (.inr (.inl (14, 3)))] s post ex := by
  subst hs
  have e9 : mx_sp (mx_sn (mx_sp (mx_sn (mx_sp (mx_sn (mx_si (mx_as il rl 67) 14 3 0 (-1)) 15 3) 14 3 1 3) 16 3) 14 3 2 3) 17 3) 14 3 4 3 = mx_as ((14, 3, 0, (-1)) :: il) ((14, 3, 4, some 3) :: (14, 3, 2, some 3) :: (14, 3, 1, some 3) :: rl) 70 := mx_Ep (mx_En (mx_Ep (mx_En (mx_Ep (mx_En (mx_Ei (rfl)) k0 g0)) k1 g1)) k2 g2)
  rw [← e9] at h
  exact ⟨0, rfl, rfl, rfl, h⟩
theorem mx_P_Vs_4 (hs : s = mx_as il rl 71) (k0 : mx_kk il 15 4 = true) (g0 : mx_kk rl 15 4 = true) (k1 : mx_kk il 16 4 = true) (g1 : mx_kk rl 16 4 = true) (k2 : mx_kk il 17 4 = true) (g2 : mx_kk rl 17 4 = true) (h : post.1 (mx_as ((14, 4, 0, (-1)) :: il) ((14, 4, 4, some 4) :: (14, 4, 2, some 4) :: (14, 4, 1, some 4) :: rl) 74)) : mx_XW false scr (d + 1) 5 [.inr (.inr (.inl (14, 4)))] s post ex := by
  subst hs
  have e9 : mx_sp (mx_sn (mx_sp (mx_sn (mx_sp (mx_sn (mx_si (mx_as il rl 71) 14 4 0 (-1)) 15 4) 14 4 1 4) 16 4) 14 4 2 4) 17 4) 14 4 4 4 = mx_as ((14, 4, 0, (-1)) :: il) ((14, 4, 4, some 4) :: (14, 4, 2, some 4) :: (14, 4, 1, some 4) :: rl) 74 := mx_Ep (mx_En (mx_Ep (mx_En (mx_Ep (mx_En (mx_Ei (rfl)) k0 g0)) k1 g1)) k2 g2)
  rw [← e9] at h
  exact ⟨0, rfl, rfl, rfl, h⟩
theorem mx_P_Vs_5 (hs : s = mx_as il rl 75) (k0 : mx_kk il 15 5 = true) (g0 : mx_kk rl 15 5 = true) (k1 : mx_kk il 16 5 = true) (g1 : mx_kk rl 16 5 = true) (k2 : mx_kk il 17 5 = true) (g2 : mx_kk rl 17 5 = true) (h : post.1 (mx_as ((14, 5, 0, (-1)) :: il) ((14, 5, 4, some 5) :: (14, 5, 2, some 5) :: (14, 5, 1, some 5) :: rl) 78)) : mx_XW false scr (d + 1) 5 [.inr (.inr (.inl (14, 5)))] s post ex := by
  subst hs
  have e9 : mx_sp (mx_sn (mx_sp (mx_sn (mx_sp (mx_sn (mx_si (mx_as il rl 75) 14 5 0 (-1)) 15 5) 14 5 1 5) 16 5) 14 5 2 5) 17 5) 14 5 4 5 = mx_as ((14, 5, 0, (-1)) :: il) ((14, 5, 4, some 5) :: (14, 5, 2, some 5) :: (14, 5, 1, some 5) :: rl) 78 := mx_Ep (mx_En (mx_Ep (mx_En (mx_Ep (mx_En (mx_Ei (rfl)) k0 g0)) k1 g1)) k2 g2)
  rw [← e9] at h
  exact ⟨0, rfl, rfl, rfl, h⟩
theorem mx_P_Vs_6 (hs : s = mx_as il rl 79) (k0 : mx_kk il 15 6 = true) (g0 : mx_kk rl 15 6 = true) (k1 : mx_kk il 16 6 = true) (g1 : mx_kk rl 16 6 = true) (k2 : mx_kk il 17 6 = true) (g2 : mx_kk rl 17 6 = true) (h : post.1 (mx_as ((14, 6, 0, (-1)) :: il) ((14, 6, 4, some 6) :: (14, 6, 2, some 6) :: (14, 6, 1, some 6) :: rl) 82)) : mx_XW false scr (d + 1) 5 [.inr (.inr (.inl (14, 6)))] s post ex := by
  subst hs
  have e9 : mx_sp (mx_sn (mx_sp (mx_sn (mx_sp (mx_sn (mx_si (mx_as il rl 79) 14 6 0 (-1)) 15 6) 14 6 1 6) 16 6) 14 6 2 6) 17 6) 14 6 4 6 = mx_as ((14, 6, 0, (-1)) :: il) ((14, 6, 4, some 6) :: (14, 6, 2, some 6) :: (14, 6, 1, some 6) :: rl) 82 := mx_Ep (mx_En (mx_Ep (mx_En (mx_Ep (mx_En (mx_Ei (rfl)) k0 g0)) k1 g1)) k2 g2)
  rw [← e9] at h
  exact ⟨0, rfl, rfl, rfl, h⟩
theorem mx_P_Vs_7 (hs : s = mx_as il rl 83) (k0 : mx_kk il 15 7 = true) (g0 : mx_kk rl 15 7 = true) (k1 : mx_kk il 16 7 = true) (g1 : mx_kk rl 16 7 = true) (k2 : mx_kk il 17 7 = true) (g2 : mx_kk rl 17 7 = true) (h : post.1 (mx_as ((14, 7, 0, (-1)) :: il) ((14, 7, 4, some 7) :: (14, 7, 2, some 7) :: (14, 7, 1, some 7) :: rl) 86)) : mx_XW false scr (d + 1) 5 [.inr (.inr (.inl (14, 7)))] s post ex := by
  subst hs
  have e9 : mx_sp (mx_sn (mx_sp (mx_sn (mx_sp (mx_sn (mx_si (mx_as il rl 83) 14 7 0 (-1)) 15 7) 14 7 1 7) 16 7) 14 7 2 7) 17 7) 14 7 4 7 = mx_as ((14, 7, 0, (-1)) :: il) ((14, 7, 4, some 7) :: (14, 7, 2, some 7) :: (14, 7, 1, some 7) :: rl) 86 := mx_Ep (mx_En (mx_Ep (mx_En (mx_Ep (mx_En (mx_Ei (rfl)) k0 g0)) k1 g1)) k2 g2)
  rw [← e9] at h
  exact ⟨0, rfl, rfl, rfl, h⟩
def mx_rlC_0 : List (Nat × Nat × Nat × Option Nat) := [(1, 0, 4, some 0), (1, 0, 3, some 0), (1, 0, 0, some 0)]
def mx_rlC_1 : List (Nat × Nat × Nat × Option Nat) := (2, 0, 0, some 0) :: (5, 0, 8, some 0) :: (5, 0, 7, some 0) :: (5, 0, 6, some 0) :: (5, 0, 4, some 0) :: mx_rlC_0
set_option maxRecDepth 100000 in
theorem mx_C_0 {n : Nat} (h : mx_xq false scr (mx_XW false scr (d + 1)) mt_Cf_init post ex n 34 [(0, .inr (.inr (.inl (1, 0)))), (1, .inl 1)] (mx_as [] mx_rlC_1 10) (8, 131)) : mx_xq false scr (mx_XW false scr (d + 1)) mt_Cf_init post ex (n + 1) 34 [(0, .inr (.inr (.inl (1, 0)))), (1, .inl 0)] (mx_as [] mx_rlC_0 5) (3, 22) := by
  have e9 : mx_sp (mx_as [] ((5, 0, 8, some 0) :: (5, 0, 7, some 0) :: (5, 0, 6, some 0) :: (5, 0, 4, some 0) :: mx_rlC_0) 10) 2 0 0 0 = mx_as [] mx_rlC_1 10 := mx_Ep rfl
  rw [← e9] at h
  exact mx_P_Rl_0 (mx_En (f := 5) (i := 0) rfl rfl (by decide +kernel)) rfl (by decide +kernel) rfl (by decide +kernel) rfl (by decide +kernel) rfl (by decide +kernel) ⟨mx_vi (by decide +kernel), h⟩
def mx_rlC_2 : List (Nat × Nat × Nat × Option Nat) := (2, 0, 1, some 1) :: (5, 1, 8, some 1) :: (5, 1, 7, some 1) :: (5, 1, 6, some 1) :: (5, 1, 4, some 1) :: mx_rlC_1
set_option maxRecDepth 100000 in
theorem mx_C_1 {n : Nat} (h : mx_xq false scr (mx_XW false scr (d + 1)) mt_Cf_init post ex n 34 [(0, .inr (.inr (.inl (1, 0)))), (1, .inl 2)] (mx_as [] mx_rlC_2 15) (13, 240)) : mx_xq false scr (mx_XW false scr (d + 1)) mt_Cf_init post ex (n + 1) 34 [(0, .inr (.inr (.inl (1, 0)))), (1, .inl 1)] (mx_as [] mx_rlC_1 10) (8, 131) := by
  have e9 : mx_sp (mx_as [] ((5, 1, 8, some 1) :: (5, 1, 7, some 1) :: (5, 1, 6, some 1) :: (5, 1, 4, some 1) :: mx_rlC_1) 15) 2 0 1 1 = mx_as [] mx_rlC_2 15 := mx_Ep rfl
  rw [← e9] at h
  exact mx_P_Rl_1 (mx_En (f := 5) (i := 1) rfl rfl (by decide +kernel)) rfl (by decide +kernel) rfl (by decide +kernel) rfl (by decide +kernel) rfl (by decide +kernel) ⟨mx_vi (by decide +kernel), h⟩
def mx_rlC_3 : List (Nat × Nat × Nat × Option Nat) := (2, 0, 2, some 2) :: (5, 2, 8, some 2) :: (5, 2, 7, some 2) :: (5, 2, 6, some 2) :: (5, 2, 4, some 2) :: mx_rlC_2
set_option maxRecDepth 100000 in
theorem mx_C_2 {n : Nat} (h : mx_xq false scr (mx_XW false scr (d + 1)) mt_Cf_init post ex n 34 [(0, .inr (.inr (.inl (1, 0)))), (1, .inl 3)] (mx_as [] mx_rlC_3 20) (18, 349)) : mx_xq false scr (mx_XW false scr (d + 1)) mt_Cf_init post ex (n + 1) 34 [(0, .inr (.inr (.inl (1, 0)))), (1, .inl 2)] (mx_as [] mx_rlC_2 15) (13, 240) := by
  have e9 : mx_sp (mx_as [] ((5, 2, 8, some 2) :: (5, 2, 7, some 2) :: (5, 2, 6, some 2) :: (5, 2, 4, some 2) :: mx_rlC_2) 20) 2 0 2 2 = mx_as [] mx_rlC_3 20 := mx_Ep rfl
  rw [← e9] at h
  exact mx_P_Rl_2 (mx_En (f := 5) (i := 2) rfl rfl (by decide +kernel)) rfl (by decide +kernel) rfl (by decide +kernel) rfl (by decide +kernel) rfl (by decide +kernel) ⟨mx_vi (by decide +kernel), h⟩
def mx_rlC_4 : List (Nat × Nat × Nat × Option Nat) := (2, 0, 3, some 3) :: (5, 3, 8, some 3) :: (5, 3, 7, some 3) :: (5, 3, 6, some 3) :: (5, 3, 4, some 3) :: mx_rlC_3
set_option maxRecDepth 100000 in
theorem mx_C_3 {n : Nat} (h : mx_xq false scr (mx_XW false scr (d + 1)) mt_Cf_init post ex n 34 [(0, .inr (.inr (.inl (1, 0)))), (1, .inl 4)] (mx_as [] mx_rlC_4 25) (23, 458)) : mx_xq false scr (mx_XW false scr (d + 1)) mt_Cf_init post ex (n + 1) 34 [(0, .inr (.inr (.inl (1, 0)))), (1, .inl 3)] (mx_as [] mx_rlC_3 20) (18, 349) := by
  have e9 : mx_sp (mx_as [] ((5, 3, 8, some 3) :: (5, 3, 7, some 3) :: (5, 3, 6, some 3) :: (5, 3, 4, some 3) :: mx_rlC_3) 25) 2 0 3 3 = mx_as [] mx_rlC_4 25 := mx_Ep rfl
  rw [← e9] at h
  exact mx_P_Rl_3 (mx_En (f := 5) (i := 3) rfl rfl (by decide +kernel)) rfl (by decide +kernel) rfl (by decide +kernel) rfl (by decide +kernel) rfl (by decide +kernel) ⟨mx_vi (by decide +kernel), h⟩
def mx_rlC_5 : List (Nat × Nat × Nat × Option Nat) := (2, 0, 4, some 4) :: (5, 4, 8, some 4) :: (5, 4, 7, some 4) :: (5, 4, 6, some 4) :: (5, 4, 4, some 4) :: mx_rlC_4
set_option maxRecDepth 100000 in
theorem mx_C_4 {n : Nat} (h : mx_xq false scr (mx_XW false scr (d + 1)) mt_Cf_init post ex n 34 [(0, .inr (.inr (.inl (1, 0)))), (1, .inl 5)] (mx_as [] mx_rlC_5 30) (28, 567)) : mx_xq false scr (mx_XW false scr (d + 1)) mt_Cf_init post ex (n + 1) 34 [(0, .inr (.inr (.inl (1, 0)))), (1, .inl 4)] (mx_as [] mx_rlC_4 25) (23, 458) := by
  have e9 : mx_sp (mx_as [] ((5, 4, 8, some 4) :: (5, 4, 7, some 4) :: (5, 4, 6, some 4) :: (5, 4, 4, some 4) :: mx_rlC_4) 30) 2 0 4 4 = mx_as [] mx_rlC_5 30 := mx_Ep rfl
  rw [← e9] at h
  exact mx_P_Rl_4 (mx_En (f := 5) (i := 4) rfl rfl (by decide +kernel)) rfl (by decide +kernel) rfl (by decide +kernel) rfl (by decide +kernel) rfl (by decide +kernel) ⟨mx_vi (by decide +kernel), h⟩
def mx_rlC_6 : List (Nat × Nat × Nat × Option Nat) := (2, 0, 5, some 5) :: (5, 5, 8, some 5) :: (5, 5, 7, some 5) :: (5, 5, 6, some 5) :: (5, 5, 4, some 5) :: mx_rlC_5
set_option maxRecDepth 100000 in
theorem mx_C_5 {n : Nat} (h : mx_xq false scr (mx_XW false scr (d + 1)) mt_Cf_init post ex n 34 [(0, .inr (.inr (.inl (1, 0)))), (1, .inl 6)] (mx_as [] mx_rlC_6 35) (33, 676)) : mx_xq false scr (mx_XW false scr (d + 1)) mt_Cf_init post ex (n + 1) 34 [(0, .inr (.inr (.inl (1, 0)))), (1, .inl 5)] (mx_as [] mx_rlC_5 30) (28, 567) := by
  have e9 : mx_sp (mx_as [] ((5, 5, 8, some 5) :: (5, 5, 7, some 5) :: (5, 5, 6, some 5) :: (5, 5, 4, some 5) :: mx_rlC_5) 35) 2 0 5 5 = mx_as [] mx_rlC_6 35 := mx_Ep rfl
  rw [← e9] at h
  exact mx_P_Rl_5 (mx_En (f := 5) (i := 5) rfl rfl (by decide +kernel)) rfl (by decide +kernel) rfl (by decide +kernel) rfl (by decide +kernel) rfl (by decide +kernel) ⟨mx_vi (by decide +kernel), h⟩
def mx_rlC_7 : List (Nat × Nat × Nat × Option Nat) := (2, 0, 6, some 6) :: (5, 6, 8, some 6) :: (5, 6, 7, some 6) :: (5, 6, 6, some 6) :: (5, 6, 4, some 6) :: mx_rlC_6
set_option maxRecDepth 100000 in
theorem mx_C_6 {n : Nat} (h : mx_xq false scr (mx_XW false scr (d + 1)) mt_Cf_init post ex n 34 [(0, .inr (.inr (.inl (1, 0)))), (1, .inl 7)] (mx_as [] mx_rlC_7 40) (38, 785)) : mx_xq false scr (mx_XW false scr (d + 1)) mt_Cf_init post ex (n + 1) 34 [(0, .inr (.inr (.inl (1, 0)))), (1, .inl 6)] (mx_as [] mx_rlC_6 35) (33, 676) := by
  have e9 : mx_sp (mx_as [] ((5, 6, 8, some 6) :: (5, 6, 7, some 6) :: (5, 6, 6, some 6) :: (5, 6, 4, some 6) :: mx_rlC_6) 40) 2 0 6 6 = mx_as [] mx_rlC_7 40 := mx_Ep rfl
  rw [← e9] at h
  exact mx_P_Rl_6 (mx_En (f := 5) (i := 6) rfl rfl (by decide +kernel)) rfl (by decide +kernel) rfl (by decide +kernel) rfl (by decide +kernel) rfl (by decide +kernel) ⟨mx_vi (by decide +kernel), h⟩
def mx_rlC_8 : List (Nat × Nat × Nat × Option Nat) := (2, 0, 7, some 7) :: (5, 7, 8, some 7) :: (5, 7, 7, some 7) :: (5, 7, 6, some 7) :: (5, 7, 4, some 7) :: mx_rlC_7
set_option maxRecDepth 100000 in
theorem mx_C_7 {n : Nat} (h : mx_xq false scr (mx_XW false scr (d + 1)) mt_Cf_init post ex n 34 [(0, .inr (.inr (.inl (1, 0)))), (1, .inl 8)] (mx_as [] mx_rlC_8 45) (43, 894)) : mx_xq false scr (mx_XW false scr (d + 1)) mt_Cf_init post ex (n + 1) 34 [(0, .inr (.inr (.inl (1, 0)))), (1, .inl 7)] (mx_as [] mx_rlC_7 40) (38, 785) := by
  have e9 : mx_sp (mx_as [] ((5, 7, 8, some 7) :: (5, 7, 7, some 7) :: (5, 7, 6, some 7) :: (5, 7, 4, some 7) :: mx_rlC_7) 45) 2 0 7 7 = mx_as [] mx_rlC_8 45 := mx_Ep rfl
  rw [← e9] at h
  exact mx_P_Rl_7 (mx_En (f := 5) (i := 7) rfl rfl (by decide +kernel)) rfl (by decide +kernel) rfl (by decide +kernel) rfl (by decide +kernel) rfl (by decide +kernel) ⟨mx_vi (by decide +kernel), h⟩
def mx_rlC_9 : List (Nat × Nat × Nat × Option Nat) := (2, 0, 8, some 8) :: (5, 8, 8, some 8) :: (5, 8, 7, some 8) :: (5, 8, 6, some 8) :: (5, 8, 4, some 8) :: mx_rlC_8
set_option maxRecDepth 100000 in
theorem mx_C_8 {n : Nat} (h : mx_xq false scr (mx_XW false scr (d + 1)) mt_Cf_init post ex n 34 [(0, .inr (.inr (.inl (1, 0)))), (1, .inl 9)] (mx_as [] mx_rlC_9 50) (48, 1003)) : mx_xq false scr (mx_XW false scr (d + 1)) mt_Cf_init post ex (n + 1) 34 [(0, .inr (.inr (.inl (1, 0)))), (1, .inl 8)] (mx_as [] mx_rlC_8 45) (43, 894) := by
  have e9 : mx_sp (mx_as [] ((5, 8, 8, some 8) :: (5, 8, 7, some 8) :: (5, 8, 6, some 8) :: (5, 8, 4, some 8) :: mx_rlC_8) 50) 2 0 8 8 = mx_as [] mx_rlC_9 50 := mx_Ep rfl
  rw [← e9] at h
  exact mx_P_Rl_8 (mx_En (f := 5) (i := 8) rfl rfl (by decide +kernel)) rfl (by decide +kernel) rfl (by decide +kernel) rfl (by decide +kernel) rfl (by decide +kernel) ⟨mx_vi (by decide +kernel), h⟩
set_option maxRecDepth 100000 in
theorem mx_C_z {n : Nat} (h : post.1 (mx_as [] mx_rlC_9 50)) : mx_xq false scr (mx_XW false scr (d + 1)) mt_Cf_init post ex (n + 1) 34 [(0, .inr (.inr (.inl (1, 0)))), (1, .inl 9)] (mx_as [] mx_rlC_9 50) (48, 1003) := h
set_option maxRecDepth 100000 in
theorem mx_C_s {q : Nat → mLV → mSt → Nat × Nat → Prop} (h : q 34 [(0, .inr (.inr (.inl (1, 0)))), (1, .inl 0)] (mx_as [] mx_rlC_0 5) (3, 22)) : mx_blk false scr (mx_XW false scr (d + 1)) mt_Cf_init post ex q 700 true cd_Cf_init (mx_args 0 [.inr (.inr (.inl (1, 0)))]) [] (mx_as [] [] 2) (0, 0) := by
  have e9 : mx_sp (mx_sn (mx_sp (mx_sn (mx_sp (mx_sn (mx_as [] [] 2) 2 0) 1 0 0 0) 3 0) 1 0 3 0) 4 0) 1 0 4 0 = mx_as [] mx_rlC_0 5 := mx_Ep (mx_En (mx_Ep (mx_En (mx_Ep (mx_En rfl rfl rfl)) rfl rfl)) rfl rfl)
  rw [← e9] at h
  exact ⟨rfl, mx_P_Rd ⟨rfl, h⟩⟩
theorem mx_P_Cf (hs : s = mx_as [] [] 2) (h : post.1 (mx_as [] mx_rlC_9 50)) : mx_XW false scr (d + 2) 1 [.inr (.inr (.inl (1, 0)))] s post ex := by
  subst hs
  exact ⟨10, mx_C_s (mx_C_0 (mx_C_1 (mx_C_2 (mx_C_3 (mx_C_4 (mx_C_5 (mx_C_6 (mx_C_7 (mx_C_8 ((mx_C_z h)))))))))))⟩
def mx_rlR_0 : List (Nat × Nat × Nat × Option Nat) := (0, 0, 5, some 0) :: (0, 0, 4, some 0) :: (11, 0, 0, some 0) :: (0, 0, 2, some 0) :: (0, 0, 1, some 0) :: mx_rlC_9
def mx_ilR_0 (x : Int32) : List (Nat × Nat × Nat × Int32) := [(0, 0, 0, 1 + (x &&& 7))]
def mx_rlR_1 : List (Nat × Nat × Nat × Option Nat) := (13, 0, 0, some 0) :: (14, 0, 4, some 0) :: (14, 0, 2, some 0) :: (14, 0, 1, some 0) :: mx_rlR_0
def mx_ilR_1 (x : Int32) : List (Nat × Nat × Nat × Int32) := (14, 0, 0, (-1)) :: mx_ilR_0 x
set_option maxRecDepth 100000 in
theorem mx_R_0 {n : Nat} {x : Int32} (h : mx_xq false scr (mx_XW false scr (d + 2)) mt_Rs_init post ex n 54 [(0, .inr (.inr (.inl (0, 0)))), (1, .inl x), (2, .inl 1)] (mx_as (mx_ilR_1 x) mx_rlR_1 58) (57, 1245)) : mx_xq false scr (mx_XW false scr (d + 2)) mt_Rs_init post ex (n + 1) 54 [(0, .inr (.inr (.inl (0, 0)))), (1, .inl x), (2, .inl 0)] (mx_as (mx_ilR_0 x) mx_rlR_0 54) (53, 1144) := by
  have e9 : mx_sp (mx_as (mx_ilR_1 x) ((14, 0, 4, some 0) :: (14, 0, 2, some 0) :: (14, 0, 1, some 0) :: mx_rlR_0) 58) 13 0 0 0 = mx_as (mx_ilR_1 x) mx_rlR_1 58 := mx_Ep rfl
  rw [← e9] at h
  exact mx_P_Vs_0 (mx_En (f := 14) (i := 0) rfl rfl (by decide +kernel)) rfl (by decide +kernel) rfl (by decide +kernel) rfl (by decide +kernel) ⟨mx_vi (by decide +kernel), h⟩
def mx_rlR_2 : List (Nat × Nat × Nat × Option Nat) := (13, 0, 1, some 1) :: (14, 1, 4, some 1) :: (14, 1, 2, some 1) :: (14, 1, 1, some 1) :: mx_rlR_1
def mx_ilR_2 (x : Int32) : List (Nat × Nat × Nat × Int32) := (14, 1, 0, (-1)) :: mx_ilR_1 x
set_option maxRecDepth 100000 in
theorem mx_R_1 {n : Nat} {x : Int32} (h : mx_xq false scr (mx_XW false scr (d + 2)) mt_Rs_init post ex n 54 [(0, .inr (.inr (.inl (0, 0)))), (1, .inl x), (2, .inl 2)] (mx_as (mx_ilR_2 x) mx_rlR_2 62) (61, 1346)) : mx_xq false scr (mx_XW false scr (d + 2)) mt_Rs_init post ex (n + 1) 54 [(0, .inr (.inr (.inl (0, 0)))), (1, .inl x), (2, .inl 1)] (mx_as (mx_ilR_1 x) mx_rlR_1 58) (57, 1245) := by
  have e9 : mx_sp (mx_as (mx_ilR_2 x) ((14, 1, 4, some 1) :: (14, 1, 2, some 1) :: (14, 1, 1, some 1) :: mx_rlR_1) 62) 13 0 1 1 = mx_as (mx_ilR_2 x) mx_rlR_2 62 := mx_Ep rfl
  rw [← e9] at h
  exact mx_P_Vs_1 (mx_En (f := 14) (i := 1) rfl rfl (by decide +kernel)) rfl (by decide +kernel) rfl (by decide +kernel) rfl (by decide +kernel) ⟨mx_vi (by decide +kernel), h⟩
def mx_rlR_3 : List (Nat × Nat × Nat × Option Nat) := (13, 0, 2, some 2) :: (14, 2, 4, some 2) :: (14, 2, 2, some 2) :: (14, 2, 1, some 2) :: mx_rlR_2
def mx_ilR_3 (x : Int32) : List (Nat × Nat × Nat × Int32) := (14, 2, 0, (-1)) :: mx_ilR_2 x
set_option maxRecDepth 100000 in
theorem mx_R_2 {n : Nat} {x : Int32} (h : mx_xq false scr (mx_XW false scr (d + 2)) mt_Rs_init post ex n 54 [(0, .inr (.inr (.inl (0, 0)))), (1, .inl x), (2, .inl 3)] (mx_as (mx_ilR_3 x) mx_rlR_3 66) (65, 1447)) : mx_xq false scr (mx_XW false scr (d + 2)) mt_Rs_init post ex (n + 1) 54 [(0, .inr (.inr (.inl (0, 0)))), (1, .inl x), (2, .inl 2)] (mx_as (mx_ilR_2 x) mx_rlR_2 62) (61, 1346) := by
  have e9 : mx_sp (mx_as (mx_ilR_3 x) ((14, 2, 4, some 2) :: (14, 2, 2, some 2) :: (14, 2, 1, some 2) :: mx_rlR_2) 66) 13 0 2 2 = mx_as (mx_ilR_3 x) mx_rlR_3 66 := mx_Ep rfl
  rw [← e9] at h
  exact mx_P_Vs_2 (mx_En (f := 14) (i := 2) rfl rfl (by decide +kernel)) rfl (by decide +kernel) rfl (by decide +kernel) rfl (by decide +kernel) ⟨mx_vi (by decide +kernel), h⟩
def mx_rlR_4 : List (Nat × Nat × Nat × Option Nat) := (13, 0, 3, some 3) :: (14, 3, 4, some 3) :: (14, 3, 2, some 3) :: (14, 3, 1, some 3) :: mx_rlR_3
def mx_ilR_4 (x : Int32) : List (Nat × Nat × Nat × Int32) := (14, 3, 0, (-1)) :: mx_ilR_3 x
set_option maxRecDepth 100000 in
theorem mx_R_3 {n : Nat} {x : Int32} (h : mx_xq false scr (mx_XW false scr (d + 2)) mt_Rs_init post ex n 54 [(0, .inr (.inr (.inl (0, 0)))), (1, .inl x), (2, .inl 4)] (mx_as (mx_ilR_4 x) mx_rlR_4 70) (69, 1548)) : mx_xq false scr (mx_XW false scr (d + 2)) mt_Rs_init post ex (n + 1) 54 [(0, .inr (.inr (.inl (0, 0)))), (1, .inl x), (2, .inl 3)] (mx_as (mx_ilR_3 x) mx_rlR_3 66) (65, 1447) := by
  have e9 : mx_sp (mx_as (mx_ilR_4 x) ((14, 3, 4, some 3) :: (14, 3, 2, some 3) :: (14, 3, 1, some 3) :: mx_rlR_3) 70) 13 0 3 3 = mx_as (mx_ilR_4 x) mx_rlR_4 70 := mx_Ep rfl
  rw [← e9] at h
  exact mx_P_Vs_3 (mx_En (f := 14) (i := 3) rfl rfl (by decide +kernel)) rfl (by decide +kernel) rfl (by decide +kernel) rfl (by decide +kernel) ⟨mx_vi (by decide +kernel), h⟩
def mx_rlR_5 : List (Nat × Nat × Nat × Option Nat) := (13, 0, 4, some 4) :: (14, 4, 4, some 4) :: (14, 4, 2, some 4) :: (14, 4, 1, some 4) :: mx_rlR_4
def mx_ilR_5 (x : Int32) : List (Nat × Nat × Nat × Int32) := (14, 4, 0, (-1)) :: mx_ilR_4 x
set_option maxRecDepth 100000 in
theorem mx_R_4 {n : Nat} {x : Int32} (h : mx_xq false scr (mx_XW false scr (d + 2)) mt_Rs_init post ex n 54 [(0, .inr (.inr (.inl (0, 0)))), (1, .inl x), (2, .inl 5)] (mx_as (mx_ilR_5 x) mx_rlR_5 74) (73, 1649)) : mx_xq false scr (mx_XW false scr (d + 2)) mt_Rs_init post ex (n + 1) 54 [(0, .inr (.inr (.inl (0, 0)))), (1, .inl x), (2, .inl 4)] (mx_as (mx_ilR_4 x) mx_rlR_4 70) (69, 1548) := by
  have e9 : mx_sp (mx_as (mx_ilR_5 x) ((14, 4, 4, some 4) :: (14, 4, 2, some 4) :: (14, 4, 1, some 4) :: mx_rlR_4) 74) 13 0 4 4 = mx_as (mx_ilR_5 x) mx_rlR_5 74 := mx_Ep rfl
  rw [← e9] at h
  exact mx_P_Vs_4 (mx_En (f := 14) (i := 4) rfl rfl (by decide +kernel)) rfl (by decide +kernel) rfl (by decide +kernel) rfl (by decide +kernel) ⟨mx_vi (by decide +kernel), h⟩
def mx_rlR_6 : List (Nat × Nat × Nat × Option Nat) := (13, 0, 5, some 5) :: (14, 5, 4, some 5) :: (14, 5, 2, some 5) :: (14, 5, 1, some 5) :: mx_rlR_5
def mx_ilR_6 (x : Int32) : List (Nat × Nat × Nat × Int32) := (14, 5, 0, (-1)) :: mx_ilR_5 x
set_option maxRecDepth 100000 in
theorem mx_R_5 {n : Nat} {x : Int32} (h : mx_xq false scr (mx_XW false scr (d + 2)) mt_Rs_init post ex n 54 [(0, .inr (.inr (.inl (0, 0)))), (1, .inl x), (2, .inl 6)] (mx_as (mx_ilR_6 x) mx_rlR_6 78) (77, 1750)) : mx_xq false scr (mx_XW false scr (d + 2)) mt_Rs_init post ex (n + 1) 54 [(0, .inr (.inr (.inl (0, 0)))), (1, .inl x), (2, .inl 5)] (mx_as (mx_ilR_5 x) mx_rlR_5 74) (73, 1649) := by
  have e9 : mx_sp (mx_as (mx_ilR_6 x) ((14, 5, 4, some 5) :: (14, 5, 2, some 5) :: (14, 5, 1, some 5) :: mx_rlR_5) 78) 13 0 5 5 = mx_as (mx_ilR_6 x) mx_rlR_6 78 := mx_Ep rfl
  rw [← e9] at h
  exact mx_P_Vs_5 (mx_En (f := 14) (i := 5) rfl rfl (by decide +kernel)) rfl (by decide +kernel) rfl (by decide +kernel) rfl (by decide +kernel) ⟨mx_vi (by decide +kernel), h⟩
def mx_rlR_7 : List (Nat × Nat × Nat × Option Nat) := (13, 0, 6, some 6) :: (14, 6, 4, some 6) :: (14, 6, 2, some 6) :: (14, 6, 1, some 6) :: mx_rlR_6
def mx_ilR_7 (x : Int32) : List (Nat × Nat × Nat × Int32) := (14, 6, 0, (-1)) :: mx_ilR_6 x
set_option maxRecDepth 100000 in
theorem mx_R_6 {n : Nat} {x : Int32} (h : mx_xq false scr (mx_XW false scr (d + 2)) mt_Rs_init post ex n 54 [(0, .inr (.inr (.inl (0, 0)))), (1, .inl x), (2, .inl 7)] (mx_as (mx_ilR_7 x) mx_rlR_7 82) (81, 1851)) : mx_xq false scr (mx_XW false scr (d + 2)) mt_Rs_init post ex (n + 1) 54 [(0, .inr (.inr (.inl (0, 0)))), (1, .inl x), (2, .inl 6)] (mx_as (mx_ilR_6 x) mx_rlR_6 78) (77, 1750) := by
  have e9 : mx_sp (mx_as (mx_ilR_7 x) ((14, 6, 4, some 6) :: (14, 6, 2, some 6) :: (14, 6, 1, some 6) :: mx_rlR_6) 82) 13 0 6 6 = mx_as (mx_ilR_7 x) mx_rlR_7 82 := mx_Ep rfl
  rw [← e9] at h
  exact mx_P_Vs_6 (mx_En (f := 14) (i := 6) rfl rfl (by decide +kernel)) rfl (by decide +kernel) rfl (by decide +kernel) rfl (by decide +kernel) ⟨mx_vi (by decide +kernel), h⟩
def mx_rlR_8 : List (Nat × Nat × Nat × Option Nat) := (13, 0, 7, some 7) :: (14, 7, 4, some 7) :: (14, 7, 2, some 7) :: (14, 7, 1, some 7) :: mx_rlR_7
def mx_ilR_8 (x : Int32) : List (Nat × Nat × Nat × Int32) := (14, 7, 0, (-1)) :: mx_ilR_7 x
set_option maxRecDepth 100000 in
theorem mx_R_7 {n : Nat} {x : Int32} (h : mx_xq false scr (mx_XW false scr (d + 2)) mt_Rs_init post ex n 54 [(0, .inr (.inr (.inl (0, 0)))), (1, .inl x), (2, .inl 8)] (mx_as (mx_ilR_8 x) mx_rlR_8 86) (85, 1952)) : mx_xq false scr (mx_XW false scr (d + 2)) mt_Rs_init post ex (n + 1) 54 [(0, .inr (.inr (.inl (0, 0)))), (1, .inl x), (2, .inl 7)] (mx_as (mx_ilR_7 x) mx_rlR_7 82) (81, 1851) := by
  have e9 : mx_sp (mx_as (mx_ilR_8 x) ((14, 7, 4, some 7) :: (14, 7, 2, some 7) :: (14, 7, 1, some 7) :: mx_rlR_7) 86) 13 0 7 7 = mx_as (mx_ilR_8 x) mx_rlR_8 86 := mx_Ep rfl
  rw [← e9] at h
  exact mx_P_Vs_7 (mx_En (f := 14) (i := 7) rfl rfl (by decide +kernel)) rfl (by decide +kernel) rfl (by decide +kernel) rfl (by decide +kernel) ⟨mx_vi (by decide +kernel), h⟩
set_option maxRecDepth 100000 in
theorem mx_R_z {n : Nat} {x : Int32} (h : post.1 (mx_as (mx_ilR_8 x) mx_rlR_8 86)) : mx_xq false scr (mx_XW false scr (d + 2)) mt_Rs_init post ex (n + 1) 54 [(0, .inr (.inr (.inl (0, 0)))), (1, .inl x), (2, .inl 8)] (mx_as (mx_ilR_8 x) mx_rlR_8 86) (85, 1952) := h
set_option maxRecDepth 100000 in
theorem mx_R_s {x : Int32} {q : Nat → mLV → mSt → Nat × Nat → Prop} (h : q 54 [(0, .inr (.inr (.inl (0, 0)))), (1, .inl x), (2, .inl 0)] (mx_as (mx_ilR_0 x) mx_rlR_0 54) (53, 1144)) : mx_blk false scr (mx_XW false scr (d + 2)) mt_Rs_init post ex q 700 true cd_Rs_init (mx_args 0 [.inr (.inr (.inl (0, 0))), .inl x]) [] (mx_as [] [] 1) (0, 0) := by
  have e9 : mx_si (mx_sp (mx_sn (mx_sp (mx_as [] ((11, 0, 0, some 0) :: (0, 0, 2, some 0) :: (0, 0, 1, some 0) :: mx_rlC_9) 53) 0 0 4 0) 13 0) 0 0 5 0) 0 0 0 (1 + (x &&& 7)) = mx_as (mx_ilR_0 x) mx_rlR_0 54 := mx_Ei (mx_Ep (mx_En (mx_Ep rfl) rfl (by decide +kernel)))
  rw [← e9] at h
  exact mx_P_Cf (mx_En rfl rfl rfl) ⟨rfl, mx_P_Lg (mx_En (f := 11) (i := 0) (mx_Ep (mx_En (f := 10) (i := 0) (mx_Ep rfl) rfl (by decide +kernel))) rfl (by decide +kernel)) rfl (by decide +kernel) ⟨rfl, h⟩⟩
theorem mx_P_Rs {x : Int32} (hs : s = mx_as [] [] 1) (h : post.1 (mx_as (mx_ilR_8 x) mx_rlR_8 86)) : mx_XW false scr (d + 3) 0 [.inr (.inr (.inl (0, 0))), .inl x] s post ex := by
  subst hs
  exact ⟨9, mx_R_s (mx_R_0 (mx_R_1 (mx_R_2 (mx_R_3 (mx_R_4 (mx_R_5 (mx_R_6 (mx_R_7 ((mx_R_z h))))))))))⟩
end
end
section
section
variable {scr : mSc} {d : Nat} {post : mPo} {ex : Nat → mSt → Prop} {il : List (Nat × Nat × Nat × Int32)} {rl : List (Nat × Nat × Nat × Option Nat)} {s : mSt} {q : Nat → mLV → mSt → Nat × Nat → Prop} {cal : Nat → List mAV → mSt → mPo → (Nat → mSt → Prop) → Prop} {n : Nat} {x : Int32}
set_option maxRecDepth 100000 in
theorem mx_M_0 (k1 : mx_kk il 19 0 = true) (k2 : mx_kk rl 19 0 = true) (h : mx_blk false scr cal mt_Md_init post ex q n false (cd_Md_init.drop 6) [(0, .inr (.inr (.inl (18, 0)))), (1, .inl x)] [] (mx_as il ((18, 0, 4, some 0) :: rl) 88) (1, 9)) : mx_blk false scr cal mt_Md_init post ex q (n + 4) false (cd_Md_init.drop 2) [(0, .inr (.inr (.inl (18, 0)))), (1, .inl x)] [] (mx_as il rl 87) (0, 0) := by
  have e9 : mx_sp (mx_sn (mx_as il rl 87) 19 0) 18 0 4 0 = mx_as il ((18, 0, 4, some 0) :: rl) 88 := mx_Ep (mx_En rfl k1 k2)
  rw [← e9] at h
  exact ⟨rfl, h⟩
set_option maxRecDepth 100000 in
theorem mx_M_1 (k1 : mx_kk il 20 0 = true) (k2 : mx_kk rl 20 0 = true) (h : mx_blk false scr cal mt_Md_init post ex q n false (cd_Md_init.drop 10) [(0, .inr (.inr (.inl (18, 0)))), (1, .inl x)] [] (mx_as il ((18, 0, 5, some 0) :: rl) 89) (2, 18)) : mx_blk false scr cal mt_Md_init post ex q (n + 4) false (cd_Md_init.drop 6) [(0, .inr (.inr (.inl (18, 0)))), (1, .inl x)] [] (mx_as il rl 88) (1, 9) := by
  have e9 : mx_sp (mx_sn (mx_as il rl 88) 20 0) 18 0 5 0 = mx_as il ((18, 0, 5, some 0) :: rl) 89 := mx_Ep (mx_En rfl k1 k2)
  rw [← e9] at h
  exact ⟨rfl, h⟩
set_option maxRecDepth 100000 in
theorem mx_M_2 (k1 : mx_kk il 21 0 = true) (k2 : mx_kk rl 21 0 = true) (h : mx_blk false scr cal mt_Md_init post ex q n false (cd_Md_init.drop 14) [(0, .inr (.inr (.inl (18, 0)))), (1, .inl x)] [] (mx_as il ((18, 0, 6, some 0) :: rl) 90) (3, 27)) : mx_blk false scr cal mt_Md_init post ex q (n + 4) false (cd_Md_init.drop 10) [(0, .inr (.inr (.inl (18, 0)))), (1, .inl x)] [] (mx_as il rl 89) (2, 18) := by
  have e9 : mx_sp (mx_sn (mx_as il rl 89) 21 0) 18 0 6 0 = mx_as il ((18, 0, 6, some 0) :: rl) 90 := mx_Ep (mx_En rfl k1 k2)
  rw [← e9] at h
  exact ⟨rfl, h⟩
set_option maxRecDepth 100000 in
theorem mx_M_3 (k1 : mx_kk il 22 0 = true) (k2 : mx_kk rl 22 0 = true) (h : mx_blk false scr cal mt_Md_init post ex q n false (cd_Md_init.drop 18) [(0, .inr (.inr (.inl (18, 0)))), (1, .inl x)] [] (mx_as il ((18, 0, 7, some 0) :: rl) 91) (4, 36)) : mx_blk false scr cal mt_Md_init post ex q (n + 4) false (cd_Md_init.drop 14) [(0, .inr (.inr (.inl (18, 0)))), (1, .inl x)] [] (mx_as il rl 90) (3, 27) := by
  have e9 : mx_sp (mx_sn (mx_as il rl 90) 22 0) 18 0 7 0 = mx_as il ((18, 0, 7, some 0) :: rl) 91 := mx_Ep (mx_En rfl k1 k2)
  rw [← e9] at h
  exact ⟨rfl, h⟩
set_option maxRecDepth 100000 in
theorem mx_M_4 (k1 : mx_kk il 23 0 = true) (k2 : mx_kk rl 23 0 = true) (h : mx_blk false scr cal mt_Md_init post ex q n false (cd_Md_init.drop 22) [(0, .inr (.inr (.inl (18, 0)))), (1, .inl x)] [] (mx_as il ((18, 0, 8, some 0) :: rl) 92) (5, 252)) : mx_blk false scr cal mt_Md_init post ex q (n + 4) false (cd_Md_init.drop 18) [(0, .inr (.inr (.inl (18, 0)))), (1, .inl x)] [] (mx_as il rl 91) (4, 36) := by
  have e9 : mx_sp (mx_sn (mx_as il rl 91) 23 0) 18 0 8 0 = mx_as il ((18, 0, 8, some 0) :: rl) 92 := mx_Ep (mx_En rfl k1 k2)
  rw [← e9] at h
  exact ⟨rfl, h⟩
set_option maxRecDepth 100000 in
theorem mx_M_5 (k1 : mx_kk il 24 0 = true) (k2 : mx_kk rl 24 0 = true) (h : mx_blk false scr cal mt_Md_init post ex q n false (cd_Md_init.drop 26) [(0, .inr (.inr (.inl (18, 0)))), (1, .inl x)] [] (mx_as il ((18, 0, 9, some 0) :: rl) 93) (6, 261)) : mx_blk false scr cal mt_Md_init post ex q (n + 4) false (cd_Md_init.drop 22) [(0, .inr (.inr (.inl (18, 0)))), (1, .inl x)] [] (mx_as il rl 92) (5, 252) := by
  have e9 : mx_sp (mx_sn (mx_as il rl 92) 24 0) 18 0 9 0 = mx_as il ((18, 0, 9, some 0) :: rl) 93 := mx_Ep (mx_En rfl k1 k2)
  rw [← e9] at h
  exact ⟨rfl, h⟩
set_option maxRecDepth 100000 in
theorem mx_M_6 (k1 : mx_kk il 25 0 = true) (k2 : mx_kk rl 25 0 = true) (h : mx_blk false scr cal mt_Md_init post ex q n false (cd_Md_init.drop 30) [(0, .inr (.inr (.inl (18, 0)))), (1, .inl x)] [] (mx_as il ((18, 0, 10, some 0) :: rl) 94) (7, 342)) : mx_blk false scr cal mt_Md_init post ex q (n + 4) false (cd_Md_init.drop 26) [(0, .inr (.inr (.inl (18, 0)))), (1, .inl x)] [] (mx_as il rl 93) (6, 261) := by
  have e9 : mx_sp (mx_sn (mx_as il rl 93) 25 0) 18 0 10 0 = mx_as il ((18, 0, 10, some 0) :: rl) 94 := mx_Ep (mx_En rfl k1 k2)
  rw [← e9] at h
  exact ⟨rfl, h⟩
set_option maxRecDepth 100000 in
theorem mx_M_7 (k1 : mx_kk il 26 0 = true) (k2 : mx_kk rl 26 0 = true) (h : mx_blk false scr cal mt_Md_init post ex q n false (cd_Md_init.drop 34) [(0, .inr (.inr (.inl (18, 0)))), (1, .inl x)] [] (mx_as il ((18, 0, 11, some 0) :: rl) 95) (8, 423)) : mx_blk false scr cal mt_Md_init post ex q (n + 4) false (cd_Md_init.drop 30) [(0, .inr (.inr (.inl (18, 0)))), (1, .inl x)] [] (mx_as il rl 94) (7, 342) := by
  have e9 : mx_sp (mx_sn (mx_as il rl 94) 26 0) 18 0 11 0 = mx_as il ((18, 0, 11, some 0) :: rl) 95 := mx_Ep (mx_En rfl k1 k2)
  rw [← e9] at h
  exact ⟨rfl, h⟩
set_option maxRecDepth 100000 in
theorem mx_M_8 (k1 : mx_kk il 27 0 = true) (k2 : mx_kk rl 27 0 = true) (h : mx_blk false scr cal mt_Md_init post ex q n false (cd_Md_init.drop 38) [(0, .inr (.inr (.inl (18, 0)))), (1, .inl x)] [] (mx_as il ((18, 0, 12, some 0) :: rl) 96) (9, 504)) : mx_blk false scr cal mt_Md_init post ex q (n + 4) false (cd_Md_init.drop 34) [(0, .inr (.inr (.inl (18, 0)))), (1, .inl x)] [] (mx_as il rl 95) (8, 423) := by
  have e9 : mx_sp (mx_sn (mx_as il rl 95) 27 0) 18 0 12 0 = mx_as il ((18, 0, 12, some 0) :: rl) 96 := mx_Ep (mx_En rfl k1 k2)
  rw [← e9] at h
  exact ⟨rfl, h⟩
set_option maxRecDepth 100000 in
theorem mx_M_9 (k1 : mx_kk il 28 0 = true) (k2 : mx_kk rl 28 0 = true) (h : mx_blk false scr cal mt_Md_init post ex q n false (cd_Md_init.drop 42) [(0, .inr (.inr (.inl (18, 0)))), (1, .inl x)] [] (mx_as il ((18, 0, 13, some 0) :: rl) 97) (10, 513)) : mx_blk false scr cal mt_Md_init post ex q (n + 4) false (cd_Md_init.drop 38) [(0, .inr (.inr (.inl (18, 0)))), (1, .inl x)] [] (mx_as il rl 96) (9, 504) := by
  have e9 : mx_sp (mx_sn (mx_as il rl 96) 28 0) 18 0 13 0 = mx_as il ((18, 0, 13, some 0) :: rl) 97 := mx_Ep (mx_En rfl k1 k2)
  rw [← e9] at h
  exact ⟨rfl, h⟩
set_option maxRecDepth 100000 in
theorem mx_M_10 (k1 : mx_kk il 29 0 = true) (k2 : mx_kk rl 29 0 = true) (h : mx_blk false scr cal mt_Md_init post ex q n false (cd_Md_init.drop 46) [(0, .inr (.inr (.inl (18, 0)))), (1, .inl x)] [] (mx_as il ((18, 0, 15, some 0) :: rl) 98) (11, 1233)) : mx_blk false scr cal mt_Md_init post ex q (n + 4) false (cd_Md_init.drop 42) [(0, .inr (.inr (.inl (18, 0)))), (1, .inl x)] [] (mx_as il rl 97) (10, 513) := by
  have e9 : mx_sp (mx_sn (mx_as il rl 97) 29 0) 18 0 15 0 = mx_as il ((18, 0, 15, some 0) :: rl) 98 := mx_Ep (mx_En rfl k1 k2)
  rw [← e9] at h
  exact ⟨rfl, h⟩
set_option maxRecDepth 100000 in
theorem mx_M_11 (k1 : mx_kk il 30 0 = true) (k2 : mx_kk rl 30 0 = true) (h : mx_blk false scr cal mt_Md_init post ex q n false (cd_Md_init.drop 50) [(0, .inr (.inr (.inl (18, 0)))), (1, .inl x)] [] (mx_as il ((18, 0, 16, some 0) :: rl) 99) (12, 1353)) : mx_blk false scr cal mt_Md_init post ex q (n + 4) false (cd_Md_init.drop 46) [(0, .inr (.inr (.inl (18, 0)))), (1, .inl x)] [] (mx_as il rl 98) (11, 1233) := by
  have e9 : mx_sp (mx_sn (mx_as il rl 98) 30 0) 18 0 16 0 = mx_as il ((18, 0, 16, some 0) :: rl) 99 := mx_Ep (mx_En rfl k1 k2)
  rw [← e9] at h
  exact ⟨rfl, h⟩
set_option maxRecDepth 100000 in
theorem mx_M_12 (k1 : mx_kk il 31 0 = true) (k2 : mx_kk rl 31 0 = true) (h : mx_blk false scr cal mt_Md_init post ex q n false (cd_Md_init.drop 54) [(0, .inr (.inr (.inl (18, 0)))), (1, .inl x)] [] (mx_as il ((18, 0, 20, some 0) :: rl) 100) (13, 1383)) : mx_blk false scr cal mt_Md_init post ex q (n + 4) false (cd_Md_init.drop 50) [(0, .inr (.inr (.inl (18, 0)))), (1, .inl x)] [] (mx_as il rl 99) (12, 1353) := by
  have e9 : mx_sp (mx_sn (mx_as il rl 99) 31 0) 18 0 20 0 = mx_as il ((18, 0, 20, some 0) :: rl) 100 := mx_Ep (mx_En rfl k1 k2)
  rw [← e9] at h
  exact ⟨rfl, h⟩
set_option maxRecDepth 100000 in
theorem mx_M_13 (k1 : mx_kk il 32 0 = true) (k2 : mx_kk rl 32 0 = true) (h : mx_blk false scr cal mt_Md_init post ex q n false (cd_Md_init.drop 58) [(0, .inr (.inr (.inl (18, 0)))), (1, .inl x)] [] (mx_as il ((18, 0, 22, some 0) :: rl) 101) (14, 1503)) : mx_blk false scr cal mt_Md_init post ex q (n + 4) false (cd_Md_init.drop 54) [(0, .inr (.inr (.inl (18, 0)))), (1, .inl x)] [] (mx_as il rl 100) (13, 1383) := by
  have e9 : mx_sp (mx_sn (mx_as il rl 100) 32 0) 18 0 22 0 = mx_as il ((18, 0, 22, some 0) :: rl) 101 := mx_Ep (mx_En rfl k1 k2)
  rw [← e9] at h
  exact ⟨rfl, h⟩
set_option maxRecDepth 100000 in
theorem mx_M_14 (k1 : mx_kk il 33 0 = true) (k2 : mx_kk rl 33 0 = true) (h : mx_blk false scr cal mt_Md_init post ex q n false (cd_Md_init.drop 62) [(0, .inr (.inr (.inl (18, 0)))), (1, .inl x)] [] (mx_as il ((18, 0, 23, some 0) :: rl) 102) (15, 1611)) : mx_blk false scr cal mt_Md_init post ex q (n + 4) false (cd_Md_init.drop 58) [(0, .inr (.inr (.inl (18, 0)))), (1, .inl x)] [] (mx_as il rl 101) (14, 1503) := by
  have e9 : mx_sp (mx_sn (mx_as il rl 101) 33 0) 18 0 23 0 = mx_as il ((18, 0, 23, some 0) :: rl) 102 := mx_Ep (mx_En rfl k1 k2)
  rw [← e9] at h
  exact ⟨rfl, h⟩
set_option maxRecDepth 100000 in
theorem mx_M_15 (k1 : mx_kk il 34 0 = true) (k2 : mx_kk rl 34 0 = true) (h : mx_blk false scr cal mt_Md_init post ex q n false (cd_Md_init.drop 66) [(0, .inr (.inr (.inl (18, 0)))), (1, .inl x)] [] (mx_as il ((18, 0, 24, some 0) :: rl) 103) (16, 1618)) : mx_blk false scr cal mt_Md_init post ex q (n + 4) false (cd_Md_init.drop 62) [(0, .inr (.inr (.inl (18, 0)))), (1, .inl x)] [] (mx_as il rl 102) (15, 1611) := by
  have e9 : mx_sp (mx_sn (mx_as il rl 102) 34 0) 18 0 24 0 = mx_as il ((18, 0, 24, some 0) :: rl) 103 := mx_Ep (mx_En rfl k1 k2)
  rw [← e9] at h
  exact ⟨rfl, h⟩
set_option maxRecDepth 100000 in
theorem mx_M_16 (k1 : mx_kk il 35 0 = true) (k2 : mx_kk rl 35 0 = true) (h : mx_blk false scr cal mt_Md_init post ex q n false (cd_Md_init.drop 70) [(0, .inr (.inr (.inl (18, 0)))), (1, .inl x)] [] (mx_as il ((18, 0, 25, some 0) :: rl) 104) (17, 1625)) : mx_blk false scr cal mt_Md_init post ex q (n + 4) false (cd_Md_init.drop 66) [(0, .inr (.inr (.inl (18, 0)))), (1, .inl x)] [] (mx_as il rl 103) (16, 1618) := by
  have e9 : mx_sp (mx_sn (mx_as il rl 103) 35 0) 18 0 25 0 = mx_as il ((18, 0, 25, some 0) :: rl) 104 := mx_Ep (mx_En rfl k1 k2)
  rw [← e9] at h
  exact ⟨rfl, h⟩
set_option maxRecDepth 100000 in
theorem mx_M_17 (k1 : mx_kk il 36 0 = true) (k2 : mx_kk rl 36 0 = true) (h : mx_blk false scr cal mt_Md_init post ex q n false (cd_Md_init.drop 74) [(0, .inr (.inr (.inl (18, 0)))), (1, .inl x)] [] (mx_as il ((18, 0, 26, some 0) :: rl) 105) (18, 1632)) : mx_blk false scr cal mt_Md_init post ex q (n + 4) false (cd_Md_init.drop 70) [(0, .inr (.inr (.inl (18, 0)))), (1, .inl x)] [] (mx_as il rl 104) (17, 1625) := by
  have e9 : mx_sp (mx_sn (mx_as il rl 104) 36 0) 18 0 26 0 = mx_as il ((18, 0, 26, some 0) :: rl) 105 := mx_Ep (mx_En rfl k1 k2)
  rw [← e9] at h
  exact ⟨rfl, h⟩
set_option maxRecDepth 100000 in
theorem mx_M_18 (k1 : mx_kk il 37 0 = true) (k2 : mx_kk rl 37 0 = true) (h : mx_blk false scr cal mt_Md_init post ex q n false (cd_Md_init.drop 78) [(0, .inr (.inr (.inl (18, 0)))), (1, .inl x)] [] (mx_as il ((18, 0, 27, some 0) :: rl) 106) (19, 1740)) : mx_blk false scr cal mt_Md_init post ex q (n + 4) false (cd_Md_init.drop 74) [(0, .inr (.inr (.inl (18, 0)))), (1, .inl x)] [] (mx_as il rl 105) (18, 1632) := by
  have e9 : mx_sp (mx_sn (mx_as il rl 105) 37 0) 18 0 27 0 = mx_as il ((18, 0, 27, some 0) :: rl) 106 := mx_Ep (mx_En rfl k1 k2)
  rw [← e9] at h
  exact ⟨rfl, h⟩
set_option maxRecDepth 100000 in
theorem mx_M_z (h : post.1 (mx_as ((18, 0, 0, (1 + (x &&& 7))) :: il) rl 106)) : mx_blk false scr cal mt_Md_init post ex q (n + 10) false (cd_Md_init.drop 78) [(0, .inr (.inr (.inl (18, 0)))), (1, .inl x)] [] (mx_as il rl 106) (19, 1740) := h
set_option maxRecDepth 100000 in
theorem mx_M_s (h : mx_blk false scr cal mt_Md_init post ex q n false (cd_Md_init.drop 2) [(0, .inr (.inr (.inl (18, 0)))), (1, .inl x)] [] s (0, 0)) : mx_blk false scr cal mt_Md_init post ex q (n + 2) true cd_Md_init (mx_args 0 [.inr (.inr (.inl (18, 0))), .inl x]) [] s (0, 0) := h
def mx_rl_Z : List (Nat × Nat × Nat × Option Nat) := (18, 0, 27, some 0) :: (18, 0, 26, some 0) :: (18, 0, 25, some 0) :: (18, 0, 24, some 0) :: (18, 0, 23, some 0) :: (18, 0, 22, some 0) :: (18, 0, 20, some 0) :: (18, 0, 16, some 0) :: (18, 0, 15, some 0) :: (18, 0, 13, some 0) :: (18, 0, 12, some 0) :: (18, 0, 11, some 0) :: (18, 0, 10, some 0) :: (18, 0, 9, some 0) :: (18, 0, 8, some 0) :: (18, 0, 7, some 0) :: (18, 0, 6, some 0) :: (18, 0, 5, some 0) :: (18, 0, 4, some 0) :: mx_rlR_8
def mx_il_Z (x : Int32) : List (Nat × Nat × Nat × Int32) := (18, 0, 0, (1 + (x &&& 7))) :: mx_ilR_8 x
theorem mx_P_Md {y : Int32} (hs : s = mx_as (mx_ilR_8 y) mx_rlR_8 87) (h : post.1 (mx_as ((18, 0, 0, (1 + (x &&& 7))) :: mx_ilR_8 y) mx_rl_Z 106)) : mx_XW false scr (d + 1) 91 [.inr (.inr (.inl (18, 0))), .inl x] s post ex := by
  subst hs
  exact ⟨0, mx_M_s (mx_M_0 rfl (by decide +kernel) (mx_M_1 rfl (by decide +kernel) (mx_M_2 rfl (by decide +kernel) (mx_M_3 rfl (by decide +kernel) (mx_M_4 rfl (by decide +kernel) (mx_M_5 rfl (by decide +kernel) (mx_M_6 rfl (by decide +kernel) (mx_M_7 rfl (by decide +kernel) (mx_M_8 rfl (by decide +kernel) (mx_M_9 rfl (by decide +kernel) (mx_M_10 rfl (by decide +kernel) (mx_M_11 rfl (by decide +kernel) (mx_M_12 rfl (by decide +kernel) (mx_M_13 rfl (by decide +kernel) (mx_M_14 rfl (by decide +kernel) (mx_M_15 rfl (by decide +kernel) (mx_M_16 rfl (by decide +kernel) (mx_M_17 rfl (by decide +kernel) (mx_M_18 rfl (by decide +kernel) ((mx_M_z (n := 612) h)))))))))))))))))))))⟩
end
end
section
def lw_k (scr : mSc) : Int32 := if scr.2.1 = 0 then 0 else scr.2.2 0
theorem lw_mdC : ∀ f, f < mx_fam.length → mx_fK f = 0 → mx_fX f < 7 := by decide +kernel
theorem lw_md0 : ∀ f, f < mx_fam.length → mx_fK f = 0 → mx_fX f = 3 ∨ ∀ i, i < mx_fC f → ∀ j, j < 28 → mx_fR (mx_fX f) j = 0 ∨ mx_lu none mx_rl_Z f i j = some i := by decide +kernel
theorem lw_md5 : ∀ f, f < mx_fam.length → ∀ i, i < mx_fC f → mx_fK f = 5 → ∀ j, j < mx_fX f → mx_lu none mx_rl_Z f i j = some j := by decide +kernel
theorem lw_made {il : List (Nat × Nat × Nat × Int32)} : mx_Made (mx_as il mx_rl_Z 107) := by
  refine ⟨rfl, fun f i j g hi h0 h3 hr => ?_, fun f i j hi h5 hj => lw_md5 f (mx_t0 hi) i hi h5 j hj⟩
  have hf := mx_t0 hi
  refine (((lw_md0 f hf h0).resolve_left h3) i hi j ?_).resolve_left (by omega)
  refine Nat.lt_of_not_le fun hj => ?_
  have h9 := mx_t5 (mx_fX f) (lw_mdC f hf h0) j (Nat.le_trans (mx_t3b f hf h0) hj)
  omega
section
variable {scr : mSc} {d n : Nat} {post : mPo} {ex : Nat → mSt → Prop} {s : mSt}
theorem mx_P_cell (hL : scr.2.1 ≤ 3585) (h : post.2.1 (lw_k scr) s) : mx_XW false scr (d + 1) 30 [.inr (.inr (.inr scr.1)), .inl 0] s post ex := by
  refine ⟨0, rfl, ?_⟩
  show if nI scr.2.1 ≤ 0 then post.2.1 0 s else (scr.1 = scr.1 ∧ vp_in 0 scr.2.1 ∧ post.2.1 (scr.2.2 (0 : Int32).toNatClampNeg) s)
  by_cases h0 : scr.2.1 = 0
  · rw [if_pos (by rw [h0]; decide)]
    unfold lw_k at h
    rw [if_pos h0] at h
    exact h
  · rw [if_neg (nI_nle (by omega) (by omega))]
    unfold lw_k at h
    rw [if_neg h0] at h
    exact ⟨rfl, mx_vi (fun h9 => h9.elim (fun h => by cases h) (fun h => h0 (Nat.le_zero.mp h))), h⟩
set_option maxRecDepth 100000 in
theorem lw_S {q : Nat → mLV → mSt → Nat × Nat → Prop} (hL : scr.2.1 ≤ 3585) (h : q 33 [(0, .inr (.inr (.inr scr.1))), (1, .inr (.inr (.inl (0, 0)))), (2, .inr (.inr (.inl (18, 0)))), (3, .inr (.inr (.inl (38, 0)))), (4, .inl 1)] (mx_as (mx_il_Z (lw_k scr)) mx_rl_Z 107) (107, 3727)) : mx_blk false scr (mx_XW false scr (d + 3)) mt_Lw_pre lw_po (fun _ _ => False) q (n + 20) true (cd_Lw_law.take 20) [(0, .inr (.inr (.inr scr.1)))] [] mx_s0 (0, 0) := by
  have e9 : mx_sn (mx_as (mx_il_Z (lw_k scr)) mx_rl_Z 106) 38 0 = mx_as (mx_il_Z (lw_k scr)) mx_rl_Z 107 := mx_En rfl rfl (by decide +kernel)
  rw [← e9] at h
  exact mx_P_cell hL (mx_P_Rs (mx_En (s := mx_s0) (il := []) (rl := []) (N := 0) rfl rfl rfl) (mx_P_cell hL (mx_P_Md (y := lw_k scr) (mx_En (f := 18) (i := 0) rfl rfl (by decide +kernel)) ⟨rfl, h⟩)))
theorem lw_Go_of (hL : scr.2.1 ≤ 3585) (hd : d ≤ 2000) (h : ∃ n, mx_xq true scr (mx_XW true scr d) mt_Lw_law lw_po (fun _ _ => False) n 33 [(0, .inr (.inr (.inr scr.1))), (1, .inr (.inr (.inl (0, 0)))), (2, .inr (.inr (.inl (18, 0)))), (3, .inr (.inr (.inl (38, 0)))), (4, .inl 1)] (mx_as (mx_il_Z (lw_k scr)) mx_rl_Z 107) (107, 3727)) : lw_Go scr := ⟨3, d, by omega, hd, lw_S (d := 0) (n := 680) hL ⟨lw_made, h⟩⟩
end
end
section
theorem mx_ckM0 : (List.range mx_nM).all mx_okM = true := by decide +kernel
theorem mx_ckX0 : (((List.range mx_nM).drop 0).take 27).all mx_okX = true := by decide +kernel
theorem mx_ckX1 : (((List.range mx_nM).drop 27).take 27).all mx_okX = true := by decide +kernel
theorem mx_ckX2 : (((List.range mx_nM).drop 54).take 27).all mx_okX = true := by decide +kernel
theorem mx_ckX3 : (((List.range mx_nM).drop 81).take 27).all mx_okX = true := by decide +kernel
theorem mx_ckX4 : (((List.range mx_nM).drop 108).take 27).all mx_okX = true := by decide +kernel
theorem mx_ck : mx_allX := by
  refine ⟨fun mi h => List.all_eq_true.mp mx_ckM0 mi (List.mem_range.mpr h), fun mi h => ?_⟩
  have fin : ∀ a, (((List.range mx_nM).drop a).take 27).all mx_okX = true → a ≤ mi → mi < a + 27 → mx_okX mi = true := fun a h1 h2 h3 => by
    refine List.all_eq_true.mp h1 mi ?_
    have e1 : (((List.range mx_nM).drop a).take 27)[mi - a]? = some mi := by
      rw [List.getElem?_take_of_lt (by omega), List.getElem?_drop, show a + (mi - a) = mi by omega, List.getElem?_range h]
    exact List.mem_of_getElem? e1
  have hn : mi < 135 := h
  by_cases g1 : mi < 27
  · exact fin 0 mx_ckX0 (by omega) (by omega)
  · by_cases g2 : mi < 54
    · exact fin 27 mx_ckX1 (by omega) (by omega)
    · by_cases g3 : mi < 81
      · exact fin 54 mx_ckX2 (by omega) (by omega)
      · by_cases g4 : mi < 108
        · exact fin 81 mx_ckX3 (by omega) (by omega)
        · exact fin 108 mx_ckX4 (by omega) (by omega)
theorem mx_ckF0 : (List.range mx_nM).all (fun mi => !mx_pu mi || (mx_puC mi && mx_oiC mi)) = true := by decide +kernel
theorem mx_ckF : mx_allF := by
  refine ⟨mx_ck.1, fun mi h hp => ⟨(mx_okX_o (mx_ck.2 mi h)).1, ?_⟩⟩
  have h1 := List.all_eq_true.mp mx_ckF0 mi (List.mem_range.mpr h)
  rw [hp] at h1
  exact Bool.and_eq_true_iff.mp h1
end
section
def lw_ok0 (e : mEn) : Bool := mx_okE R_law "" code 7 e
theorem lw_ck0 : mx_cns cd_Lw_law = true := by decide +kernel
theorem lw_ck1 : mx_cns (cd_Lw_law.take 20) = true := by decide +kernel
theorem lw_ck2_0 : ((cd_Lw_law.drop 0).take 30).all lw_ok0 = true := by decide +kernel
theorem lw_ck2_1 : ((cd_Lw_law.drop 30).take 30).all lw_ok0 = true := by decide +kernel
theorem lw_ck2_2 : ((cd_Lw_law.drop 60).take 30).all lw_ok0 = true := by decide +kernel
theorem lw_ck2_3 : ((cd_Lw_law.drop 90).take 30).all lw_ok0 = true := by decide +kernel
theorem lw_ck2_4 : ((cd_Lw_law.drop 120).take 30).all lw_ok0 = true := by decide +kernel
theorem lw_ck2_5 : ((cd_Lw_law.drop 150).take 30).all lw_ok0 = true := by decide +kernel
theorem lw_ck2_6 : ((cd_Lw_law.drop 180).take 30).all lw_ok0 = true := by decide +kernel
theorem lw_ck2_7 : ((cd_Lw_law.drop 210).take 30).all lw_ok0 = true := by decide +kernel
theorem lw_ck2_8 : ((cd_Lw_law.drop 240).take 30).all lw_ok0 = true := by decide +kernel
theorem lw_ck2_9 : ((cd_Lw_law.drop 270).take 30).all lw_ok0 = true := by decide +kernel
theorem lw_ck2_10 : ((cd_Lw_law.drop 300).take 30).all lw_ok0 = true := by decide +kernel
theorem lw_ck2_11 : ((cd_Lw_law.drop 330).take 30).all lw_ok0 = true := by decide +kernel
theorem lw_ck2_12 : ((cd_Lw_law.drop 360).take 30).all lw_ok0 = true := by decide +kernel
theorem lw_ck2_13 : ((cd_Lw_law.drop 390).take 30).all lw_ok0 = true := by decide +kernel
theorem lw_ck2_14 : ((cd_Lw_law.drop 420).take 30).all lw_ok0 = true := by decide +kernel
theorem lw_ck2_15 : ((cd_Lw_law.drop 450).take 30).all lw_ok0 = true := by decide +kernel
theorem lw_ck2_16 : ((cd_Lw_law.drop 480).take 30).all lw_ok0 = true := by decide +kernel
theorem lw_ck2_17 : ((cd_Lw_law.drop 510).take 30).all lw_ok0 = true := by decide +kernel
theorem lw_ck2_18 : ((cd_Lw_law.drop 540).take 30).all lw_ok0 = true := by decide +kernel
theorem lw_ck2_19 : ((cd_Lw_law.drop 570).take 30).all lw_ok0 = true := by decide +kernel
theorem lw_ck2_20 : ((cd_Lw_law.drop 600).take 30).all lw_ok0 = true := by decide +kernel
theorem lw_ck2_21 : ((cd_Lw_law.drop 630).take 30).all lw_ok0 = true := by decide +kernel
theorem lw_ck2_22 : ((cd_Lw_law.drop 660).take 30).all lw_ok0 = true := by decide +kernel
theorem lw_cka {P : mEn → Bool} {l : List mEn} {a K : Nat} (h : ((l.drop a).take K).all P = true) (h2 : (l.drop (a + K)).all P = true) : (l.drop a).all P = true := by
  rw [← List.take_append_drop K (l.drop a), List.all_append, h, List.drop_drop, h2]
  rfl
theorem lw_ck2z : (cd_Lw_law.drop 690).all lw_ok0 = true := by decide +kernel
theorem lw_ck2b_22 : (cd_Lw_law.drop 660).all lw_ok0 = true := lw_cka (l := cd_Lw_law) (a := 660) (K := 30) lw_ck2_22 lw_ck2z
theorem lw_ck2b_21 : (cd_Lw_law.drop 630).all lw_ok0 = true := lw_cka (l := cd_Lw_law) (a := 630) (K := 30) lw_ck2_21 lw_ck2b_22
theorem lw_ck2b_20 : (cd_Lw_law.drop 600).all lw_ok0 = true := lw_cka (l := cd_Lw_law) (a := 600) (K := 30) lw_ck2_20 lw_ck2b_21
theorem lw_ck2b_19 : (cd_Lw_law.drop 570).all lw_ok0 = true := lw_cka (l := cd_Lw_law) (a := 570) (K := 30) lw_ck2_19 lw_ck2b_20
theorem lw_ck2b_18 : (cd_Lw_law.drop 540).all lw_ok0 = true := lw_cka (l := cd_Lw_law) (a := 540) (K := 30) lw_ck2_18 lw_ck2b_19
theorem lw_ck2b_17 : (cd_Lw_law.drop 510).all lw_ok0 = true := lw_cka (l := cd_Lw_law) (a := 510) (K := 30) lw_ck2_17 lw_ck2b_18
theorem lw_ck2b_16 : (cd_Lw_law.drop 480).all lw_ok0 = true := lw_cka (l := cd_Lw_law) (a := 480) (K := 30) lw_ck2_16 lw_ck2b_17
theorem lw_ck2b_15 : (cd_Lw_law.drop 450).all lw_ok0 = true := lw_cka (l := cd_Lw_law) (a := 450) (K := 30) lw_ck2_15 lw_ck2b_16
theorem lw_ck2b_14 : (cd_Lw_law.drop 420).all lw_ok0 = true := lw_cka (l := cd_Lw_law) (a := 420) (K := 30) lw_ck2_14 lw_ck2b_15
theorem lw_ck2b_13 : (cd_Lw_law.drop 390).all lw_ok0 = true := lw_cka (l := cd_Lw_law) (a := 390) (K := 30) lw_ck2_13 lw_ck2b_14
theorem lw_ck2b_12 : (cd_Lw_law.drop 360).all lw_ok0 = true := lw_cka (l := cd_Lw_law) (a := 360) (K := 30) lw_ck2_12 lw_ck2b_13
theorem lw_ck2b_11 : (cd_Lw_law.drop 330).all lw_ok0 = true := lw_cka (l := cd_Lw_law) (a := 330) (K := 30) lw_ck2_11 lw_ck2b_12
theorem lw_ck2b_10 : (cd_Lw_law.drop 300).all lw_ok0 = true := lw_cka (l := cd_Lw_law) (a := 300) (K := 30) lw_ck2_10 lw_ck2b_11
theorem lw_ck2b_9 : (cd_Lw_law.drop 270).all lw_ok0 = true := lw_cka (l := cd_Lw_law) (a := 270) (K := 30) lw_ck2_9 lw_ck2b_10
theorem lw_ck2b_8 : (cd_Lw_law.drop 240).all lw_ok0 = true := lw_cka (l := cd_Lw_law) (a := 240) (K := 30) lw_ck2_8 lw_ck2b_9
theorem lw_ck2b_7 : (cd_Lw_law.drop 210).all lw_ok0 = true := lw_cka (l := cd_Lw_law) (a := 210) (K := 30) lw_ck2_7 lw_ck2b_8
theorem lw_ck2b_6 : (cd_Lw_law.drop 180).all lw_ok0 = true := lw_cka (l := cd_Lw_law) (a := 180) (K := 30) lw_ck2_6 lw_ck2b_7
theorem lw_ck2b_5 : (cd_Lw_law.drop 150).all lw_ok0 = true := lw_cka (l := cd_Lw_law) (a := 150) (K := 30) lw_ck2_5 lw_ck2b_6
theorem lw_ck2b_4 : (cd_Lw_law.drop 120).all lw_ok0 = true := lw_cka (l := cd_Lw_law) (a := 120) (K := 30) lw_ck2_4 lw_ck2b_5
theorem lw_ck2b_3 : (cd_Lw_law.drop 90).all lw_ok0 = true := lw_cka (l := cd_Lw_law) (a := 90) (K := 30) lw_ck2_3 lw_ck2b_4
theorem lw_ck2b_2 : (cd_Lw_law.drop 60).all lw_ok0 = true := lw_cka (l := cd_Lw_law) (a := 60) (K := 30) lw_ck2_2 lw_ck2b_3
theorem lw_ck2b_1 : (cd_Lw_law.drop 30).all lw_ok0 = true := lw_cka (l := cd_Lw_law) (a := 30) (K := 30) lw_ck2_1 lw_ck2b_2
theorem lw_ck2b_0 : (cd_Lw_law.drop 0).all lw_ok0 = true := lw_cka (l := cd_Lw_law) (a := 0) (K := 30) lw_ck2_0 lw_ck2b_1
theorem lw_ck2 : cd_Lw_law.all lw_ok0 = true := by
  have h := lw_ck2b_0
  rw [List.drop_zero] at h
  exact h
theorem lw_ck3 : cd_Lw_law.all lw_i1 = true := by decide +kernel
theorem lw_ck4 : (cd_Lw_law.take 20).all lw_i2 = true := by decide +kernel
theorem lw_ck : lw_okL := ⟨lw_ck0, lw_ck1, List.all_eq_true.mp lw_ck2, List.all_eq_true.mp lw_ck3, List.all_eq_true.mp lw_ck4⟩
end
section
def X_Rs_relation (scr : mSc) (d : Nat) (s : mSt) (a1 : Int32) (a2 : Int32) (a3 : Int32) (a4 : Int32) (post : Int32 → mSt → Prop) : Prop := mx_XW true scr d 6 [.inr (.inr (.inl (0, 0))), .inl a1, .inl a2, .inl a3, .inl a4] s (mx_kI post) (fun _ _ => False)
def X_Cf_add (scr : mSc) (d : Nat) (s : mSt) (a1 : Int32) (a2 : Int32) (a3 : Int32) (a4 : Int32) (post : Int32 → mSt → Prop) : Prop := mx_XW true scr d 7 [.inr (.inr (.inl (1, 0))), .inl a1, .inl a2, .inl a3, .inl a4] s (mx_kI post) (fun _ _ => False)
def X_Rs_type (scr : mSc) (d : Nat) (s : mSt) (a1 : Int32) (post : Int32 → mSt → Prop) : Prop := mx_XW true scr d 8 [.inr (.inr (.inl (0, 0))), .inl a1] s (mx_kI post) (fun _ _ => False)
def X_Cf_append (scr : mSc) (d : Nat) (s : mSt) (a1 : Int32) (post : Int32 → mSt → Prop) : Prop := mx_XW true scr d 9 [.inr (.inr (.inl (1, 0))), .inl a1] s (mx_kI post) (fun _ _ => False)
def X_Rs_sound (scr : mSc) (d : Nat) (s : mSt) (a1 : Int32) (post : Int32 → mSt → Prop) : Prop := mx_XW true scr d 10 [.inr (.inr (.inl (0, 0))), .inl a1] s (mx_kI post) (fun _ _ => False)
def X_Cf_isRule (scr : mSc) (d : Nat) (s : mSt) (a1 : Int32) (post : Int32 → mSt → Prop) : Prop := mx_XW true scr d 11 [.inr (.inr (.inl (1, 0))), .inl a1] s (mx_kI post) (fun _ _ => False)
def X_Cf_isRelation (scr : mSc) (d : Nat) (s : mSt) (a1 : Int32) (post : Int32 → mSt → Prop) : Prop := mx_XW true scr d 12 [.inr (.inr (.inl (1, 0))), .inl a1] s (mx_kI post) (fun _ _ => False)
def X_Rd_reads (scr : mSc) (d : Nat) (s : mSt) (a2 : Int32) (i3 : Nat) (post : Int32 → mSt → Prop) : Prop := mx_XW true scr d 13 [.inr (.inr (.inl (3, 0))), .inr (.inr (.inl (2, 0))), .inl a2, .inr (.inr (.inl (5, i3)))] s (mx_kI post) (fun _ _ => False)
def X_Rl_forgetRule (scr : mSc) (d : Nat) (s : mSt) (i0 : Nat) (post : mSt → Prop) : Prop := mx_XW true scr d 14 [.inr (.inr (.inl (5, i0)))] s (mx_kV post) (fun _ _ => False)
def X_Rd_readTuples (scr : mSc) (d : Nat) (s : mSt) (a1 : Int32) (post : Int32 → mSt → Prop) : Prop := mx_XW true scr d 15 [.inr (.inr (.inl (3, 0))), .inl a1] s (mx_kI post) (fun _ _ => False)
def X_Rl_need (scr : mSc) (d : Nat) (s : mSt) (i0 : Nat) (a1 : Int32) (a2 : Int32) (post : mSt → Prop) : Prop := mx_XW true scr d 16 [.inr (.inr (.inl (5, i0))), .inl a1, .inl a2] s (mx_kV post) (fun _ _ => False)
def X_Rl_addStep (scr : mSc) (d : Nat) (s : mSt) (i0 : Nat) (a1 : Int32) (a2 : Int32) (a3 : Int32) (post : mSt → Prop) : Prop := mx_XW true scr d 17 [.inr (.inr (.inl (5, i0))), .inl a1, .inl a2, .inl a3] s (mx_kV post) (fun _ _ => False)
def X_Rd_readExpression (scr : mSc) (d : Nat) (s : mSt) (a1 : Int32) (a2 : Int32) (post : Int32 → mSt → Prop) : Prop := mx_XW true scr d 18 [.inr (.inr (.inl (3, 0))), .inl a1, .inl a2] s (mx_kI post) (fun _ _ => False)
def r_Rd_readExpression_11 (scr : mSc) (d : Nat) (a1 : Int32) (a2 : Int32) (post : Int32 → mSt → Prop) (ex : Nat → mSt → Prop) (n : Nat) (s : mSt) : Prop := mx_xq true scr (mx_XW true scr d) mt_Rd_readExpression (mx_kI post) ex n 11 [(0, .inr (.inr (.inl (3, 0)))), (1, .inl a1), (2, .inl a2)] s (0, 0)
def X_Rd_readPart (scr : mSc) (d : Nat) (s : mSt) (a1 : Int32) (a2 : Int32) (post : Int32 → mSt → Prop) : Prop := mx_XW true scr d 19 [.inr (.inr (.inl (3, 0))), .inl a1, .inl a2] s (mx_kI post) (fun _ _ => False)
def X_Rd_next (scr : mSc) (d : Nat) (s : mSt) (post : Int32 → mSt → Prop) : Prop := mx_XW true scr d 20 [.inr (.inr (.inl (3, 0)))] s (mx_kI post) (fun _ _ => False)
def X_Rd_readSame (scr : mSc) (d : Nat) (s : mSt) (a1 : Int32) (post : Int32 → mSt → Prop) : Prop := mx_XW true scr d 21 [.inr (.inr (.inl (3, 0))), .inl a1] s (mx_kI post) (fun _ _ => False)
def X_Rd_readName (scr : mSc) (d : Nat) (s : mSt) (post : Int32 → mSt → Prop) : Prop := mx_XW true scr d 22 [.inr (.inr (.inl (3, 0)))] s (mx_kI post) (fun _ _ => False)
def X_Rd_isOfOwnNamespace (scr : mSc) (d : Nat) (s : mSt) (a1 : Int32) (post : Int32 → mSt → Prop) : Prop := mx_XW true scr d 23 [.inr (.inr (.inl (3, 0))), .inl a1] s (mx_kI post) (fun _ _ => False)
def X_Rd_readFrom (scr : mSc) (d : Nat) (s : mSt) (a1 : Int32) (post : Int32 → mSt → Prop) : Prop := mx_XW true scr d 24 [.inr (.inr (.inl (3, 0))), .inl a1] s (mx_kI post) (fun _ _ => False)
def X_Rd_isOperator (scr : mSc) (d : Nat) (s : mSt) (a0 : Int32) (post : Int32 → mSt → Prop) : Prop := mx_XW true scr d 25 [.inl a0] s (mx_kI post) (fun _ _ => False)
def X_Rs_crash (scr : mSc) (d : Nat) (s : mSt) (post : mSt → Prop) : Prop := mx_XW true scr d 26 [.inr (.inr (.inl (0, 0)))] s (mx_kV post) (fun _ _ => False)
def X_Rs_forget (scr : mSc) (d : Nat) (s : mSt) (post : mSt → Prop) : Prop := mx_XW true scr d 27 [.inr (.inr (.inl (0, 0)))] s (mx_kV post) (fun _ _ => False)
def r_Rs_forget_7 (scr : mSc) (d : Nat) (post : mSt → Prop) (ex : Nat → mSt → Prop) (n : Nat) (s : mSt) (v1 : Int32) : Prop := mx_xq true scr (mx_XW true scr d) mt_Rs_forget (mx_kV post) ex n 7 [(0, .inr (.inr (.inl (0, 0)))), (1, .inl v1)] s (0, 0)
def X_Rs_latest (scr : mSc) (d : Nat) (s : mSt) (post : Int32 → mSt → Prop) : Prop := mx_XW true scr d 28 [.inr (.inr (.inl (0, 0)))] s (mx_kI post) (fun _ _ => False)
def X_Rs_records (scr : mSc) (d : Nat) (s : mSt) (post : Int32 → mSt → Prop) : Prop := mx_XW true scr d 29 [.inr (.inr (.inl (0, 0)))] s (mx_kI post) (fun _ _ => False)
def X_Lw_cell (scr : mSc) (d : Nat) (s : mSt) (a1 : Int32) (post : Int32 → mSt → Prop) : Prop := mx_XW true scr d 30 [.inr (.inr (.inr scr.1)), .inl a1] s (mx_kI post) (fun _ _ => False)
def X_Lw_accept (scr : mSc) (d : Nat) (s : mSt) (post : Int32 → mSt → Prop) : Prop := mx_XW true scr d 31 [.inr (.inr (.inl (0, 0))), .inr (.inr (.inl (38, 0)))] s (mx_kI post) (fun _ _ => False)
def X_Rs_accept (scr : mSc) (d : Nat) (s : mSt) (ex : Nat → mSt → Prop) (post : Int32 → mSt → Prop) : Prop := mx_XW true scr d 32 [.inr (.inr (.inl (0, 0)))] s (mx_kI post) ex
def X_Cf_allAreRules (scr : mSc) (d : Nat) (s : mSt) (post : Int32 → mSt → Prop) : Prop := mx_XW true scr d 33 [.inr (.inr (.inl (1, 0)))] s (mx_kI post) (fun _ _ => False)
def r_Cf_allAreRules_2 (scr : mSc) (d : Nat) (post : Int32 → mSt → Prop) (ex : Nat → mSt → Prop) (n : Nat) (s : mSt) (v1 : Int32) : Prop := mx_xq true scr (mx_XW true scr d) mt_Cf_allAreRules (mx_kI post) ex n 2 [(0, .inr (.inr (.inl (1, 0)))), (1, .inl v1)] s (0, 0)
def X_Cf_hasBarredRing (scr : mSc) (d : Nat) (s : mSt) (post : Int32 → mSt → Prop) : Prop := mx_XW true scr d 34 [.inr (.inr (.inl (1, 0)))] s (mx_kI post) (fun _ _ => False)
def r_Cf_hasBarredRing_6 (scr : mSc) (d : Nat) (post : Int32 → mSt → Prop) (ex : Nat → mSt → Prop) (n : Nat) (s : mSt) (v1 : Int32) : Prop := mx_xq true scr (mx_XW true scr d) mt_Cf_hasBarredRing (mx_kI post) ex n 6 [(0, .inr (.inr (.inl (1, 0)))), (1, .inl v1)] s (0, 0)
def r_Cf_hasBarredRing_16 (scr : mSc) (d : Nat) (post : Int32 → mSt → Prop) (ex : Nat → mSt → Prop) (n : Nat) (s : mSt) (v1 : Int32) (v2 : Int32) : Prop := mx_xq true scr (mx_XW true scr d) mt_Cf_hasBarredRing (mx_kI post) ex n 16 [(0, .inr (.inr (.inl (1, 0)))), (1, .inl v1), (2, .inl v2)] s (0, 0)
def X_Cf_findReached (scr : mSc) (d : Nat) (s : mSt) (post : mSt → Prop) : Prop := mx_XW true scr d 35 [.inr (.inr (.inl (1, 0)))] s (mx_kV post) (fun _ _ => False)
def r_Cf_findReached_2 (scr : mSc) (d : Nat) (post : mSt → Prop) (ex : Nat → mSt → Prop) (n : Nat) (s : mSt) (v1 : Int32) : Prop := mx_xq true scr (mx_XW true scr d) mt_Cf_findReached (mx_kV post) ex n 2 [(0, .inr (.inr (.inl (1, 0)))), (1, .inl v1)] s (0, 0)
def r_Cf_findReached_33 (scr : mSc) (d : Nat) (post : mSt → Prop) (ex : Nat → mSt → Prop) (n : Nat) (s : mSt) (v1 : Int32) : Prop := mx_xq true scr (mx_XW true scr d) mt_Cf_findReached (mx_kV post) ex n 33 [(0, .inr (.inr (.inl (1, 0)))), (1, .inl v1)] s (0, 0)
def r_Cf_findReached_43 (scr : mSc) (d : Nat) (post : mSt → Prop) (ex : Nat → mSt → Prop) (n : Nat) (s : mSt) (v1 : Int32) (v2 : Int32) : Prop := mx_xq true scr (mx_XW true scr d) mt_Cf_findReached (mx_kV post) ex n 43 [(0, .inr (.inr (.inl (1, 0)))), (1, .inl v1), (2, .inl v2)] s (0, 0)
def X_Rs_hasBit (scr : mSc) (d : Nat) (s : mSt) (a0 : Int32) (a1 : Int32) (post : Int32 → mSt → Prop) : Prop := mx_XW true scr d 36 [.inl a0, .inl a1] s (mx_kI post) (fun _ _ => False)
def X_Cf_findLevels (scr : mSc) (d : Nat) (s : mSt) (post : mSt → Prop) : Prop := mx_XW true scr d 37 [.inr (.inr (.inl (1, 0)))] s (mx_kV post) (fun _ _ => False)
def r_Cf_findLevels_2 (scr : mSc) (d : Nat) (post : mSt → Prop) (ex : Nat → mSt → Prop) (n : Nat) (s : mSt) (v1 : Int32) : Prop := mx_xq true scr (mx_XW true scr d) mt_Cf_findLevels (mx_kV post) ex n 2 [(0, .inr (.inr (.inl (1, 0)))), (1, .inl v1)] s (0, 0)
def r_Cf_findLevels_28 (scr : mSc) (d : Nat) (post : mSt → Prop) (ex : Nat → mSt → Prop) (n : Nat) (s : mSt) (v1 : Int32) : Prop := mx_xq true scr (mx_XW true scr d) mt_Cf_findLevels (mx_kV post) ex n 28 [(0, .inr (.inr (.inl (1, 0)))), (1, .inl v1)] s (0, 0)
def r_Cf_findLevels_38 (scr : mSc) (d : Nat) (post : mSt → Prop) (ex : Nat → mSt → Prop) (n : Nat) (s : mSt) (v1 : Int32) (v2 : Int32) : Prop := mx_xq true scr (mx_XW true scr d) mt_Cf_findLevels (mx_kV post) ex n 38 [(0, .inr (.inr (.inl (1, 0)))), (1, .inl v1), (2, .inl v2)] s (0, 0)
def X_Cf_levelAbove (scr : mSc) (d : Nat) (s : mSt) (i1 : Nat) (post : Int32 → mSt → Prop) : Prop := mx_XW true scr d 38 [.inr (.inr (.inl (1, 0))), .inr (.inr (.inl (5, i1)))] s (mx_kI post) (fun _ _ => False)
def r_Cf_levelAbove_7 (scr : mSc) (d : Nat) (i1 : Nat) (post : Int32 → mSt → Prop) (ex : Nat → mSt → Prop) (n : Nat) (s : mSt) (v2 : Int32) (v3 : Int32) : Prop := mx_xq true scr (mx_XW true scr d) mt_Cf_levelAbove (mx_kI post) ex n 7 [(0, .inr (.inr (.inl (1, 0)))), (1, .inr (.inr (.inl (5, i1)))), (2, .inl v2), (3, .inl v3)] s (0, 0)
def X_Ma_max (scr : mSc) (d : Nat) (s : mSt) (a0 : Int32) (a1 : Int32) (post : Int32 → mSt → Prop) : Prop := mx_XW true scr d 39 [.inl a0, .inl a1] s (mx_kI post) (fun _ _ => False)
def X_Lw_change (scr : mSc) (d : Nat) (s : mSt) (a1 : Int32) (a2 : Int32) (a3 : Int32) (a4 : Int32) (a5 : Int32) (a6 : Int32) (post : Int32 → mSt → Prop) : Prop := mx_XW true scr d 40 [.inr (.inr (.inl (0, 0))), .inl a1, .inl a2, .inl a3, .inl a4, .inl a5, .inl a6, .inr (.inr (.inl (38, 0)))] s (mx_kI post) (fun _ _ => False)
def X_Rs_change (scr : mSc) (d : Nat) (s : mSt) (a1 : Int32) (a2 : Int32) (a3 : Int32) (a4 : Int32) (a5 : Int32) (a6 : Int32) (ex : Nat → mSt → Prop) (post : Int32 → mSt → Prop) : Prop := mx_XW true scr d 41 [.inr (.inr (.inl (0, 0))), .inl a1, .inl a2, .inl a3, .inl a4, .inl a5, .inl a6] s (mx_kI post) ex
def X_Cf_isTuple (scr : mSc) (d : Nat) (s : mSt) (a1 : Int32) (a2 : Int32) (a3 : Int32) (a4 : Int32) (a5 : Int32) (post : Int32 → mSt → Prop) : Prop := mx_XW true scr d 42 [.inr (.inr (.inl (1, 0))), .inl a1, .inl a2, .inl a3, .inl a4, .inl a5] s (mx_kI post) (fun _ _ => False)
def X_Cf_isNode (scr : mSc) (d : Nat) (s : mSt) (a1 : Int32) (a2 : Int32) (post : Int32 → mSt → Prop) : Prop := mx_XW true scr d 43 [.inr (.inr (.inl (1, 0))), .inl a1, .inl a2] s (mx_kI post) (fun _ _ => False)
def X_Rs_isObject (scr : mSc) (d : Nat) (s : mSt) (a0 : Int32) (post : Int32 → mSt → Prop) : Prop := mx_XW true scr d 44 [.inl a0] s (mx_kI post) (fun _ _ => False)
def X_Cf_isListed (scr : mSc) (d : Nat) (s : mSt) (i1 : Nat) (a2 : Int32) (a3 : Int32) (a4 : Int32) (post : Int32 → mSt → Prop) : Prop := mx_XW true scr d 45 [.inr (.inr (.inl (1, 0))), .inr (.inr (.inl (5, i1))), .inl a2, .inl a3, .inl a4] s (mx_kI post) (fun _ _ => False)
def X_Rs_isUser (scr : mSc) (d : Nat) (s : mSt) (a0 : Int32) (post : Int32 → mSt → Prop) : Prop := mx_XW true scr d 46 [.inl a0] s (mx_kI post) (fun _ _ => False)
def X_Rs_packed (scr : mSc) (d : Nat) (s : mSt) (a0 : Int32) (a1 : Int32) (a2 : Int32) (a3 : Int32) (a4 : Int32) (a5 : Int32) (post : Int32 → mSt → Prop) : Prop := mx_XW true scr d 47 [.inl a0, .inl a1, .inl a2, .inl a3, .inl a4, .inl a5] s (mx_kI post) (fun _ _ => False)
def X_Lw_commit (scr : mSc) (d : Nat) (s : mSt) (a1 : Int32) (post : Int32 → mSt → Prop) : Prop := mx_XW true scr d 48 [.inr (.inr (.inl (0, 0))), .inl a1, .inr (.inr (.inl (38, 0)))] s (mx_kI post) (fun _ _ => False)
def X_Rs_commit (scr : mSc) (d : Nat) (s : mSt) (a1 : Int32) (ex : Nat → mSt → Prop) (post : Int32 → mSt → Prop) : Prop := mx_XW true scr d 49 [.inr (.inr (.inl (0, 0))), .inl a1] s (mx_kI post) ex
def r_Rs_commit_65 (scr : mSc) (d : Nat) (a1 : Int32) (post : Int32 → mSt → Prop) (ex : Nat → mSt → Prop) (n : Nat) (s : mSt) (v2 : Int32) (v3 : Int32) (v4 : Int32) (v5 : Int32) : Prop := mx_xq true scr (mx_XW true scr d) mt_Rs_commit (mx_kI post) ex n 65 [(0, .inr (.inr (.inl (0, 0)))), (1, .inl a1), (2, .inl v2), (3, .inl v3), (4, .inl v4), (5, .inl v5)] s (0, 0)
def X_Lg_hasRoomFor (scr : mSc) (d : Nat) (s : mSt) (a1 : Int32) (post : Int32 → mSt → Prop) : Prop := mx_XW true scr d 50 [.inr (.inr (.inl (11, 0))), .inl a1] s (mx_kI post) (fun _ _ => False)
def X_Lg_write (scr : mSc) (d : Nat) (s : mSt) (a1 : Int32) (a2 : Int32) (post : mSt → Prop) : Prop := mx_XW true scr d 51 [.inr (.inr (.inl (11, 0))), .inl a1, .inl a2] s (mx_kV post) (fun _ _ => False)
def X_Lg_mark (scr : mSc) (d : Nat) (s : mSt) (a1 : Int32) (post : mSt → Prop) : Prop := mx_XW true scr d 52 [.inr (.inr (.inl (11, 0))), .inl a1] s (mx_kV post) (fun _ _ => False)
def X_Lw_tuples (scr : mSc) (d : Nat) (s : mSt) (a1 : Int32) (post : Int32 → mSt → Prop) : Prop := mx_XW true scr d 53 [.inr (.inr (.inl (0, 0))), .inl a1, .inr (.inr (.inl (38, 0)))] s (mx_kI post) (fun _ _ => False)
def X_Rs_tuples (scr : mSc) (d : Nat) (s : mSt) (a1 : Int32) (ex : Nat → mSt → Prop) (post : Int32 → mSt → Prop) : Prop := mx_XW true scr d 54 [.inr (.inr (.inl (0, 0))), .inl a1] s (mx_kI post) ex
def X_Rs_refuseUnless (scr : mSc) (d : Nat) (s : mSt) (a1 : Int32) (a2 : Int32) (ex : Nat → mSt → Prop) (post : mSt → Prop) : Prop := mx_XW true scr d 55 [.inr (.inr (.inl (0, 0))), .inl a1, .inl a2] s (mx_kV post) ex
def X_Rs_versionOf (scr : mSc) (d : Nat) (s : mSt) (a1 : Int32) (post : Nat → mSt → Prop) : Prop := mx_XW true scr d 56 [.inr (.inr (.inl (0, 0))), .inl a1] s (mx_kF 14 post) (fun _ _ => False)
def X_Vs_replay (scr : mSc) (d : Nat) (s : mSt) (i0 : Nat) (a2 : Int32) (post : mSt → Prop) : Prop := mx_XW true scr d 57 [.inr (.inr (.inl (14, i0))), .inr (.inr (.inl (11, 0))), .inl a2] s (mx_kV post) (fun _ _ => False)
def r_Vs_replay_17 (scr : mSc) (d : Nat) (i0 : Nat) (a2 : Int32) (post : mSt → Prop) (ex : Nat → mSt → Prop) (n : Nat) (s : mSt) (v3 : Int32) (v4 : Int32) : Prop := mx_xq true scr (mx_XW true scr d) mt_Vs_replay (mx_kV post) ex n 17 [(0, .inr (.inr (.inl (14, i0)))), (1, .inr (.inr (.inl (11, 0)))), (2, .inl a2), (3, .inl v3), (4, .inl v4)] s (0, 0)
def X_Ar_fillJJ (scr : mSc) (d : Nat) (s : mSt) (i0 : Nat) (b1 : Int64) (post : mSt → Prop) : Prop := mx_XW true scr d 58 [.inr (.inr (.inl (15, i0))), .inr (.inl b1)] s (mx_kV post) (fun _ _ => False)
def r_Ar_fillJJ_6 (scr : mSc) (d : Nat) (i0 : Nat) (b1 : Int64) (post : mSt → Prop) (ex : Nat → mSt → Prop) (n : Nat) (s : mSt) (v3 : Int32) (v4 : Int32) : Prop := mx_xq true scr (mx_XW true scr d) mt_Ar_fillJJ (mx_kV post) ex n 6 [(0, .inr (.inr (.inl (15, i0)))), (1, .inr (.inl b1)), (3, .inl v3), (4, .inl v4)] s (0, 0)
def X_Lg_lengthAt (scr : mSc) (d : Nat) (s : mSt) (a1 : Int32) (post : Int32 → mSt → Prop) : Prop := mx_XW true scr d 59 [.inr (.inr (.inl (11, 0))), .inl a1] s (mx_kI post) (fun _ _ => False)
def r_Lg_lengthAt_4 (scr : mSc) (d : Nat) (a1 : Int32) (post : Int32 → mSt → Prop) (ex : Nat → mSt → Prop) (n : Nat) (s : mSt) (v2 : Int32) (v3 : Int32) : Prop := mx_xq true scr (mx_XW true scr d) mt_Lg_lengthAt (mx_kI post) ex n 4 [(0, .inr (.inr (.inl (11, 0)))), (1, .inl a1), (2, .inl v2), (3, .inl v3)] s (0, 0)
def X_Vs_apply (scr : mSc) (d : Nat) (s : mSt) (i0 : Nat) (a1 : Int32) (post : mSt → Prop) : Prop := mx_XW true scr d 60 [.inr (.inr (.inl (14, i0))), .inl a1] s (mx_kV post) (fun _ _ => False)
def X_Rs_field (scr : mSc) (d : Nat) (s : mSt) (a0 : Int32) (a1 : Int32) (post : Int32 → mSt → Prop) : Prop := mx_XW true scr d 61 [.inl a0, .inl a1] s (mx_kI post) (fun _ _ => False)
def X_Rs_nodeOf (scr : mSc) (d : Nat) (s : mSt) (a0 : Int32) (a1 : Int32) (post : Int32 → mSt → Prop) : Prop := mx_XW true scr d 62 [.inl a0, .inl a1] s (mx_kI post) (fun _ _ => False)
def X_Vs_subjectBit (scr : mSc) (d : Nat) (s : mSt) (a0 : Int32) (a1 : Int32) (a2 : Int32) (post : Int32 → mSt → Prop) : Prop := mx_XW true scr d 63 [.inl a0, .inl a1, .inl a2] s (mx_kI post) (fun _ _ => False)
def X_Vs_size (scr : mSc) (d : Nat) (s : mSt) (i0 : Nat) (post : Int32 → mSt → Prop) : Prop := mx_XW true scr d 64 [.inr (.inr (.inl (14, i0)))] s (mx_kI post) (fun _ _ => False)
def r_Vs_size_4 (scr : mSc) (d : Nat) (i0 : Nat) (post : Int32 → mSt → Prop) (ex : Nat → mSt → Prop) (n : Nat) (s : mSt) (v1 : Int32) (v2 : Int32) : Prop := mx_xq true scr (mx_XW true scr d) mt_Vs_size (mx_kI post) ex n 4 [(0, .inr (.inr (.inl (14, i0)))), (1, .inl v1), (2, .inl v2)] s (0, 0)
def X_Lo_bitCount (scr : mSc) (d : Nat) (s : mSt) (b0 : Int64) (post : Int32 → mSt → Prop) : Prop := mx_XW true scr d 65 [.inr (.inl b0)] s (mx_kI post) (fun _ _ => False)
def X_Lw_check (scr : mSc) (d : Nat) (s : mSt) (a1 : Int32) (a2 : Int32) (a3 : Int32) (a4 : Int32) (post : Int32 → mSt → Prop) : Prop := mx_XW true scr d 66 [.inr (.inr (.inl (0, 0))), .inl a1, .inl a2, .inl a3, .inl a4, .inr (.inr (.inl (38, 0)))] s (mx_kI post) (fun _ _ => False)
def X_Rs_check (scr : mSc) (d : Nat) (s : mSt) (a1 : Int32) (a2 : Int32) (a3 : Int32) (a4 : Int32) (ex : Nat → mSt → Prop) (post : Int32 → mSt → Prop) : Prop := mx_XW true scr d 67 [.inr (.inr (.inl (0, 0))), .inl a1, .inl a2, .inl a3, .inl a4] s (mx_kI post) ex
def X_Cf_mayAsk (scr : mSc) (d : Nat) (s : mSt) (a1 : Int32) (a2 : Int32) (post : Int32 → mSt → Prop) : Prop := mx_XW true scr d 68 [.inr (.inr (.inl (1, 0))), .inl a1, .inl a2] s (mx_kI post) (fun _ _ => False)
def X_Vs_membersOf (scr : mSc) (d : Nat) (s : mSt) (i0 : Nat) (a1 : Int32) (post : Int32 → mSt → Prop) : Prop := mx_XW true scr d 69 [.inr (.inr (.inl (14, i0))), .inl a1, .inr (.inr (.inl (1, 0)))] s (mx_kI post) (fun _ _ => False)
def r_Vs_membersOf_17 (scr : mSc) (d : Nat) (i0 : Nat) (a1 : Int32) (post : Int32 → mSt → Prop) (ex : Nat → mSt → Prop) (n : Nat) (s : mSt) (v3 : Int32) : Prop := mx_xq true scr (mx_XW true scr d) mt_Vs_membersOf (mx_kI post) ex n 17 [(0, .inr (.inr (.inl (14, i0)))), (1, .inl a1), (2, .inr (.inr (.inl (1, 0)))), (3, .inl v3)] s (0, 0)
def X_Ar_fillII (scr : mSc) (d : Nat) (s : mSt) (i0 : Nat) (a1 : Int32) (post : mSt → Prop) : Prop := mx_XW true scr d 70 [.inr (.inr (.inl (16, i0))), .inl a1] s (mx_kV post) (fun _ _ => False)
def r_Ar_fillII_5 (scr : mSc) (d : Nat) (i0 : Nat) (a1 : Int32) (post : mSt → Prop) (ex : Nat → mSt → Prop) (n : Nat) (s : mSt) (v2 : Int32) (v3 : Int32) : Prop := mx_xq true scr (mx_XW true scr d) mt_Ar_fillII (mx_kV post) ex n 5 [(0, .inr (.inr (.inl (16, i0)))), (1, .inl a1), (2, .inl v2), (3, .inl v3)] s (0, 0)
def X_Vs_settle (scr : mSc) (d : Nat) (s : mSt) (i0 : Nat) (a2 : Int32) (post : mSt → Prop) : Prop := mx_XW true scr d 71 [.inr (.inr (.inl (14, i0))), .inr (.inr (.inl (1, 0))), .inl a2] s (mx_kV post) (fun _ _ => False)
def r_Vs_settle_5 (scr : mSc) (d : Nat) (i0 : Nat) (a2 : Int32) (post : mSt → Prop) (ex : Nat → mSt → Prop) (n : Nat) (s : mSt) (v3 : Int32) (v4 : Int32) : Prop := mx_xq true scr (mx_XW true scr d) mt_Vs_settle (mx_kV post) ex n 5 [(0, .inr (.inr (.inl (14, i0)))), (1, .inr (.inr (.inl (1, 0)))), (2, .inl a2), (3, .inl v3), (4, .inl v4)] s (0, 0)
def r_Vs_settle_22 (scr : mSc) (d : Nat) (i0 : Nat) (a2 : Int32) (post : mSt → Prop) (ex : Nat → mSt → Prop) (n : Nat) (s : mSt) (v3 : Int32) (v4 : Int32) (v5 : Int32) : Prop := mx_xq true scr (mx_XW true scr d) mt_Vs_settle (mx_kV post) ex n 22 [(0, .inr (.inr (.inl (14, i0)))), (1, .inr (.inr (.inl (1, 0)))), (2, .inl a2), (3, .inl v3), (4, .inl v4), (5, .inl v5)] s (0, 0)
def X_Vs_grow (scr : mSc) (d : Nat) (s : mSt) (i0 : Nat) (a2 : Int32) (post : Int32 → mSt → Prop) : Prop := mx_XW true scr d 72 [.inr (.inr (.inl (14, i0))), .inr (.inr (.inl (2, 0))), .inl a2] s (mx_kI post) (fun _ _ => False)
def r_Vs_grow_5 (scr : mSc) (d : Nat) (i0 : Nat) (a2 : Int32) (post : Int32 → mSt → Prop) (ex : Nat → mSt → Prop) (n : Nat) (s : mSt) (v3 : Int32) (v4 : Int32) : Prop := mx_xq true scr (mx_XW true scr d) mt_Vs_grow (mx_kI post) ex n 5 [(0, .inr (.inr (.inl (14, i0)))), (1, .inr (.inr (.inl (2, 0)))), (2, .inl a2), (3, .inl v3), (4, .inl v4)] s (0, 0)
def X_Vs_workOut (scr : mSc) (d : Nat) (s : mSt) (i0 : Nat) (a2 : Int32) (a3 : Int32) (post : Int32 → mSt → Prop) : Prop := mx_XW true scr d 73 [.inr (.inr (.inl (14, i0))), .inr (.inr (.inl (2, 0))), .inl a2, .inl a3] s (mx_kI post) (fun _ _ => False)
def r_Vs_workOut_11 (scr : mSc) (d : Nat) (i0 : Nat) (a2 : Int32) (a3 : Int32) (post : Int32 → mSt → Prop) (ex : Nat → mSt → Prop) (n : Nat) (s : mSt) (j4 : Nat) (v5 : Int32) (v6 : Int32) : Prop := mx_xq true scr (mx_XW true scr d) mt_Vs_workOut (mx_kI post) ex n 11 [(0, .inr (.inr (.inl (14, i0)))), (1, .inr (.inr (.inl (2, 0)))), (2, .inl a2), (3, .inl a3), (4, .inr (.inr (.inl (5, j4)))), (5, .inl v5), (6, .inl v6)] s (0, 0)
def X_Vs_tupleMembers (scr : mSc) (d : Nat) (s : mSt) (i0 : Nat) (a1 : Int32) (post : Int32 → mSt → Prop) : Prop := mx_XW true scr d 74 [.inr (.inr (.inl (14, i0))), .inl a1] s (mx_kI post) (fun _ _ => False)
def r_Vs_tupleMembers_25 (scr : mSc) (d : Nat) (i0 : Nat) (a1 : Int32) (post : Int32 → mSt → Prop) (ex : Nat → mSt → Prop) (n : Nat) (s : mSt) (v2 : Int32) (w3 : Int64) (v5 : Int32) : Prop := mx_xq true scr (mx_XW true scr d) mt_Vs_tupleMembers (mx_kI post) ex n 25 [(0, .inr (.inr (.inl (14, i0)))), (1, .inl a1), (2, .inl v2), (3, .inr (.inl w3)), (5, .inl v5)] s (0, 0)
def X_Vs_objectMembers (scr : mSc) (d : Nat) (s : mSt) (i0 : Nat) (a1 : Int32) (a2 : Int32) (a3 : Int32) (post : Int32 → mSt → Prop) : Prop := mx_XW true scr d 75 [.inr (.inr (.inl (14, i0))), .inl a1, .inl a2, .inl a3] s (mx_kI post) (fun _ _ => False)
def r_Vs_objectMembers_12 (scr : mSc) (d : Nat) (i0 : Nat) (a1 : Int32) (a2 : Int32) (a3 : Int32) (post : Int32 → mSt → Prop) (ex : Nat → mSt → Prop) (n : Nat) (s : mSt) (v4 : Int32) (v5 : Int32) (v6 : Int32) : Prop := mx_xq true scr (mx_XW true scr d) mt_Vs_objectMembers (mx_kI post) ex n 12 [(0, .inr (.inr (.inl (14, i0)))), (1, .inl a1), (2, .inl a2), (3, .inl a3), (4, .inl v4), (5, .inl v5), (6, .inl v6)] s (0, 0)
def X_Vs_joined (scr : mSc) (d : Nat) (s : mSt) (a0 : Int32) (a1 : Int32) (a2 : Int32) (post : Int32 → mSt → Prop) : Prop := mx_XW true scr d 76 [.inl a0, .inl a1, .inl a2] s (mx_kI post) (fun _ _ => False)
def X_Lw_expand (scr : mSc) (d : Nat) (s : mSt) (a1 : Int32) (a2 : Int32) (a3 : Int32) (post : Int32 → mSt → Prop) : Prop := mx_XW true scr d 77 [.inr (.inr (.inl (0, 0))), .inl a1, .inl a2, .inl a3, .inr (.inr (.inl (38, 0)))] s (mx_kI post) (fun _ _ => False)
def X_Rs_expand (scr : mSc) (d : Nat) (s : mSt) (a1 : Int32) (a2 : Int32) (a3 : Int32) (ex : Nat → mSt → Prop) (post : Int32 → mSt → Prop) : Prop := mx_XW true scr d 78 [.inr (.inr (.inl (0, 0))), .inl a1, .inl a2, .inl a3] s (mx_kI post) ex
def X_Lw_lookup (scr : mSc) (d : Nat) (s : mSt) (a1 : Int32) (a2 : Int32) (a3 : Int32) (post : Int32 → mSt → Prop) : Prop := mx_XW true scr d 79 [.inr (.inr (.inl (0, 0))), .inl a1, .inl a2, .inl a3, .inr (.inr (.inl (38, 0)))] s (mx_kI post) (fun _ _ => False)
def X_Rs_lookup (scr : mSc) (d : Nat) (s : mSt) (a1 : Int32) (a2 : Int32) (a3 : Int32) (ex : Nat → mSt → Prop) (post : Int32 → mSt → Prop) : Prop := mx_XW true scr d 80 [.inr (.inr (.inl (0, 0))), .inl a1, .inl a2, .inl a3] s (mx_kI post) ex
def r_Rs_lookup_51 (scr : mSc) (d : Nat) (a1 : Int32) (a2 : Int32) (a3 : Int32) (post : Int32 → mSt → Prop) (ex : Nat → mSt → Prop) (n : Nat) (s : mSt) (j4 : Nat) (v5 : Int32) (v6 : Int32) : Prop := mx_xq true scr (mx_XW true scr d) mt_Rs_lookup (mx_kI post) ex n 51 [(0, .inr (.inr (.inl (0, 0)))), (1, .inl a1), (2, .inl a2), (3, .inl a3), (4, .inr (.inr (.inl (14, j4)))), (5, .inl v5), (6, .inl v6)] s (1, 6)
def X_Lw_nested (scr : mSc) (d : Nat) (s : mSt) (a1 : Int32) (a2 : Int32) (a3 : Int32) (a4 : Int32) (a5 : Int32) (post : Int32 → mSt → Prop) : Prop := mx_XW true scr d 81 [.inr (.inr (.inl (0, 0))), .inl a1, .inl a2, .inl a3, .inl a4, .inl a5, .inr (.inr (.inl (38, 0)))] s (mx_kI post) (fun _ _ => False)
def X_Rs_nested (scr : mSc) (d : Nat) (s : mSt) (a1 : Int32) (a2 : Int32) (a3 : Int32) (a4 : Int32) (a5 : Int32) (ex : Nat → mSt → Prop) (post : Int32 → mSt → Prop) : Prop := mx_XW true scr d 82 [.inr (.inr (.inl (0, 0))), .inl a1, .inl a2, .inl a3, .inl a4, .inl a5] s (mx_kI post) ex
def X_Vs_leads (scr : mSc) (d : Nat) (s : mSt) (i0 : Nat) (a1 : Int32) (a2 : Int32) (post : Int32 → mSt → Prop) : Prop := mx_XW true scr d 83 [.inr (.inr (.inl (14, i0))), .inl a1, .inl a2] s (mx_kI post) (fun _ _ => False)
def r_Vs_leads_16 (scr : mSc) (d : Nat) (i0 : Nat) (a1 : Int32) (a2 : Int32) (post : Int32 → mSt → Prop) (ex : Nat → mSt → Prop) (n : Nat) (s : mSt) (w3 : Int64) (w5 : Int64) (v7 : Int32) : Prop := mx_xq true scr (mx_XW true scr d) mt_Vs_leads (mx_kI post) ex n 16 [(0, .inr (.inr (.inl (14, i0)))), (1, .inl a1), (2, .inl a2), (3, .inr (.inl w3)), (5, .inr (.inl w5)), (7, .inl v7)] s (0, 0)
def r_Vs_leads_36 (scr : mSc) (d : Nat) (i0 : Nat) (a1 : Int32) (a2 : Int32) (post : Int32 → mSt → Prop) (ex : Nat → mSt → Prop) (n : Nat) (s : mSt) (w3 : Int64) (w5 : Int64) (v7 : Int32) (v8 : Int32) : Prop := mx_xq true scr (mx_XW true scr d) mt_Vs_leads (mx_kI post) ex n 36 [(0, .inr (.inr (.inl (14, i0)))), (1, .inl a1), (2, .inl a2), (3, .inr (.inl w3)), (5, .inr (.inl w5)), (7, .inl v7), (8, .inl v8)] s (0, 0)
def X_Lw_watch (scr : mSc) (d : Nat) (s : mSt) (a1 : Int32) (post : Int32 → mSt → Prop) : Prop := mx_XW true scr d 84 [.inr (.inr (.inl (0, 0))), .inl a1, .inr (.inr (.inl (38, 0)))] s (mx_kI post) (fun _ _ => False)
def X_Rs_watch (scr : mSc) (d : Nat) (s : mSt) (a1 : Int32) (ex : Nat → mSt → Prop) (post : Int32 → mSt → Prop) : Prop := mx_XW true scr d 85 [.inr (.inr (.inl (0, 0))), .inl a1] s (mx_kI post) ex
def X_Lg_changesSince (scr : mSc) (d : Nat) (s : mSt) (a1 : Int32) (post : Int32 → mSt → Prop) : Prop := mx_XW true scr d 86 [.inr (.inr (.inl (11, 0))), .inl a1] s (mx_kI post) (fun _ _ => False)
def X_Lw_watched (scr : mSc) (d : Nat) (s : mSt) (a1 : Int32) (a2 : Int32) (a3 : Int32) (post : Int32 → mSt → Prop) : Prop := mx_XW true scr d 87 [.inr (.inr (.inl (0, 0))), .inl a1, .inl a2, .inl a3, .inr (.inr (.inl (38, 0)))] s (mx_kI post) (fun _ _ => False)
def X_Rs_watched (scr : mSc) (d : Nat) (s : mSt) (a1 : Int32) (a2 : Int32) (a3 : Int32) (ex : Nat → mSt → Prop) (post : Int32 → mSt → Prop) : Prop := mx_XW true scr d 88 [.inr (.inr (.inl (0, 0))), .inl a1, .inl a2, .inl a3] s (mx_kI post) ex
def X_Lg_placeOf (scr : mSc) (d : Nat) (s : mSt) (a1 : Int32) (a2 : Int32) (post : Int32 → mSt → Prop) : Prop := mx_XW true scr d 89 [.inr (.inr (.inl (11, 0))), .inl a1, .inl a2] s (mx_kI post) (fun _ _ => False)
def r_Lg_placeOf_9 (scr : mSc) (d : Nat) (a1 : Int32) (a2 : Int32) (post : Int32 → mSt → Prop) (ex : Nat → mSt → Prop) (n : Nat) (s : mSt) (v3 : Int32) (v4 : Int32) : Prop := mx_xq true scr (mx_XW true scr d) mt_Lg_placeOf (mx_kI post) ex n 9 [(0, .inr (.inr (.inl (11, 0)))), (1, .inl a1), (2, .inl a2), (3, .inl v3), (4, .inl v4)] s (0, 0)
def X_Lg_marksBefore (scr : mSc) (d : Nat) (s : mSt) (a1 : Int32) (post : Int32 → mSt → Prop) : Prop := mx_XW true scr d 90 [.inr (.inr (.inl (11, 0))), .inl a1] s (mx_kI post) (fun _ _ => False)
def r_Lg_marksBefore_4 (scr : mSc) (d : Nat) (a1 : Int32) (post : Int32 → mSt → Prop) (ex : Nat → mSt → Prop) (n : Nat) (s : mSt) (v2 : Int32) (v3 : Int32) : Prop := mx_xq true scr (mx_XW true scr d) mt_Lg_marksBefore (mx_kI post) ex n 4 [(0, .inr (.inr (.inl (11, 0)))), (1, .inl a1), (2, .inl v2), (3, .inl v3)] s (0, 0)
def X_Md_thrown (scr : mSc) (d : Nat) (s : mSt) (post : Int32 → mSt → Prop) : Prop := mx_XW true scr d 92 [.inr (.inr (.inl (18, 0)))] s (mx_kI post) (fun _ _ => False)
def X_Md_relation (scr : mSc) (d : Nat) (s : mSt) (a1 : Int32) (a2 : Int32) (a3 : Int32) (a4 : Int32) (post : Int32 → mSt → Prop) : Prop := mx_XW true scr d 93 [.inr (.inr (.inl (18, 0))), .inl a1, .inl a2, .inl a3, .inl a4] s (mx_kI post) (fun _ _ => False)
def X_Md_type (scr : mSc) (d : Nat) (s : mSt) (a1 : Int32) (post : Int32 → mSt → Prop) : Prop := mx_XW true scr d 94 [.inr (.inr (.inl (18, 0))), .inl a1] s (mx_kI post) (fun _ _ => False)
def X_Md_sound (scr : mSc) (d : Nat) (s : mSt) (a1 : Int32) (post : Int32 → mSt → Prop) : Prop := mx_XW true scr d 95 [.inr (.inr (.inl (18, 0))), .inl a1] s (mx_kI post) (fun _ _ => False)
def X_Md_isRelation (scr : mSc) (d : Nat) (s : mSt) (a1 : Int32) (post : Int32 → mSt → Prop) : Prop := mx_XW true scr d 96 [.inr (.inr (.inl (18, 0))), .inl a1] s (mx_kI post) (fun _ _ => False)
def X_Md_isRule (scr : mSc) (d : Nat) (s : mSt) (a1 : Int32) (post : Int32 → mSt → Prop) : Prop := mx_XW true scr d 97 [.inr (.inr (.inl (18, 0))), .inl a1] s (mx_kI post) (fun _ _ => False)
def r_Md_isRule_18 (scr : mSc) (d : Nat) (a1 : Int32) (post : Int32 → mSt → Prop) (ex : Nat → mSt → Prop) (n : Nat) (s : mSt) (v2 : Int32) (v3 : Int32) (v4 : Int32) : Prop := mx_xq true scr (mx_XW true scr d) mt_Md_isRule (mx_kI post) ex n 18 [(0, .inr (.inr (.inl (18, 0)))), (1, .inl a1), (2, .inl v2), (3, .inl v3), (4, .inl v4)] s (0, 0)
def X_Md_at (scr : mSc) (d : Nat) (s : mSt) (a1 : Int32) (a2 : Int32) (post : Int32 → mSt → Prop) : Prop := mx_XW true scr d 98 [.inr (.inr (.inl (18, 0))), .inl a1, .inl a2] s (mx_kI post) (fun _ _ => False)
def X_Md_partAt (scr : mSc) (d : Nat) (s : mSt) (a1 : Int32) (a2 : Int32) (post : Int32 → mSt → Prop) : Prop := mx_XW true scr d 99 [.inr (.inr (.inl (18, 0))), .inl a1, .inl a2] s (mx_kI post) (fun _ _ => False)
def X_Md_named (scr : mSc) (d : Nat) (s : mSt) (a1 : Int32) (a2 : Int32) (post : Int32 → mSt → Prop) : Prop := mx_XW true scr d 100 [.inr (.inr (.inl (18, 0))), .inl a1, .inl a2] s (mx_kI post) (fun _ _ => False)
def X_Md_isSign (scr : mSc) (d : Nat) (s : mSt) (a0 : Int32) (post : Int32 → mSt → Prop) : Prop := mx_XW true scr d 101 [.inl a0] s (mx_kI post) (fun _ _ => False)
def X_Md_accept (scr : mSc) (d : Nat) (s : mSt) (post : Int32 → mSt → Prop) : Prop := mx_XW true scr d 102 [.inr (.inr (.inl (18, 0)))] s (mx_kI post) (fun _ _ => False)
def r_Md_accept_28 (scr : mSc) (d : Nat) (post : Int32 → mSt → Prop) (ex : Nat → mSt → Prop) (n : Nat) (s : mSt) (v1 : Int32) : Prop := mx_xq true scr (mx_XW true scr d) mt_Md_accept (mx_kI post) ex n 28 [(0, .inr (.inr (.inl (18, 0)))), (1, .inl v1)] s (0, 0)
def r_Md_accept_59 (scr : mSc) (d : Nat) (post : Int32 → mSt → Prop) (ex : Nat → mSt → Prop) (n : Nat) (s : mSt) (v1 : Int32) : Prop := mx_xq true scr (mx_XW true scr d) mt_Md_accept (mx_kI post) ex n 59 [(0, .inr (.inr (.inl (18, 0)))), (1, .inl v1)] s (0, 0)
def r_Md_accept_87 (scr : mSc) (d : Nat) (post : Int32 → mSt → Prop) (ex : Nat → mSt → Prop) (n : Nat) (s : mSt) (v1 : Int32) : Prop := mx_xq true scr (mx_XW true scr d) mt_Md_accept (mx_kI post) ex n 87 [(0, .inr (.inr (.inl (18, 0)))), (1, .inl v1)] s (0, 0)
def X_Md_findNeeds (scr : mSc) (d : Nat) (s : mSt) (a1 : Int32) (post : mSt → Prop) : Prop := mx_XW true scr d 103 [.inr (.inr (.inl (18, 0))), .inl a1] s (mx_kV post) (fun _ _ => False)
def r_Md_findNeeds_30 (scr : mSc) (d : Nat) (a1 : Int32) (post : mSt → Prop) (ex : Nat → mSt → Prop) (n : Nat) (s : mSt) (v2 : Int32) (v3 : Int32) (v4 : Int32) : Prop := mx_xq true scr (mx_XW true scr d) mt_Md_findNeeds (mx_kV post) ex n 30 [(0, .inr (.inr (.inl (18, 0)))), (1, .inl a1), (2, .inl v2), (3, .inl v3), (4, .inl v4)] s (0, 0)
def X_Md_needOf (scr : mSc) (d : Nat) (s : mSt) (a1 : Int32) (a2 : Int32) (a3 : Int32) (post : mSt → Prop) : Prop := mx_XW true scr d 104 [.inr (.inr (.inl (18, 0))), .inl a1, .inl a2, .inl a3] s (mx_kV post) (fun _ _ => False)
def r_Md_needOf_32 (scr : mSc) (d : Nat) (a1 : Int32) (a2 : Int32) (a3 : Int32) (post : mSt → Prop) (ex : Nat → mSt → Prop) (n : Nat) (s : mSt) (v4 : Int32) (v5 : Int32) : Prop := mx_xq true scr (mx_XW true scr d) mt_Md_needOf (mx_kV post) ex n 32 [(0, .inr (.inr (.inl (18, 0)))), (1, .inl a1), (2, .inl a2), (3, .inl a3), (4, .inl v4), (5, .inl v5)] s (0, 0)
def X_Md_need (scr : mSc) (d : Nat) (s : mSt) (a1 : Int32) (a2 : Int32) (a3 : Int32) (post : mSt → Prop) : Prop := mx_XW true scr d 105 [.inr (.inr (.inl (18, 0))), .inl a1, .inl a2, .inl a3] s (mx_kV post) (fun _ _ => False)
def X_Md_close (scr : mSc) (d : Nat) (s : mSt) (post : mSt → Prop) : Prop := mx_XW true scr d 106 [.inr (.inr (.inl (18, 0)))] s (mx_kV post) (fun _ _ => False)
def r_Md_close_2 (scr : mSc) (d : Nat) (post : mSt → Prop) (ex : Nat → mSt → Prop) (n : Nat) (s : mSt) (v1 : Int32) : Prop := mx_xq true scr (mx_XW true scr d) mt_Md_close (mx_kV post) ex n 2 [(0, .inr (.inr (.inl (18, 0)))), (1, .inl v1)] s (0, 0)
def r_Md_close_28 (scr : mSc) (d : Nat) (post : mSt → Prop) (ex : Nat → mSt → Prop) (n : Nat) (s : mSt) (v1 : Int32) : Prop := mx_xq true scr (mx_XW true scr d) mt_Md_close (mx_kV post) ex n 28 [(0, .inr (.inr (.inl (18, 0)))), (1, .inl v1)] s (0, 0)
def r_Md_close_36 (scr : mSc) (d : Nat) (post : mSt → Prop) (ex : Nat → mSt → Prop) (n : Nat) (s : mSt) (v1 : Int32) (v2 : Int32) : Prop := mx_xq true scr (mx_XW true scr d) mt_Md_close (mx_kV post) ex n 36 [(0, .inr (.inr (.inl (18, 0)))), (1, .inl v1), (2, .inl v2)] s (0, 0)
def r_Md_close_44 (scr : mSc) (d : Nat) (post : mSt → Prop) (ex : Nat → mSt → Prop) (n : Nat) (s : mSt) (v1 : Int32) (v2 : Int32) (v3 : Int32) : Prop := mx_xq true scr (mx_XW true scr d) mt_Md_close (mx_kV post) ex n 44 [(0, .inr (.inr (.inl (18, 0)))), (1, .inl v1), (2, .inl v2), (3, .inl v3)] s (0, 0)
def X_Md_isCircular (scr : mSc) (d : Nat) (s : mSt) (post : Int32 → mSt → Prop) : Prop := mx_XW true scr d 107 [.inr (.inr (.inl (18, 0)))] s (mx_kI post) (fun _ _ => False)
def r_Md_isCircular_4 (scr : mSc) (d : Nat) (post : Int32 → mSt → Prop) (ex : Nat → mSt → Prop) (n : Nat) (s : mSt) (v1 : Int32) (v2 : Int32) : Prop := mx_xq true scr (mx_XW true scr d) mt_Md_isCircular (mx_kI post) ex n 4 [(0, .inr (.inr (.inl (18, 0)))), (1, .inl v1), (2, .inl v2)] s (0, 0)
def r_Md_isCircular_12 (scr : mSc) (d : Nat) (post : Int32 → mSt → Prop) (ex : Nat → mSt → Prop) (n : Nat) (s : mSt) (v1 : Int32) (v2 : Int32) (v3 : Int32) : Prop := mx_xq true scr (mx_XW true scr d) mt_Md_isCircular (mx_kI post) ex n 12 [(0, .inr (.inr (.inl (18, 0)))), (1, .inl v1), (2, .inl v2), (3, .inl v3)] s (0, 0)
def X_Md_findLevels (scr : mSc) (d : Nat) (s : mSt) (post : mSt → Prop) : Prop := mx_XW true scr d 108 [.inr (.inr (.inl (18, 0)))] s (mx_kV post) (fun _ _ => False)
def r_Md_findLevels_2 (scr : mSc) (d : Nat) (post : mSt → Prop) (ex : Nat → mSt → Prop) (n : Nat) (s : mSt) (v1 : Int32) : Prop := mx_xq true scr (mx_XW true scr d) mt_Md_findLevels (mx_kV post) ex n 2 [(0, .inr (.inr (.inl (18, 0)))), (1, .inl v1)] s (0, 0)
def r_Md_findLevels_23 (scr : mSc) (d : Nat) (post : mSt → Prop) (ex : Nat → mSt → Prop) (n : Nat) (s : mSt) (v1 : Int32) : Prop := mx_xq true scr (mx_XW true scr d) mt_Md_findLevels (mx_kV post) ex n 23 [(0, .inr (.inr (.inl (18, 0)))), (1, .inl v1)] s (0, 0)
def r_Md_findLevels_31 (scr : mSc) (d : Nat) (post : mSt → Prop) (ex : Nat → mSt → Prop) (n : Nat) (s : mSt) (v1 : Int32) (v2 : Int32) : Prop := mx_xq true scr (mx_XW true scr d) mt_Md_findLevels (mx_kV post) ex n 31 [(0, .inr (.inr (.inl (18, 0)))), (1, .inl v1), (2, .inl v2)] s (0, 0)
def X_Md_change (scr : mSc) (d : Nat) (s : mSt) (a1 : Int32) (a2 : Int32) (a3 : Int32) (a4 : Int32) (a5 : Int32) (a6 : Int32) (post : Int32 → mSt → Prop) : Prop := mx_XW true scr d 109 [.inr (.inr (.inl (18, 0))), .inl a1, .inl a2, .inl a3, .inl a4, .inl a5, .inl a6] s (mx_kI post) (fun _ _ => False)
def X_Md_isTuple (scr : mSc) (d : Nat) (s : mSt) (a1 : Int32) (a2 : Int32) (a3 : Int32) (a4 : Int32) (a5 : Int32) (post : Int32 → mSt → Prop) : Prop := mx_XW true scr d 110 [.inr (.inr (.inl (18, 0))), .inl a1, .inl a2, .inl a3, .inl a4, .inl a5] s (mx_kI post) (fun _ _ => False)
def X_Md_isOf (scr : mSc) (d : Nat) (s : mSt) (a1 : Int32) (a2 : Int32) (post : Int32 → mSt → Prop) : Prop := mx_XW true scr d 111 [.inr (.inr (.inl (18, 0))), .inl a1, .inl a2] s (mx_kI post) (fun _ _ => False)
def X_Md_commit (scr : mSc) (d : Nat) (s : mSt) (a1 : Int32) (post : Int32 → mSt → Prop) : Prop := mx_XW true scr d 112 [.inr (.inr (.inl (18, 0))), .inl a1] s (mx_kI post) (fun _ _ => False)
def r_Md_commit_65 (scr : mSc) (d : Nat) (a1 : Int32) (post : Int32 → mSt → Prop) (ex : Nat → mSt → Prop) (n : Nat) (s : mSt) (v2 : Int32) (v3 : Int32) : Prop := mx_xq true scr (mx_XW true scr d) mt_Md_commit (mx_kI post) ex n 65 [(0, .inr (.inr (.inl (18, 0)))), (1, .inl a1), (2, .inl v2), (3, .inl v3)] s (0, 0)
def r_Md_commit_104 (scr : mSc) (d : Nat) (a1 : Int32) (post : Int32 → mSt → Prop) (ex : Nat → mSt → Prop) (n : Nat) (s : mSt) (v2 : Int32) (v3 : Int32) : Prop := mx_xq true scr (mx_XW true scr d) mt_Md_commit (mx_kI post) ex n 104 [(0, .inr (.inr (.inl (18, 0)))), (1, .inl a1), (2, .inl v2), (3, .inl v3)] s (0, 0)
def X_Md_crash (scr : mSc) (d : Nat) (s : mSt) (post : mSt → Prop) : Prop := mx_XW true scr d 113 [.inr (.inr (.inl (18, 0)))] s (mx_kV post) (fun _ _ => False)
def X_Md_latest (scr : mSc) (d : Nat) (s : mSt) (post : Int32 → mSt → Prop) : Prop := mx_XW true scr d 114 [.inr (.inr (.inl (18, 0)))] s (mx_kI post) (fun _ _ => False)
def X_Md_records (scr : mSc) (d : Nat) (s : mSt) (post : Int32 → mSt → Prop) : Prop := mx_XW true scr d 115 [.inr (.inr (.inl (18, 0)))] s (mx_kI post) (fun _ _ => False)
def X_Md_tuples (scr : mSc) (d : Nat) (s : mSt) (a1 : Int32) (post : Int32 → mSt → Prop) : Prop := mx_XW true scr d 116 [.inr (.inr (.inl (18, 0))), .inl a1] s (mx_kI post) (fun _ _ => False)
def X_Md_isFine (scr : mSc) (d : Nat) (s : mSt) (a1 : Int32) (a2 : Int32) (post : Int32 → mSt → Prop) : Prop := mx_XW true scr d 117 [.inr (.inr (.inl (18, 0))), .inl a1, .inl a2] s (mx_kI post) (fun _ _ => False)
def X_Md_fail (scr : mSc) (d : Nat) (s : mSt) (a1 : Int32) (post : Int32 → mSt → Prop) : Prop := mx_XW true scr d 118 [.inr (.inr (.inl (18, 0))), .inl a1] s (mx_kI post) (fun _ _ => False)
def X_Md_play (scr : mSc) (d : Nat) (s : mSt) (a1 : Int32) (post : mSt → Prop) : Prop := mx_XW true scr d 119 [.inr (.inr (.inl (18, 0))), .inl a1] s (mx_kV post) (fun _ _ => False)
def r_Md_play_7 (scr : mSc) (d : Nat) (a1 : Int32) (post : mSt → Prop) (ex : Nat → mSt → Prop) (n : Nat) (s : mSt) (v2 : Int32) : Prop := mx_xq true scr (mx_XW true scr d) mt_Md_play (mx_kV post) ex n 7 [(0, .inr (.inr (.inl (18, 0)))), (1, .inl a1), (2, .inl v2)] s (0, 0)
def r_Md_play_27 (scr : mSc) (d : Nat) (a1 : Int32) (post : mSt → Prop) (ex : Nat → mSt → Prop) (n : Nat) (s : mSt) (v2 : Int32) (v3 : Int32) : Prop := mx_xq true scr (mx_XW true scr d) mt_Md_play (mx_kV post) ex n 27 [(0, .inr (.inr (.inl (18, 0)))), (1, .inl a1), (2, .inl v2), (3, .inl v3)] s (0, 0)
def X_Md_same (scr : mSc) (d : Nat) (s : mSt) (a1 : Int32) (a2 : Int32) (post : Int32 → mSt → Prop) : Prop := mx_XW true scr d 120 [.inr (.inr (.inl (18, 0))), .inl a1, .inl a2] s (mx_kI post) (fun _ _ => False)
def r_Md_same_5 (scr : mSc) (d : Nat) (a1 : Int32) (a2 : Int32) (post : Int32 → mSt → Prop) (ex : Nat → mSt → Prop) (n : Nat) (s : mSt) (v3 : Int32) (v4 : Int32) : Prop := mx_xq true scr (mx_XW true scr d) mt_Md_same (mx_kI post) ex n 5 [(0, .inr (.inr (.inl (18, 0)))), (1, .inl a1), (2, .inl a2), (3, .inl v3), (4, .inl v4)] s (0, 0)
def X_Md_check (scr : mSc) (d : Nat) (s : mSt) (a1 : Int32) (a2 : Int32) (a3 : Int32) (a4 : Int32) (post : Int32 → mSt → Prop) : Prop := mx_XW true scr d 121 [.inr (.inr (.inl (18, 0))), .inl a1, .inl a2, .inl a3, .inl a4] s (mx_kI post) (fun _ _ => False)
def X_Md_isUser (scr : mSc) (d : Nat) (s : mSt) (a0 : Int32) (post : Int32 → mSt → Prop) : Prop := mx_XW true scr d 122 [.inl a0] s (mx_kI post) (fun _ _ => False)
def X_Md_findMembers (scr : mSc) (d : Nat) (s : mSt) (a1 : Int32) (post : mSt → Prop) : Prop := mx_XW true scr d 123 [.inr (.inr (.inl (18, 0))), .inl a1] s (mx_kV post) (fun _ _ => False)
def r_Md_findMembers_7 (scr : mSc) (d : Nat) (a1 : Int32) (post : mSt → Prop) (ex : Nat → mSt → Prop) (n : Nat) (s : mSt) (v2 : Int32) : Prop := mx_xq true scr (mx_XW true scr d) mt_Md_findMembers (mx_kV post) ex n 7 [(0, .inr (.inr (.inl (18, 0)))), (1, .inl a1), (2, .inl v2)] s (0, 0)
def r_Md_findMembers_28 (scr : mSc) (d : Nat) (a1 : Int32) (post : mSt → Prop) (ex : Nat → mSt → Prop) (n : Nat) (s : mSt) (v2 : Int32) : Prop := mx_xq true scr (mx_XW true scr d) mt_Md_findMembers (mx_kV post) ex n 28 [(0, .inr (.inr (.inl (18, 0)))), (1, .inl a1), (2, .inl v2)] s (0, 0)
def r_Md_findMembers_39 (scr : mSc) (d : Nat) (a1 : Int32) (post : mSt → Prop) (ex : Nat → mSt → Prop) (n : Nat) (s : mSt) (v2 : Int32) (v3 : Int32) (v4 : Int32) : Prop := mx_xq true scr (mx_XW true scr d) mt_Md_findMembers (mx_kV post) ex n 39 [(0, .inr (.inr (.inl (18, 0)))), (1, .inl a1), (2, .inl v2), (3, .inl v3), (4, .inl v4)] s (0, 0)
def r_Md_findMembers_56 (scr : mSc) (d : Nat) (a1 : Int32) (post : mSt → Prop) (ex : Nat → mSt → Prop) (n : Nat) (s : mSt) (v2 : Int32) (v3 : Int32) (v4 : Int32) (v5 : Int32) : Prop := mx_xq true scr (mx_XW true scr d) mt_Md_findMembers (mx_kV post) ex n 56 [(0, .inr (.inr (.inl (18, 0)))), (1, .inl a1), (2, .inl v2), (3, .inl v3), (4, .inl v4), (5, .inl v5)] s (0, 0)
def X_Md_worked (scr : mSc) (d : Nat) (s : mSt) (a1 : Int32) (a2 : Int32) (post : Int32 → mSt → Prop) : Prop := mx_XW true scr d 124 [.inr (.inr (.inl (18, 0))), .inl a1, .inl a2] s (mx_kI post) (fun _ _ => False)
def r_Md_worked_28 (scr : mSc) (d : Nat) (a1 : Int32) (a2 : Int32) (post : Int32 → mSt → Prop) (ex : Nat → mSt → Prop) (n : Nat) (s : mSt) (v3 : Int32) (v4 : Int32) : Prop := mx_xq true scr (mx_XW true scr d) mt_Md_worked (mx_kI post) ex n 28 [(0, .inr (.inr (.inl (18, 0)))), (1, .inl a1), (2, .inl a2), (3, .inl v3), (4, .inl v4)] s (0, 0)
def X_Md_told (scr : mSc) (d : Nat) (s : mSt) (a1 : Int32) (a2 : Int32) (post : Int32 → mSt → Prop) : Prop := mx_XW true scr d 125 [.inr (.inr (.inl (18, 0))), .inl a1, .inl a2] s (mx_kI post) (fun _ _ => False)
def r_Md_told_5 (scr : mSc) (d : Nat) (a1 : Int32) (a2 : Int32) (post : Int32 → mSt → Prop) (ex : Nat → mSt → Prop) (n : Nat) (s : mSt) (v3 : Int32) (v4 : Int32) : Prop := mx_xq true scr (mx_XW true scr d) mt_Md_told (mx_kI post) ex n 5 [(0, .inr (.inr (.inl (18, 0)))), (1, .inl a1), (2, .inl a2), (3, .inl v3), (4, .inl v4)] s (0, 0)
def X_Md_join (scr : mSc) (d : Nat) (s : mSt) (a1 : Int32) (a2 : Int32) (post : mSt → Prop) : Prop := mx_XW true scr d 126 [.inr (.inr (.inl (18, 0))), .inl a1, .inl a2] s (mx_kV post) (fun _ _ => False)
def X_Md_partOf (scr : mSc) (d : Nat) (s : mSt) (a1 : Int32) (a2 : Int32) (a3 : Int32) (post : Int32 → mSt → Prop) : Prop := mx_XW true scr d 127 [.inr (.inr (.inl (18, 0))), .inl a1, .inl a2, .inl a3] s (mx_kI post) (fun _ _ => False)
def X_Md_from (scr : mSc) (d : Nat) (s : mSt) (a1 : Int32) (a2 : Int32) (a3 : Int32) (post : Int32 → mSt → Prop) : Prop := mx_XW true scr d 128 [.inr (.inr (.inl (18, 0))), .inl a1, .inl a2, .inl a3] s (mx_kI post) (fun _ _ => False)
def r_Md_from_6 (scr : mSc) (d : Nat) (a1 : Int32) (a2 : Int32) (a3 : Int32) (post : Int32 → mSt → Prop) (ex : Nat → mSt → Prop) (n : Nat) (s : mSt) (v4 : Int32) (v5 : Int32) : Prop := mx_xq true scr (mx_XW true scr d) mt_Md_from (mx_kI post) ex n 6 [(0, .inr (.inr (.inl (18, 0)))), (1, .inl a1), (2, .inl a2), (3, .inl a3), (4, .inl v4), (5, .inl v5)] s (0, 0)
def X_Md_expand (scr : mSc) (d : Nat) (s : mSt) (a1 : Int32) (a2 : Int32) (a3 : Int32) (post : Int32 → mSt → Prop) : Prop := mx_XW true scr d 129 [.inr (.inr (.inl (18, 0))), .inl a1, .inl a2, .inl a3] s (mx_kI post) (fun _ _ => False)
def X_Md_lookup (scr : mSc) (d : Nat) (s : mSt) (a1 : Int32) (a2 : Int32) (a3 : Int32) (post : Int32 → mSt → Prop) : Prop := mx_XW true scr d 130 [.inr (.inr (.inl (18, 0))), .inl a1, .inl a2, .inl a3] s (mx_kI post) (fun _ _ => False)
def r_Md_lookup_48 (scr : mSc) (d : Nat) (a1 : Int32) (a2 : Int32) (a3 : Int32) (post : Int32 → mSt → Prop) (ex : Nat → mSt → Prop) (n : Nat) (s : mSt) (v4 : Int32) (v5 : Int32) : Prop := mx_xq true scr (mx_XW true scr d) mt_Md_lookup (mx_kI post) ex n 48 [(0, .inr (.inr (.inl (18, 0)))), (1, .inl a1), (2, .inl a2), (3, .inl a3), (4, .inl v4), (5, .inl v5)] s (0, 0)
def X_Md_nested (scr : mSc) (d : Nat) (s : mSt) (a1 : Int32) (a2 : Int32) (a3 : Int32) (a4 : Int32) (a5 : Int32) (post : Int32 → mSt → Prop) : Prop := mx_XW true scr d 131 [.inr (.inr (.inl (18, 0))), .inl a1, .inl a2, .inl a3, .inl a4, .inl a5] s (mx_kI post) (fun _ _ => False)
def r_Md_nested_42 (scr : mSc) (d : Nat) (a1 : Int32) (a2 : Int32) (a3 : Int32) (a4 : Int32) (a5 : Int32) (post : Int32 → mSt → Prop) (ex : Nat → mSt → Prop) (n : Nat) (s : mSt) : Prop := mx_xq true scr (mx_XW true scr d) mt_Md_nested (mx_kI post) ex n 42 [(0, .inr (.inr (.inl (18, 0)))), (1, .inl a1), (2, .inl a2), (3, .inl a3), (4, .inl a4), (5, .inl a5)] s (0, 0)
def r_Md_nested_50 (scr : mSc) (d : Nat) (a1 : Int32) (a2 : Int32) (a3 : Int32) (a4 : Int32) (a5 : Int32) (post : Int32 → mSt → Prop) (ex : Nat → mSt → Prop) (n : Nat) (s : mSt) (v6 : Int32) : Prop := mx_xq true scr (mx_XW true scr d) mt_Md_nested (mx_kI post) ex n 50 [(0, .inr (.inr (.inl (18, 0)))), (1, .inl a1), (2, .inl a2), (3, .inl a3), (4, .inl a4), (5, .inl a5), (6, .inl v6)] s (0, 0)
def r_Md_nested_77 (scr : mSc) (d : Nat) (a1 : Int32) (a2 : Int32) (a3 : Int32) (a4 : Int32) (a5 : Int32) (post : Int32 → mSt → Prop) (ex : Nat → mSt → Prop) (n : Nat) (s : mSt) (v6 : Int32) (v7 : Int32) : Prop := mx_xq true scr (mx_XW true scr d) mt_Md_nested (mx_kI post) ex n 77 [(0, .inr (.inr (.inl (18, 0)))), (1, .inl a1), (2, .inl a2), (3, .inl a3), (4, .inl a4), (5, .inl a5), (6, .inl v6), (7, .inl v7)] s (0, 0)
def r_Md_nested_95 (scr : mSc) (d : Nat) (a1 : Int32) (a2 : Int32) (a3 : Int32) (a4 : Int32) (a5 : Int32) (post : Int32 → mSt → Prop) (ex : Nat → mSt → Prop) (n : Nat) (s : mSt) (v6 : Int32) (v7 : Int32) (v8 : Int32) : Prop := mx_xq true scr (mx_XW true scr d) mt_Md_nested (mx_kI post) ex n 95 [(0, .inr (.inr (.inl (18, 0)))), (1, .inl a1), (2, .inl a2), (3, .inl a3), (4, .inl a4), (5, .inl a5), (6, .inl v6), (7, .inl v7), (8, .inl v8)] s (0, 0)
def r_Md_nested_172 (scr : mSc) (d : Nat) (a1 : Int32) (a2 : Int32) (a3 : Int32) (a4 : Int32) (a5 : Int32) (post : Int32 → mSt → Prop) (ex : Nat → mSt → Prop) (n : Nat) (s : mSt) (v6 : Int32) (v7 : Int32) (v8 : Int32) (v9 : Int32) : Prop := mx_xq true scr (mx_XW true scr d) mt_Md_nested (mx_kI post) ex n 172 [(0, .inr (.inr (.inl (18, 0)))), (1, .inl a1), (2, .inl a2), (3, .inl a3), (4, .inl a4), (5, .inl a5), (6, .inl v6), (7, .inl v7), (8, .inl v8), (9, .inl v9)] s (0, 0)
def r_Md_nested_234 (scr : mSc) (d : Nat) (a1 : Int32) (a2 : Int32) (a3 : Int32) (a4 : Int32) (a5 : Int32) (post : Int32 → mSt → Prop) (ex : Nat → mSt → Prop) (n : Nat) (s : mSt) (v6 : Int32) (v7 : Int32) (v8 : Int32) (v9 : Int32) (v10 : Int32) (v11 : Int32) : Prop := mx_xq true scr (mx_XW true scr d) mt_Md_nested (mx_kI post) ex n 234 [(0, .inr (.inr (.inl (18, 0)))), (1, .inl a1), (2, .inl a2), (3, .inl a3), (4, .inl a4), (5, .inl a5), (6, .inl v6), (7, .inl v7), (8, .inl v8), (9, .inl v9), (10, .inl v10), (11, .inl v11)] s (0, 0)
def r_Md_nested_245 (scr : mSc) (d : Nat) (a1 : Int32) (a2 : Int32) (a3 : Int32) (a4 : Int32) (a5 : Int32) (post : Int32 → mSt → Prop) (ex : Nat → mSt → Prop) (n : Nat) (s : mSt) (v6 : Int32) (v7 : Int32) (v8 : Int32) (v9 : Int32) (v10 : Int32) (v11 : Int32) : Prop := mx_xq true scr (mx_XW true scr d) mt_Md_nested (mx_kI post) ex n 245 [(0, .inr (.inr (.inl (18, 0)))), (1, .inl a1), (2, .inl a2), (3, .inl a3), (4, .inl a4), (5, .inl a5), (6, .inl v6), (7, .inl v7), (8, .inl v8), (9, .inl v9), (10, .inl v10), (11, .inl v11)] s (0, 0)
def X_Md_watch (scr : mSc) (d : Nat) (s : mSt) (a1 : Int32) (post : Int32 → mSt → Prop) : Prop := mx_XW true scr d 132 [.inr (.inr (.inl (18, 0))), .inl a1] s (mx_kI post) (fun _ _ => False)
def X_Md_since (scr : mSc) (d : Nat) (s : mSt) (a1 : Int32) (post : Int32 → mSt → Prop) : Prop := mx_XW true scr d 133 [.inr (.inr (.inl (18, 0))), .inl a1] s (mx_kI post) (fun _ _ => False)
def r_Md_since_2 (scr : mSc) (d : Nat) (a1 : Int32) (post : Int32 → mSt → Prop) (ex : Nat → mSt → Prop) (n : Nat) (s : mSt) (v2 : Int32) : Prop := mx_xq true scr (mx_XW true scr d) mt_Md_since (mx_kI post) ex n 2 [(0, .inr (.inr (.inl (18, 0)))), (1, .inl a1), (2, .inl v2)] s (0, 0)
def X_Md_watched (scr : mSc) (d : Nat) (s : mSt) (a1 : Int32) (a2 : Int32) (a3 : Int32) (post : Int32 → mSt → Prop) : Prop := mx_XW true scr d 134 [.inr (.inr (.inl (18, 0))), .inl a1, .inl a2, .inl a3] s (mx_kI post) (fun _ _ => False)
end
section
set_option maxRecDepth 100000 in
theorem w_Rs_relation {scr : mSc} {d : Nat} {s : mSt} {a1 : Int32} {a2 : Int32} {a3 : Int32} {a4 : Int32} {post : Int32 → mSt → Prop} (h : X_Cf_add scr d s a1 a2 a3 a4 (fun r2 s1 => post r2 s1)) : X_Rs_relation scr (d + 1) s a1 a2 a3 a4 post := ⟨0, h⟩
set_option maxRecDepth 100000 in
theorem w_Rs_type {scr : mSc} {d : Nat} {s : mSt} {a1 : Int32} {post : Int32 → mSt → Prop} (h : X_Cf_append scr d s a1 (fun r2 s1 => (mx_nr .boolean r2 ∧ post r2 s1))) : X_Rs_type scr (d + 1) s a1 post := ⟨0, h⟩
set_option maxRecDepth 100000 in
theorem w_Rs_sound {scr : mSc} {d : Nat} {s : mSt} {a1 : Int32} {post : Int32 → mSt → Prop} (h : X_Cf_isRule scr d s a1 (fun r2 s1 => (mx_nr .boolean r2 ∧ post r2 s1))) : X_Rs_sound scr (d + 1) s a1 post := ⟨0, h⟩
set_option maxRecDepth 100000 in
theorem w_Rs_crash {scr : mSc} {d : Nat} {s : mSt} {post : mSt → Prop} (h : X_Rs_forget scr d s (fun s1 => post s1)) : X_Rs_crash scr (d + 1) s post := ⟨0, h⟩
set_option maxRecDepth 100000 in
theorem w_Rs_forget {scr : mSc} {d : Nat} {s : mSt} {post : mSt → Prop} (h : ∃ n, (∀ s1, s1 = mx_si s 0 0 3 (0 : Int32) → r_Rs_forget_7 scr d post (fun _ _ => False) n s1 (0 : Int32))) : X_Rs_forget scr (d + 1) s post := h
set_option maxRecDepth 100000 in
theorem w_Rs_forget_7 {scr : mSc} {d : Nat} {post : mSt → Prop} {ex : Nat → mSt → Prop} {n : Nat} {s : mSt} {v1 : Int32} (h : (((8 : Int32) ≤ v1 → post s) ∧ (¬ (8 : Int32) ≤ v1 → (vp_in v1 8 ∧ (∀ s1, s1 = mx_si s 14 (v1).toNatClampNeg 0 (-1 : Int32) → r_Rs_forget_7 scr d post ex n s1 (v1 + (1 : Int32))))))) : r_Rs_forget_7 scr d post ex (n + 1) s v1 := h
set_option maxRecDepth 100000 in
theorem w_Rs_latest {scr : mSc} {d : Nat} {s : mSt} {post : Int32 → mSt → Prop} (h : post (s.1 11 0 2) s) : X_Rs_latest scr (d + 1) s post := ⟨0, h⟩
set_option maxRecDepth 100000 in
theorem w_Rs_records {scr : mSc} {d : Nat} {s : mSt} {post : Int32 → mSt → Prop} (h : post (s.1 11 0 1) s) : X_Rs_records scr (d + 1) s post := ⟨0, h⟩
set_option maxRecDepth 100000 in
theorem w_Rs_accept {scr : mSc} {d : Nat} {s : mSt} {ex : Nat → mSt → Prop} {post : Int32 → mSt → Prop} (h : (((s.1 1 0 2) = 0 → (((s.1 1 0 1) = 0 → ex 1 s) ∧ (¬ (s.1 1 0 1) = 0 → X_Cf_allAreRules scr d s (fun r2 s1 => ((r2 = 0 → ex 2 s1) ∧ (¬ r2 = 0 → X_Cf_hasBarredRing scr d s1 (fun r4 s3 => ((r4 = 0 → X_Cf_findLevels scr d s3 (fun s5 => (narrow .boolean (.int (1 : Int32)) = .int (1 : Int32) ∧ (∀ s6, s6 = mx_si s5 1 0 2 (1 : Int32) → post (s6.1 1 0 1) s6)))) ∧ (¬ r4 = 0 → ex 3 s3))))))))) ∧ (¬ (s.1 1 0 2) = 0 → ex 1 s))) : X_Rs_accept scr (d + 1) s ex post := ⟨0, h⟩
set_option maxRecDepth 100000 in
theorem w_Rs_hasBit {scr : mSc} {d : Nat} {s : mSt} {a0 : Int32} {a1 : Int32} {post : Int32 → mSt → Prop} (h : ((((a0 >>> (a1 &&& 31)) &&& (1 : Int32)) = 0 → (mx_nr .boolean (0 : Int32) ∧ post (0 : Int32) s)) ∧ (¬ ((a0 >>> (a1 &&& 31)) &&& (1 : Int32)) = 0 → (mx_nr .boolean (1 : Int32) ∧ post (1 : Int32) s)))) : X_Rs_hasBit scr (d + 1) s a0 a1 post := ⟨0, h⟩
set_option maxRecDepth 100000 in
theorem w_Rs_change {scr : mSc} {d : Nat} {s : mSt} {a1 : Int32} {a2 : Int32} {a3 : Int32} {a4 : Int32} {a5 : Int32} {a6 : Int32} {ex : Nat → mSt → Prop} {post : Int32 → mSt → Prop} (h : (((s.1 1 0 2) = 0 → ex 1 s) ∧ (¬ (s.1 1 0 2) = 0 → X_Cf_isTuple scr d s a2 a3 a4 a5 a6 (fun r2 s1 => ((r2 = 0 → ex 2 s1) ∧ (¬ r2 = 0 → (((s1.1 0 0 3) < (5 : Int32) → ((a4 = (2 : Int32) → X_Rs_packed scr d s1 a1 a2 a3 a4 a5 a6 (fun r8 s7 => (vp_in (s1.1 0 0 3) 5 ∧ ∀ s9, s9 = mx_si s7 10 0 ((s1.1 0 0 3)).toNatClampNeg r8 → (∀ s10, s10 = mx_si s9 0 0 3 ((s9.1 0 0 3) + (1 : Int32)) → post (s10.1 0 0 3) s10)))) ∧ (¬ a4 = (2 : Int32) → X_Rs_packed scr d s1 a1 a2 a3 a4 a5 (0 : Int32) (fun r4 s3 => (vp_in (s1.1 0 0 3) 5 ∧ ∀ s5, s5 = mx_si s3 10 0 ((s1.1 0 0 3)).toNatClampNeg r4 → (∀ s6, s6 = mx_si s5 0 0 3 ((s5.1 0 0 3) + (1 : Int32)) → post (s6.1 0 0 3) s6)))))) ∧ (¬ (s1.1 0 0 3) < (5 : Int32) → ex 3 s1)))))))) : X_Rs_change scr (d + 1) s a1 a2 a3 a4 a5 a6 ex post := ⟨0, h⟩
set_option maxRecDepth 100000 in
theorem w_Rs_isObject {scr : mSc} {d : Nat} {s : mSt} {a0 : Int32} {post : Int32 → mSt → Prop} (h : ((a0 < 0 → (mx_nr .boolean (0 : Int32) ∧ post (0 : Int32) s)) ∧ (¬ a0 < 0 → (((12 : Int32) ≤ a0 → (mx_nr .boolean (0 : Int32) ∧ post (0 : Int32) s)) ∧ (¬ (12 : Int32) ≤ a0 → (mx_nr .boolean (1 : Int32) ∧ post (1 : Int32) s)))))) : X_Rs_isObject scr (d + 1) s a0 post := ⟨0, h⟩
set_option maxRecDepth 100000 in
theorem w_Rs_isUser {scr : mSc} {d : Nat} {s : mSt} {a0 : Int32} {post : Int32 → mSt → Prop} (h : ((a0 < 0 → (mx_nr .boolean (0 : Int32) ∧ post (0 : Int32) s)) ∧ (¬ a0 < 0 → (((8 : Int32) ≤ a0 → (mx_nr .boolean (0 : Int32) ∧ post (0 : Int32) s)) ∧ (¬ (8 : Int32) ≤ a0 → (mx_nr .boolean (1 : Int32) ∧ post (1 : Int32) s)))))) : X_Rs_isUser scr (d + 1) s a0 post := ⟨0, h⟩
set_option maxRecDepth 100000 in
theorem w_Rs_packed {scr : mSc} {d : Nat} {s : mSt} {a0 : Int32} {a1 : Int32} {a2 : Int32} {a3 : Int32} {a4 : Int32} {a5 : Int32} {post : Int32 → mSt → Prop} (h : ((a0 = 0 → post ((((((((((a5 <<< ((4 : Int32) &&& 31)) ||| a4) <<< ((4 : Int32) &&& 31)) ||| a3) <<< ((4 : Int32) &&& 31)) ||| a2) <<< ((4 : Int32) &&& 31)) ||| a1) <<< ((4 : Int32) &&& 31)) ||| (0 : Int32)) s) ∧ (¬ a0 = 0 → post ((((((((((a5 <<< ((4 : Int32) &&& 31)) ||| a4) <<< ((4 : Int32) &&& 31)) ||| a3) <<< ((4 : Int32) &&& 31)) ||| a2) <<< ((4 : Int32) &&& 31)) ||| a1) <<< ((4 : Int32) &&& 31)) ||| (1 : Int32)) s))) : X_Rs_packed scr (d + 1) s a0 a1 a2 a3 a4 a5 post := ⟨0, h⟩
set_option maxRecDepth 100000 in
theorem w_Rs_commit {scr : mSc} {d : Nat} {s : mSt} {a1 : Int32} {ex : Nat → mSt → Prop} {post : Int32 → mSt → Prop} (h : ∃ n, (((s.1 0 0 3) = 0 → ex 3 s) ∧ (¬ (s.1 0 0 3) = 0 → X_Lg_hasRoomFor scr d s ((s.1 0 0 3) + (1 : Int32)) (fun r2 s1 => ((r2 = 0 → ex 3 s1) ∧ (¬ r2 = 0 → ((a1 < 0 → (((0 : Int32) = 0 → r_Rs_commit_65 scr d a1 post ex n s1 ((s.1 0 0 3) + (1 : Int32)) (0 : Int32) (s1.1 0 0 3) (0 : Int32)) ∧ (¬ (0 : Int32) = 0 → r_Rs_commit_65 scr d a1 post ex n s1 ((s.1 0 0 3) + (1 : Int32)) (0 : Int32) a1 (0 : Int32)))) ∧ (¬ a1 < 0 → ((((s.1 0 0 3) + (1 : Int32)) ≤ a1 → (((0 : Int32) = 0 → r_Rs_commit_65 scr d a1 post ex n s1 ((s.1 0 0 3) + (1 : Int32)) (0 : Int32) (s1.1 0 0 3) (0 : Int32)) ∧ (¬ (0 : Int32) = 0 → r_Rs_commit_65 scr d a1 post ex n s1 ((s.1 0 0 3) + (1 : Int32)) (0 : Int32) a1 (0 : Int32)))) ∧ (¬ ((s.1 0 0 3) + (1 : Int32)) ≤ a1 → (((1 : Int32) = 0 → r_Rs_commit_65 scr d a1 post ex n s1 ((s.1 0 0 3) + (1 : Int32)) (1 : Int32) (s1.1 0 0 3) (0 : Int32)) ∧ (¬ (1 : Int32) = 0 → r_Rs_commit_65 scr d a1 post ex n s1 ((s.1 0 0 3) + (1 : Int32)) (1 : Int32) a1 (0 : Int32))))))))))))) : X_Rs_commit scr (d + 1) s a1 ex post := h
set_option maxRecDepth 100000 in
theorem w_Rs_commit_65 {scr : mSc} {d : Nat} {a1 : Int32} {post : Int32 → mSt → Prop} {ex : Nat → mSt → Prop} {n : Nat} {s : mSt} {v2 : Int32} {v3 : Int32} {v4 : Int32} {v5 : Int32} (h : ((v4 ≤ v5 → ((v3 = 0 → X_Lg_mark scr d s (s.1 0 0 3) (fun s3 => (∀ s4, s4 = mx_si s3 0 0 3 (0 : Int32) → ((a1 < 0 → ((v3 = 0 → post (s4.1 11 0 2) s4) ∧ (¬ v3 = 0 → post (-1 : Int32) s4))) ∧ (¬ a1 < 0 → ((v2 < a1 → ((v3 = 0 → post (s4.1 11 0 2) s4) ∧ (¬ v3 = 0 → post (-1 : Int32) s4))) ∧ (¬ v2 < a1 → X_Rs_forget scr d s4 (fun s5 => ((v3 = 0 → post (s5.1 11 0 2) s5) ∧ (¬ v3 = 0 → post (-1 : Int32) s5)))))))))) ∧ (¬ v3 = 0 → (∀ s1, s1 = mx_si s 0 0 3 (0 : Int32) → ((a1 < 0 → ((v3 = 0 → post (s1.1 11 0 2) s1) ∧ (¬ v3 = 0 → post (-1 : Int32) s1))) ∧ (¬ a1 < 0 → ((v2 < a1 → ((v3 = 0 → post (s1.1 11 0 2) s1) ∧ (¬ v3 = 0 → post (-1 : Int32) s1))) ∧ (¬ v2 < a1 → X_Rs_forget scr d s1 (fun s2 => ((v3 = 0 → post (s2.1 11 0 2) s2) ∧ (¬ v3 = 0 → post (-1 : Int32) s2))))))))))) ∧ (¬ v4 ≤ v5 → (vp_in v5 5 ∧ X_Lg_write scr d s v5 (s.1 10 0 (v5).toNatClampNeg) (fun s6 => r_Rs_commit_65 scr d a1 post ex n s6 v2 v3 v4 (v5 + (1 : Int32))))))) : r_Rs_commit_65 scr d a1 post ex (n + 1) s v2 v3 v4 v5 := h
set_option maxRecDepth 100000 in
theorem w_Rs_tuples {scr : mSc} {d : Nat} {s : mSt} {a1 : Int32} {ex : Nat → mSt → Prop} {post : Int32 → mSt → Prop} (h : X_Rs_refuseUnless scr d s (1 : Int32) a1 (fun kk s2 => (kk = 1 → ex 1 s2) ∧ (kk = 2 → ex 2 s2) ∧ (kk = 3 → ex 3 s2)) (fun s1 => X_Rs_versionOf scr d s1 a1 (fun r4 s3 => X_Vs_size scr d s3 r4 (fun r6 s5 => post r6 s5)))) : X_Rs_tuples scr (d + 1) s a1 ex post := ⟨0, h⟩
set_option maxRecDepth 100000 in
theorem w_Rs_refuseUnless {scr : mSc} {d : Nat} {s : mSt} {a1 : Int32} {a2 : Int32} {ex : Nat → mSt → Prop} {post : mSt → Prop} (h : ((a1 = 0 → ex 2 s) ∧ (¬ a1 = 0 → ((a2 < 0 → ex 2 s) ∧ (¬ a2 < 0 → ((a2 ≤ (s.1 11 0 2) → ((((s.1 11 0 2) - (s.1 0 0 0)) < a2 → post s) ∧ (¬ ((s.1 11 0 2) - (s.1 0 0 0)) < a2 → ex 3 s))) ∧ (¬ a2 ≤ (s.1 11 0 2) → ex 2 s))))))) : X_Rs_refuseUnless scr (d + 1) s a1 a2 ex post := ⟨0, h⟩
set_option maxRecDepth 100000 in
theorem w_Rs_versionOf {scr : mSc} {d : Nat} {s : mSt} {a1 : Int32} {post : Nat → mSt → Prop} (h : (¬ (8 : Int32) = 0 ∧ (vp_in (a1 - a1 / (8 : Int32) * (8 : Int32)) 8 ∧ (((s.1 14 ((a1 - a1 / (8 : Int32) * (8 : Int32))).toNatClampNeg 0) = a1 → post ((a1 - a1 / (8 : Int32) * (8 : Int32))).toNatClampNeg s) ∧ (¬ (s.1 14 ((a1 - a1 / (8 : Int32) * (8 : Int32))).toNatClampNeg 0) = a1 → X_Vs_replay scr d s ((a1 - a1 / (8 : Int32) * (8 : Int32))).toNatClampNeg a1 (fun s1 => post ((a1 - a1 / (8 : Int32) * (8 : Int32))).toNatClampNeg s1)))))) : X_Rs_versionOf scr (d + 1) s a1 post := ⟨0, h⟩
set_option maxRecDepth 100000 in
theorem w_Rs_field {scr : mSc} {d : Nat} {s : mSt} {a0 : Int32} {a1 : Int32} {post : Int32 → mSt → Prop} (h : post ((a0 >>> (((4 : Int32) * a1) &&& 31)) &&& (15 : Int32)) s) : X_Rs_field scr (d + 1) s a0 a1 post := ⟨0, h⟩
set_option maxRecDepth 100000 in
theorem w_Rs_nodeOf {scr : mSc} {d : Nat} {s : mSt} {a0 : Int32} {a1 : Int32} {post : Int32 → mSt → Prop} (h : (¬ (4 : Int32) = 0 ∧ post ((a1 * (4 : Int32)) + (a0 - a0 / (4 : Int32) * (4 : Int32))) s)) : X_Rs_nodeOf scr (d + 1) s a0 a1 post := ⟨0, h⟩
set_option maxRecDepth 100000 in
theorem w_Rs_check {scr : mSc} {d : Nat} {s : mSt} {a1 : Int32} {a2 : Int32} {a3 : Int32} {a4 : Int32} {ex : Nat → mSt → Prop} {post : Int32 → mSt → Prop} (h : X_Cf_mayAsk scr d s a2 a3 (fun r2 s1 => ((r2 = 0 → X_Rs_refuseUnless scr d s1 (0 : Int32) a1 (fun kk s4 => (kk = 1 → ex 1 s4) ∧ (kk = 2 → ex 2 s4) ∧ (kk = 3 → ex 3 s4)) (fun s3 => X_Rs_versionOf scr d s3 a1 (fun r6 s5 => X_Rs_nodeOf scr d s5 a2 a3 (fun r8 s7 => X_Vs_membersOf scr d s7 r6 r8 (fun r10 s9 => X_Rs_hasBit scr d s9 r10 a4 (fun r12 s11 => (mx_nr .boolean r12 ∧ post r12 s11))))))) ∧ (¬ r2 = 0 → X_Rs_isUser scr d s1 a4 (fun r14 s13 => ((r14 = 0 → X_Rs_refuseUnless scr d s13 (0 : Int32) a1 (fun kk s16 => (kk = 1 → ex 1 s16) ∧ (kk = 2 → ex 2 s16) ∧ (kk = 3 → ex 3 s16)) (fun s15 => X_Rs_versionOf scr d s15 a1 (fun r18 s17 => X_Rs_nodeOf scr d s17 a2 a3 (fun r20 s19 => X_Vs_membersOf scr d s19 r18 r20 (fun r22 s21 => X_Rs_hasBit scr d s21 r22 a4 (fun r24 s23 => (mx_nr .boolean r24 ∧ post r24 s23))))))) ∧ (¬ r14 = 0 → X_Rs_refuseUnless scr d s13 (1 : Int32) a1 (fun kk s26 => (kk = 1 → ex 1 s26) ∧ (kk = 2 → ex 2 s26) ∧ (kk = 3 → ex 3 s26)) (fun s25 => X_Rs_versionOf scr d s25 a1 (fun r28 s27 => X_Rs_nodeOf scr d s27 a2 a3 (fun r30 s29 => X_Vs_membersOf scr d s29 r28 r30 (fun r32 s31 => X_Rs_hasBit scr d s31 r32 a4 (fun r34 s33 => (mx_nr .boolean r34 ∧ post r34 s33))))))))))))) : X_Rs_check scr (d + 1) s a1 a2 a3 a4 ex post := ⟨0, h⟩
set_option maxRecDepth 100000 in
theorem w_Rs_expand {scr : mSc} {d : Nat} {s : mSt} {a1 : Int32} {a2 : Int32} {a3 : Int32} {ex : Nat → mSt → Prop} {post : Int32 → mSt → Prop} (h : X_Cf_mayAsk scr d s a2 a3 (fun r2 s1 => X_Rs_refuseUnless scr d s1 r2 a1 (fun kk s4 => (kk = 1 → ex 1 s4) ∧ (kk = 2 → ex 2 s4) ∧ (kk = 3 → ex 3 s4)) (fun s3 => X_Rs_versionOf scr d s3 a1 (fun r6 s5 => X_Rs_nodeOf scr d s5 a2 a3 (fun r8 s7 => X_Vs_membersOf scr d s7 r6 r8 (fun r10 s9 => post r10 s9)))))) : X_Rs_expand scr (d + 1) s a1 a2 a3 ex post := ⟨0, h⟩
set_option maxRecDepth 100000 in
theorem w_Rs_lookup {scr : mSc} {d : Nat} {s : mSt} {a1 : Int32} {a2 : Int32} {a3 : Int32} {ex : Nat → mSt → Prop} {post : Int32 → mSt → Prop} (h : ∃ n, (((s.1 1 0 2) = 0 → X_Rs_refuseUnless scr d s (0 : Int32) a1 (fun kk s2 => (kk = 1 → ex 1 s2) ∧ (kk = 2 → ex 2 s2) ∧ (kk = 3 → ex 3 s2)) (fun s1 => X_Rs_versionOf scr d s1 a1 (fun r4 s3 => r_Rs_lookup_51 scr d a1 a2 a3 post ex n s3 r4 (0 : Int32) (0 : Int32)))) ∧ (¬ (s.1 1 0 2) = 0 → X_Cf_isRelation scr d s a2 (fun r6 s5 => ((r6 = 0 → X_Rs_refuseUnless scr d s5 (0 : Int32) a1 (fun kk s8 => (kk = 1 → ex 1 s8) ∧ (kk = 2 → ex 2 s8) ∧ (kk = 3 → ex 3 s8)) (fun s7 => X_Rs_versionOf scr d s7 a1 (fun r10 s9 => r_Rs_lookup_51 scr d a1 a2 a3 post ex n s9 r10 (0 : Int32) (0 : Int32)))) ∧ (¬ r6 = 0 → X_Rs_isUser scr d s5 a3 (fun r12 s11 => ((r12 = 0 → X_Rs_refuseUnless scr d s11 (0 : Int32) a1 (fun kk s14 => (kk = 1 → ex 1 s14) ∧ (kk = 2 → ex 2 s14) ∧ (kk = 3 → ex 3 s14)) (fun s13 => X_Rs_versionOf scr d s13 a1 (fun r16 s15 => r_Rs_lookup_51 scr d a1 a2 a3 post ex n s15 r16 (0 : Int32) (0 : Int32)))) ∧ (¬ r12 = 0 → X_Rs_refuseUnless scr d s11 (1 : Int32) a1 (fun kk s18 => (kk = 1 → ex 1 s18) ∧ (kk = 2 → ex 2 s18) ∧ (kk = 3 → ex 3 s18)) (fun s17 => X_Rs_versionOf scr d s17 a1 (fun r20 s19 => r_Rs_lookup_51 scr d a1 a2 a3 post ex n s19 r20 (0 : Int32) (0 : Int32)))))))))))) : X_Rs_lookup scr (d + 1) s a1 a2 a3 ex post := h
set_option maxRecDepth 100000 in
theorem w_Rs_lookup_51 {scr : mSc} {d : Nat} {a1 : Int32} {a2 : Int32} {a3 : Int32} {post : Int32 → mSt → Prop} {ex : Nat → mSt → Prop} {n : Nat} {s : mSt} {j4 : Nat} {v5 : Int32} {v6 : Int32} (h : (((4 : Int32) ≤ v6 → post v5 s) ∧ (¬ (4 : Int32) ≤ v6 → X_Rs_nodeOf scr d s v6 a2 (fun r2 s1 => X_Vs_membersOf scr d s1 j4 r2 (fun r4 s3 => X_Rs_hasBit scr d s3 r4 a3 (fun r6 s5 => ((r6 = 0 → r_Rs_lookup_51 scr d a1 a2 a3 post ex n s5 j4 v5 (v6 + (1 : Int32))) ∧ (¬ r6 = 0 → r_Rs_lookup_51 scr d a1 a2 a3 post ex n s5 j4 (v5 ||| ((1 : Int32) <<< (v6 &&& 31))) (v6 + (1 : Int32)))))))))) : r_Rs_lookup_51 scr d a1 a2 a3 post ex (n + 1) s j4 v5 v6 := h
set_option maxRecDepth 100000 in
theorem w_Rs_nested {scr : mSc} {d : Nat} {s : mSt} {a1 : Int32} {a2 : Int32} {a3 : Int32} {a4 : Int32} {a5 : Int32} {ex : Nat → mSt → Prop} {post : Int32 → mSt → Prop} (h : X_Cf_mayAsk scr d s a2 a3 (fun r2 s1 => ((r2 = 0 → X_Rs_refuseUnless scr d s1 (0 : Int32) a1 (fun kk s4 => (kk = 1 → ex 1 s4) ∧ (kk = 2 → ex 2 s4) ∧ (kk = 3 → ex 3 s4)) (fun s3 => X_Rs_versionOf scr d s3 a1 (fun r6 s5 => X_Rs_nodeOf scr d s5 a2 a3 (fun r8 s7 => X_Rs_nodeOf scr d s7 a4 a5 (fun r10 s9 => X_Vs_leads scr d s9 r6 r8 r10 (fun r12 s11 => (mx_nr .boolean r12 ∧ post r12 s11))))))) ∧ (¬ r2 = 0 → X_Cf_mayAsk scr d s1 a4 a5 (fun r14 s13 => ((r14 = 0 → X_Rs_refuseUnless scr d s13 (0 : Int32) a1 (fun kk s16 => (kk = 1 → ex 1 s16) ∧ (kk = 2 → ex 2 s16) ∧ (kk = 3 → ex 3 s16)) (fun s15 => X_Rs_versionOf scr d s15 a1 (fun r18 s17 => X_Rs_nodeOf scr d s17 a2 a3 (fun r20 s19 => X_Rs_nodeOf scr d s19 a4 a5 (fun r22 s21 => X_Vs_leads scr d s21 r18 r20 r22 (fun r24 s23 => (mx_nr .boolean r24 ∧ post r24 s23))))))) ∧ (¬ r14 = 0 → X_Rs_refuseUnless scr d s13 (1 : Int32) a1 (fun kk s26 => (kk = 1 → ex 1 s26) ∧ (kk = 2 → ex 2 s26) ∧ (kk = 3 → ex 3 s26)) (fun s25 => X_Rs_versionOf scr d s25 a1 (fun r28 s27 => X_Rs_nodeOf scr d s27 a2 a3 (fun r30 s29 => X_Rs_nodeOf scr d s29 a4 a5 (fun r32 s31 => X_Vs_leads scr d s31 r28 r30 r32 (fun r34 s33 => (mx_nr .boolean r34 ∧ post r34 s33))))))))))))) : X_Rs_nested scr (d + 1) s a1 a2 a3 a4 a5 ex post := ⟨0, h⟩
set_option maxRecDepth 100000 in
theorem w_Rs_watch {scr : mSc} {d : Nat} {s : mSt} {a1 : Int32} {ex : Nat → mSt → Prop} {post : Int32 → mSt → Prop} (h : X_Rs_refuseUnless scr d s (1 : Int32) a1 (fun kk s2 => (kk = 1 → ex 1 s2) ∧ (kk = 2 → ex 2 s2) ∧ (kk = 3 → ex 3 s2)) (fun s1 => X_Lg_changesSince scr d s1 a1 (fun r4 s3 => post r4 s3))) : X_Rs_watch scr (d + 1) s a1 ex post := ⟨0, h⟩
set_option maxRecDepth 100000 in
theorem w_Rs_watched {scr : mSc} {d : Nat} {s : mSt} {a1 : Int32} {a2 : Int32} {a3 : Int32} {ex : Nat → mSt → Prop} {post : Int32 → mSt → Prop} (h : X_Rs_refuseUnless scr d s (1 : Int32) a1 (fun kk s2 => (kk = 1 → ex 1 s2) ∧ (kk = 2 → ex 2 s2) ∧ (kk = 3 → ex 3 s2)) (fun s1 => ((a2 < 0 → post (-1 : Int32) s1) ∧ (¬ a2 < 0 → X_Lg_changesSince scr d s1 a1 (fun r4 s3 => ((r4 ≤ a2 → post (-1 : Int32) s3) ∧ (¬ r4 ≤ a2 → ((a3 < 0 → post (-1 : Int32) s3) ∧ (¬ a3 < 0 → ((a3 ≤ (6 : Int32) → X_Lg_placeOf scr d s3 a1 a2 (fun r6 s5 => ((a3 = (6 : Int32) → X_Lg_marksBefore scr d s5 r6 (fun r10 s9 => post (r10 + (1 : Int32)) s9)) ∧ (¬ a3 = (6 : Int32) → (vp_in r6 120 ∧ X_Rs_field scr d s5 (s5.1 12 0 (r6).toNatClampNeg) a3 (fun r8 s7 => post r8 s7)))))) ∧ (¬ a3 ≤ (6 : Int32) → post (-1 : Int32) s3))))))))))) : X_Rs_watched scr (d + 1) s a1 a2 a3 ex post := ⟨0, h⟩
set_option maxRecDepth 100000 in
theorem w_Cf_add {scr : mSc} {d : Nat} {s : mSt} {a1 : Int32} {a2 : Int32} {a3 : Int32} {a4 : Int32} {post : Int32 → mSt → Prop} (h : (((s.1 1 0 2) = 0 → (((9 : Int32) ≤ (s.1 1 0 1) → post (-1 : Int32) s) ∧ (¬ (9 : Int32) ≤ (s.1 1 0 1) → ((a1 < 0 → post (-1 : Int32) s) ∧ (¬ a1 < 0 → ((a1 < (3 : Int32) → (vp_in (s.1 1 0 1) 9 ∧ (∀ s1, s1 = mx_si s 5 ((s.1 1 0 1)).toNatClampNeg 0 a1 → (narrow .boolean (.int a2) = .int a2 ∧ (∀ s2, s2 = mx_si s1 5 ((s.1 1 0 1)).toNatClampNeg 1 a2 → (∀ s3, s3 = mx_si s2 5 ((s.1 1 0 1)).toNatClampNeg 2 a3 → (∀ s4, s4 = mx_si s3 5 ((s.1 1 0 1)).toNatClampNeg 3 a4 → (∀ s5, s5 = mx_si s4 1 0 1 ((s4.1 1 0 1) + (1 : Int32)) → post ((s5.1 1 0 1) - (1 : Int32)) s5)))))))) ∧ (¬ a1 < (3 : Int32) → post (-1 : Int32) s))))))) ∧ (¬ (s.1 1 0 2) = 0 → post (-1 : Int32) s))) : X_Cf_add scr (d + 1) s a1 a2 a3 a4 post := ⟨0, h⟩
set_option maxRecDepth 100000 in
theorem w_Cf_append {scr : mSc} {d : Nat} {s : mSt} {a1 : Int32} {post : Int32 → mSt → Prop} (h : (((s.1 1 0 2) = 0 → (((s.1 1 0 1) = 0 → (mx_nr .boolean (0 : Int32) ∧ post (0 : Int32) s)) ∧ (¬ (s.1 1 0 1) = 0 → (vp_in ((s.1 1 0 1) - (1 : Int32)) 9 ∧ (((s.1 5 (((s.1 1 0 1) - (1 : Int32))).toNatClampNeg 5) < (24 : Int32) → (vp_in (s.1 5 (((s.1 1 0 1) - (1 : Int32))).toNatClampNeg 5) 24 ∧ ∀ s1, s1 = mx_si s 6 (((s.1 1 0 1) - (1 : Int32))).toNatClampNeg ((s.1 5 (((s.1 1 0 1) - (1 : Int32))).toNatClampNeg 5)).toNatClampNeg (vp_nar .char a1) → (∀ s2, s2 = mx_si s1 5 (((s.1 1 0 1) - (1 : Int32))).toNatClampNeg 5 ((s1.1 5 (((s.1 1 0 1) - (1 : Int32))).toNatClampNeg 5) + (1 : Int32)) → (mx_nr .boolean (1 : Int32) ∧ post (1 : Int32) s2)))) ∧ (¬ (s.1 5 (((s.1 1 0 1) - (1 : Int32))).toNatClampNeg 5) < (24 : Int32) → (mx_nr .boolean (0 : Int32) ∧ post (0 : Int32) s))))))) ∧ (¬ (s.1 1 0 2) = 0 → (mx_nr .boolean (0 : Int32) ∧ post (0 : Int32) s)))) : X_Cf_append scr (d + 1) s a1 post := ⟨0, h⟩
set_option maxRecDepth 100000 in
theorem w_Cf_isRule {scr : mSc} {d : Nat} {s : mSt} {a1 : Int32} {post : Int32 → mSt → Prop} (h : X_Cf_isRelation scr d s a1 (fun r2 s1 => ((r2 = 0 → (mx_nr .boolean (0 : Int32) ∧ post (0 : Int32) s1)) ∧ (¬ r2 = 0 → (vp_in a1 9 ∧ X_Rd_reads scr d s1 (s1.1 1 0 1) (a1).toNatClampNeg (fun r4 s3 => ((r4 = 0 → (mx_nr .boolean (0 : Int32) ∧ post (0 : Int32) s3)) ∧ (¬ r4 = 0 → (mx_nr .boolean (1 : Int32) ∧ post (1 : Int32) s3))))))))) : X_Cf_isRule scr (d + 1) s a1 post := ⟨0, h⟩
set_option maxRecDepth 100000 in
theorem w_Cf_isRelation {scr : mSc} {d : Nat} {s : mSt} {a1 : Int32} {post : Int32 → mSt → Prop} (h : ((a1 < 0 → (mx_nr .boolean (0 : Int32) ∧ post (0 : Int32) s)) ∧ (¬ a1 < 0 → (((s.1 1 0 1) ≤ a1 → (mx_nr .boolean (0 : Int32) ∧ post (0 : Int32) s)) ∧ (¬ (s.1 1 0 1) ≤ a1 → (mx_nr .boolean (1 : Int32) ∧ post (1 : Int32) s)))))) : X_Cf_isRelation scr (d + 1) s a1 post := ⟨0, h⟩
set_option maxRecDepth 100000 in
theorem w_Cf_allAreRules {scr : mSc} {d : Nat} {s : mSt} {post : Int32 → mSt → Prop} (h : ∃ n, r_Cf_allAreRules_2 scr d post (fun _ _ => False) n s (0 : Int32)) : X_Cf_allAreRules scr (d + 1) s post := h
set_option maxRecDepth 100000 in
theorem w_Cf_allAreRules_2 {scr : mSc} {d : Nat} {post : Int32 → mSt → Prop} {ex : Nat → mSt → Prop} {n : Nat} {s : mSt} {v1 : Int32} (h : (((s.1 1 0 1) ≤ v1 → (mx_nr .boolean (1 : Int32) ∧ post (1 : Int32) s)) ∧ (¬ (s.1 1 0 1) ≤ v1 → (vp_in v1 9 ∧ X_Rd_reads scr d s (s.1 1 0 1) (v1).toNatClampNeg (fun r2 s1 => ((r2 = 0 → (mx_nr .boolean (0 : Int32) ∧ post (0 : Int32) s1)) ∧ (¬ r2 = 0 → r_Cf_allAreRules_2 scr d post ex n s1 (v1 + (1 : Int32))))))))) : r_Cf_allAreRules_2 scr d post ex (n + 1) s v1 := h
set_option maxRecDepth 100000 in
theorem w_Cf_hasBarredRing {scr : mSc} {d : Nat} {s : mSt} {post : Int32 → mSt → Prop} (h : ∃ n, X_Cf_findReached scr d s (fun s1 => r_Cf_hasBarredRing_6 scr d post (fun _ _ => False) n s1 (0 : Int32))) : X_Cf_hasBarredRing scr (d + 1) s post := h
set_option maxRecDepth 100000 in
theorem w_Cf_hasBarredRing_6 {scr : mSc} {d : Nat} {post : Int32 → mSt → Prop} {ex : Nat → mSt → Prop} {n : Nat} {s : mSt} {v1 : Int32} (h : (((s.1 1 0 1) ≤ v1 → (mx_nr .boolean (0 : Int32) ∧ post (0 : Int32) s)) ∧ (¬ (s.1 1 0 1) ≤ v1 → r_Cf_hasBarredRing_16 scr d post ex n s v1 (0 : Int32)))) : r_Cf_hasBarredRing_6 scr d post ex (n + 1) s v1 := h
set_option maxRecDepth 100000 in
theorem w_Cf_hasBarredRing_16 {scr : mSc} {d : Nat} {post : Int32 → mSt → Prop} {ex : Nat → mSt → Prop} {n : Nat} {s : mSt} {v1 : Int32} {v2 : Int32} (h : (((s.1 1 0 1) ≤ v2 → r_Cf_hasBarredRing_6 scr d post ex n s (v1 + (1 : Int32))) ∧ (¬ (s.1 1 0 1) ≤ v2 → (vp_in v1 9 ∧ X_Rs_hasBit scr d s (s.1 5 (v1).toNatClampNeg 11) v2 (fun r2 s1 => ((r2 = 0 → r_Cf_hasBarredRing_16 scr d post ex n s1 v1 (v2 + (1 : Int32))) ∧ (¬ r2 = 0 → (vp_in v2 9 ∧ X_Rs_hasBit scr d s1 (s1.1 4 0 (v2).toNatClampNeg) v1 (fun r4 s3 => ((r4 = 0 → r_Cf_hasBarredRing_16 scr d post ex n s3 v1 (v2 + (1 : Int32))) ∧ (¬ r4 = 0 → (mx_nr .boolean (1 : Int32) ∧ post (1 : Int32) s3)))))))))))) : r_Cf_hasBarredRing_16 scr d post ex (n + 1) s v1 v2 := h
set_option maxRecDepth 100000 in
theorem w_Cf_findReached {scr : mSc} {d : Nat} {s : mSt} {post : mSt → Prop} (h : ∃ n, r_Cf_findReached_2 scr d post (fun _ _ => False) n s (0 : Int32)) : X_Cf_findReached scr (d + 1) s post := h
set_option maxRecDepth 100000 in
theorem w_Cf_findReached_2 {scr : mSc} {d : Nat} {post : mSt → Prop} {ex : Nat → mSt → Prop} {n : Nat} {s : mSt} {v1 : Int32} (h : (((s.1 1 0 1) ≤ v1 → r_Cf_findReached_33 scr d post ex n s (0 : Int32)) ∧ (¬ (s.1 1 0 1) ≤ v1 → (vp_in v1 9 ∧ (vp_in v1 9 ∧ ∀ s1, s1 = mx_si s 4 0 (v1).toNatClampNeg (s.1 5 (v1).toNatClampNeg 10) → r_Cf_findReached_2 scr d post ex n s1 (v1 + (1 : Int32))))))) : r_Cf_findReached_2 scr d post ex (n + 1) s v1 := h
set_option maxRecDepth 100000 in
theorem w_Cf_findReached_33 {scr : mSc} {d : Nat} {post : mSt → Prop} {ex : Nat → mSt → Prop} {n : Nat} {s : mSt} {v1 : Int32} (h : (((s.1 1 0 1) ≤ v1 → post s) ∧ (¬ (s.1 1 0 1) ≤ v1 → r_Cf_findReached_43 scr d post ex n s v1 (0 : Int32)))) : r_Cf_findReached_33 scr d post ex (n + 1) s v1 := h
set_option maxRecDepth 100000 in
theorem w_Cf_findReached_43 {scr : mSc} {d : Nat} {post : mSt → Prop} {ex : Nat → mSt → Prop} {n : Nat} {s : mSt} {v1 : Int32} {v2 : Int32} (h : (((s.1 1 0 1) ≤ v2 → r_Cf_findReached_33 scr d post ex n s (v1 + (1 : Int32))) ∧ (¬ (s.1 1 0 1) ≤ v2 → (vp_in v2 9 ∧ X_Rs_hasBit scr d s (s.1 4 0 (v2).toNatClampNeg) v1 (fun r2 s1 => ((r2 = 0 → r_Cf_findReached_43 scr d post ex n s1 v1 (v2 + (1 : Int32))) ∧ (¬ r2 = 0 → (vp_in v2 9 ∧ (vp_in v1 9 ∧ (vp_in v2 9 ∧ ∀ s3, s3 = mx_si s1 4 0 (v2).toNatClampNeg ((s1.1 4 0 (v2).toNatClampNeg) ||| (s1.1 4 0 (v1).toNatClampNeg)) → r_Cf_findReached_43 scr d post ex n s3 v1 (v2 + (1 : Int32)))))))))))) : r_Cf_findReached_43 scr d post ex (n + 1) s v1 v2 := h
set_option maxRecDepth 100000 in
theorem w_Cf_findLevels {scr : mSc} {d : Nat} {s : mSt} {post : mSt → Prop} (h : ∃ n, r_Cf_findLevels_2 scr d post (fun _ _ => False) n s (0 : Int32)) : X_Cf_findLevels scr (d + 1) s post := h
set_option maxRecDepth 100000 in
theorem w_Cf_findLevels_2 {scr : mSc} {d : Nat} {post : mSt → Prop} {ex : Nat → mSt → Prop} {n : Nat} {s : mSt} {v1 : Int32} (h : (((s.1 1 0 1) ≤ v1 → r_Cf_findLevels_28 scr d post ex n s (0 : Int32)) ∧ (¬ (s.1 1 0 1) ≤ v1 → (vp_in v1 9 ∧ (∀ s1, s1 = mx_si s 5 (v1).toNatClampNeg 12 (0 : Int32) → r_Cf_findLevels_2 scr d post ex n s1 (v1 + (1 : Int32))))))) : r_Cf_findLevels_2 scr d post ex (n + 1) s v1 := h
set_option maxRecDepth 100000 in
theorem w_Cf_findLevels_28 {scr : mSc} {d : Nat} {post : mSt → Prop} {ex : Nat → mSt → Prop} {n : Nat} {s : mSt} {v1 : Int32} (h : (((s.1 1 0 1) ≤ v1 → post s) ∧ (¬ (s.1 1 0 1) ≤ v1 → r_Cf_findLevels_38 scr d post ex n s v1 (0 : Int32)))) : r_Cf_findLevels_28 scr d post ex (n + 1) s v1 := h
set_option maxRecDepth 100000 in
theorem w_Cf_findLevels_38 {scr : mSc} {d : Nat} {post : mSt → Prop} {ex : Nat → mSt → Prop} {n : Nat} {s : mSt} {v1 : Int32} {v2 : Int32} (h : (((s.1 1 0 1) ≤ v2 → r_Cf_findLevels_28 scr d post ex n s (v1 + (1 : Int32))) ∧ (¬ (s.1 1 0 1) ≤ v2 → (vp_in v2 9 ∧ (vp_in v2 9 ∧ X_Cf_levelAbove scr d s (v2).toNatClampNeg (fun r2 s1 => (∀ s3, s3 = mx_si s1 5 (v2).toNatClampNeg 12 r2 → r_Cf_findLevels_38 scr d post ex n s3 v1 (v2 + (1 : Int32))))))))) : r_Cf_findLevels_38 scr d post ex (n + 1) s v1 v2 := h
set_option maxRecDepth 100000 in
theorem w_Cf_levelAbove {scr : mSc} {d : Nat} {s : mSt} {i1 : Nat} {post : Int32 → mSt → Prop} (h : ∃ n, r_Cf_levelAbove_7 scr d i1 post (fun _ _ => False) n s (s.1 5 i1 12) (0 : Int32)) : X_Cf_levelAbove scr (d + 1) s i1 post := h
set_option maxRecDepth 100000 in
theorem w_Cf_levelAbove_7 {scr : mSc} {d : Nat} {i1 : Nat} {post : Int32 → mSt → Prop} {ex : Nat → mSt → Prop} {n : Nat} {s : mSt} {v2 : Int32} {v3 : Int32} (h : (((s.1 1 0 1) ≤ v3 → post v2 s) ∧ (¬ (s.1 1 0 1) ≤ v3 → X_Rs_hasBit scr d s (s.1 5 i1 10) v3 (fun r2 s1 => ((r2 = 0 → X_Rs_hasBit scr d s1 (s1.1 5 i1 11) v3 (fun r4 s3 => ((r4 = 0 → r_Cf_levelAbove_7 scr d i1 post ex n s3 v2 (v3 + (1 : Int32))) ∧ (¬ r4 = 0 → (vp_in v3 9 ∧ X_Ma_max scr d s3 v2 ((s3.1 5 (v3).toNatClampNeg 12) + (1 : Int32)) (fun r6 s5 => r_Cf_levelAbove_7 scr d i1 post ex n s5 r6 (v3 + (1 : Int32)))))))) ∧ (¬ r2 = 0 → (vp_in v3 9 ∧ X_Ma_max scr d s1 v2 (s1.1 5 (v3).toNatClampNeg 12) (fun r8 s7 => X_Rs_hasBit scr d s7 (s7.1 5 i1 11) v3 (fun r10 s9 => ((r10 = 0 → r_Cf_levelAbove_7 scr d i1 post ex n s9 r8 (v3 + (1 : Int32))) ∧ (¬ r10 = 0 → (vp_in v3 9 ∧ X_Ma_max scr d s9 r8 ((s9.1 5 (v3).toNatClampNeg 12) + (1 : Int32)) (fun r12 s11 => r_Cf_levelAbove_7 scr d i1 post ex n s11 r12 (v3 + (1 : Int32))))))))))))))) : r_Cf_levelAbove_7 scr d i1 post ex (n + 1) s v2 v3 := h
set_option maxRecDepth 100000 in
theorem w_Cf_isTuple {scr : mSc} {d : Nat} {s : mSt} {a1 : Int32} {a2 : Int32} {a3 : Int32} {a4 : Int32} {a5 : Int32} {post : Int32 → mSt → Prop} (h : X_Cf_isNode scr d s a1 a2 (fun r2 s1 => ((r2 = 0 → (mx_nr .boolean (0 : Int32) ∧ post (0 : Int32) s1)) ∧ (¬ r2 = 0 → (vp_in a2 9 ∧ X_Cf_isListed scr d s1 (a2).toNatClampNeg a3 a4 a5 (fun r4 s3 => ((r4 = 0 → (mx_nr .boolean (0 : Int32) ∧ post (0 : Int32) s3)) ∧ (¬ r4 = 0 → (mx_nr .boolean (1 : Int32) ∧ post (1 : Int32) s3))))))))) : X_Cf_isTuple scr (d + 1) s a1 a2 a3 a4 a5 post := ⟨0, h⟩
set_option maxRecDepth 100000 in
theorem w_Cf_isNode {scr : mSc} {d : Nat} {s : mSt} {a1 : Int32} {a2 : Int32} {post : Int32 → mSt → Prop} (h : X_Rs_isObject scr d s a1 (fun r2 s1 => ((r2 = 0 → (mx_nr .boolean (0 : Int32) ∧ post (0 : Int32) s1)) ∧ (¬ r2 = 0 → X_Cf_isRelation scr d s1 a2 (fun r4 s3 => ((r4 = 0 → (mx_nr .boolean (0 : Int32) ∧ post (0 : Int32) s3)) ∧ (¬ r4 = 0 → (vp_in a2 9 ∧ (¬ (4 : Int32) = 0 ∧ (((s3.1 5 (a2).toNatClampNeg 0) = (a1 / (4 : Int32)) → (mx_nr .boolean (1 : Int32) ∧ post (1 : Int32) s3)) ∧ (¬ (s3.1 5 (a2).toNatClampNeg 0) = (a1 / (4 : Int32)) → (mx_nr .boolean (0 : Int32) ∧ post (0 : Int32) s3)))))))))))) : X_Cf_isNode scr (d + 1) s a1 a2 post := ⟨0, h⟩
set_option maxRecDepth 100000 in
theorem w_Cf_isListed {scr : mSc} {d : Nat} {s : mSt} {i1 : Nat} {a2 : Int32} {a3 : Int32} {a4 : Int32} {post : Int32 → mSt → Prop} (h : ((a2 = nI 0 → (((s.1 5 i1 1) = 0 → (mx_nr .boolean (0 : Int32) ∧ post (0 : Int32) s)) ∧ (¬ (s.1 5 i1 1) = 0 → X_Rs_isUser scr d s a3 (fun r10 s9 => ((r10 = 0 → (mx_nr .boolean (0 : Int32) ∧ post (0 : Int32) s9)) ∧ (¬ r10 = 0 → (mx_nr .boolean (1 : Int32) ∧ post (1 : Int32) s9))))))) ∧ (¬ a2 = nI 0 → ((a2 = nI 1 → X_Rs_isObject scr d s a3 (fun r6 s5 => ((r6 = 0 → (mx_nr .boolean (0 : Int32) ∧ post (0 : Int32) s5)) ∧ (¬ r6 = 0 → (¬ (4 : Int32) = 0 ∧ X_Rs_hasBit scr d s5 (s5.1 5 i1 2) (a3 / (4 : Int32)) (fun r8 s7 => ((r8 = 0 → (mx_nr .boolean (0 : Int32) ∧ post (0 : Int32) s7)) ∧ (¬ r8 = 0 → (mx_nr .boolean (1 : Int32) ∧ post (1 : Int32) s7))))))))) ∧ (¬ a2 = nI 1 → ((a2 = nI 2 → X_Cf_isNode scr d s a3 a4 (fun r2 s1 => ((r2 = 0 → (mx_nr .boolean (0 : Int32) ∧ post (0 : Int32) s1)) ∧ (¬ r2 = 0 → X_Rs_hasBit scr d s1 (s1.1 5 i1 3) a4 (fun r4 s3 => ((r4 = 0 → (mx_nr .boolean (0 : Int32) ∧ post (0 : Int32) s3)) ∧ (¬ r4 = 0 → (mx_nr .boolean (1 : Int32) ∧ post (1 : Int32) s3)))))))) ∧ (¬ a2 = nI 2 → (mx_nr .boolean (0 : Int32) ∧ post (0 : Int32) s)))))))) : X_Cf_isListed scr (d + 1) s i1 a2 a3 a4 post := ⟨0, h⟩
set_option maxRecDepth 100000 in
theorem w_Cf_mayAsk {scr : mSc} {d : Nat} {s : mSt} {a1 : Int32} {a2 : Int32} {post : Int32 → mSt → Prop} (h : (((s.1 1 0 2) = 0 → (mx_nr .boolean (0 : Int32) ∧ post (0 : Int32) s)) ∧ (¬ (s.1 1 0 2) = 0 → X_Cf_isNode scr d s a1 a2 (fun r2 s1 => ((r2 = 0 → (mx_nr .boolean (0 : Int32) ∧ post (0 : Int32) s1)) ∧ (¬ r2 = 0 → (mx_nr .boolean (1 : Int32) ∧ post (1 : Int32) s1))))))) : X_Cf_mayAsk scr (d + 1) s a1 a2 post := ⟨0, h⟩
set_option maxRecDepth 100000 in
theorem w_Rd_reads {scr : mSc} {d : Nat} {s : mSt} {a2 : Int32} {i3 : Nat} {post : Int32 → mSt → Prop} (h : (∀ s1, s1 = mx_sp s 3 0 0 0 → (∀ s2, s2 = mx_si s1 3 0 1 a2 → (∀ s3, s3 = mx_sp s2 3 0 2 i3 → (∀ s4, s4 = mx_si s3 3 0 3 (0 : Int32) → (∃ y5, s4.2.2.1 3 0 2 = some y5 ∧ y5 < 9 ∧ X_Rl_forgetRule scr d s4 y5 (fun s6 => (∃ y7, s6.2.2.1 3 0 2 = some y7 ∧ y7 < 9 ∧ (((s6.1 5 y7 5) = 0 → X_Rd_readTuples scr d s6 (0 : Int32) (fun r12 s11 => (mx_nr .boolean r12 ∧ post r12 s11))) ∧ (¬ (s6.1 5 y7 5) = 0 → X_Rd_readExpression scr d s6 (0 : Int32) (0 : Int32) (fun r9 s8 => ((r9 = 0 → (mx_nr .boolean (0 : Int32) ∧ post (0 : Int32) s8)) ∧ (¬ r9 = 0 → (∃ y10, s8.2.2.1 3 0 2 = some y10 ∧ y10 < 9 ∧ (((s8.1 3 0 3) = (s8.1 5 y10 5) → (mx_nr .boolean (1 : Int32) ∧ post (1 : Int32) s8)) ∧ (¬ (s8.1 3 0 3) = (s8.1 5 y10 5) → (mx_nr .boolean (0 : Int32) ∧ post (0 : Int32) s8))))))))))))))))) : X_Rd_reads scr (d + 1) s a2 i3 post := ⟨0, h⟩
set_option maxRecDepth 100000 in
theorem w_Rd_readTuples {scr : mSc} {d : Nat} {s : mSt} {a1 : Int32} {post : Int32 → mSt → Prop} (h : (∃ y1, s.2.2.1 3 0 2 = some y1 ∧ y1 < 9 ∧ (∃ y2, s.2.2.1 3 0 2 = some y2 ∧ y2 < 9 ∧ X_Rl_need scr d s y1 ((s.1 5 y2 3) &&& (((1 : Int32) <<< ((s.1 3 0 1) &&& 31)) - (1 : Int32))) a1 (fun s3 => (∃ y4, s3.2.2.1 3 0 2 = some y4 ∧ y4 < 9 ∧ X_Rl_addStep scr d s3 y4 (84 : Int32) (0 : Int32) (0 : Int32) (fun s5 => (mx_nr .boolean (1 : Int32) ∧ post (1 : Int32) s5))))))) : X_Rd_readTuples scr (d + 1) s a1 post := ⟨0, h⟩
set_option maxRecDepth 100000 in
theorem w_Rd_readExpression {scr : mSc} {d : Nat} {s : mSt} {a1 : Int32} {a2 : Int32} {post : Int32 → mSt → Prop} (h : ∃ n, X_Rd_readPart scr d s a1 a2 (fun r2 s1 => ((r2 = 0 → (mx_nr .boolean (0 : Int32) ∧ post (0 : Int32) s1)) ∧ (¬ r2 = 0 → r_Rd_readExpression_11 scr d a1 a2 post (fun _ _ => False) n s1)))) : X_Rd_readExpression scr (d + 1) s a1 a2 post := h
set_option maxRecDepth 100000 in
theorem w_Rd_readExpression_11 {scr : mSc} {d : Nat} {a1 : Int32} {a2 : Int32} {post : Int32 → mSt → Prop} {ex : Nat → mSt → Prop} {n : Nat} {s : mSt} (h : (∃ y1, s.2.2.1 3 0 2 = some y1 ∧ y1 < 9 ∧ (((s.1 5 y1 5) ≤ (s.1 3 0 3) → (mx_nr .boolean (1 : Int32) ∧ post (1 : Int32) s)) ∧ (¬ (s.1 5 y1 5) ≤ (s.1 3 0 3) → (∃ y2, s.2.2.1 3 0 2 = some y2 ∧ y2 < 9 ∧ (vp_in (s.1 3 0 3) 24 ∧ X_Rd_isOperator scr d s (s.1 6 y2 ((s.1 3 0 3)).toNatClampNeg) (fun r4 s3 => ((r4 = 0 → (mx_nr .boolean (1 : Int32) ∧ post (1 : Int32) s3)) ∧ (¬ r4 = 0 → (∃ y5, s3.2.2.1 3 0 2 = some y5 ∧ y5 < 9 ∧ (vp_in (s3.1 3 0 3) 24 ∧ (∀ s6, s6 = mx_si s3 3 0 3 ((s3.1 3 0 3) + (1 : Int32)) → ((a2 = 0 → (((s3.1 6 y5 ((s3.1 3 0 3)).toNatClampNeg) = (45 : Int32) → X_Rd_readPart scr d s6 a1 (1 : Int32) (fun r16 s15 => ((r16 = 0 → (mx_nr .boolean (0 : Int32) ∧ post (0 : Int32) s15)) ∧ (¬ r16 = 0 → (∃ y17, s15.2.2.1 3 0 2 = some y17 ∧ y17 < 9 ∧ X_Rl_addStep scr d s15 y17 (s3.1 6 y5 ((s3.1 3 0 3)).toNatClampNeg) (0 : Int32) (0 : Int32) (fun s18 => r_Rd_readExpression_11 scr d a1 a2 post ex n s18)))))) ∧ (¬ (s3.1 6 y5 ((s3.1 3 0 3)).toNatClampNeg) = (45 : Int32) → X_Rd_readPart scr d s6 a1 (0 : Int32) (fun r12 s11 => ((r12 = 0 → (mx_nr .boolean (0 : Int32) ∧ post (0 : Int32) s11)) ∧ (¬ r12 = 0 → (∃ y13, s11.2.2.1 3 0 2 = some y13 ∧ y13 < 9 ∧ X_Rl_addStep scr d s11 y13 (s3.1 6 y5 ((s3.1 3 0 3)).toNatClampNeg) (0 : Int32) (0 : Int32) (fun s14 => r_Rd_readExpression_11 scr d a1 a2 post ex n s14)))))))) ∧ (¬ a2 = 0 → X_Rd_readPart scr d s6 a1 (1 : Int32) (fun r8 s7 => ((r8 = 0 → (mx_nr .boolean (0 : Int32) ∧ post (0 : Int32) s7)) ∧ (¬ r8 = 0 → (∃ y9, s7.2.2.1 3 0 2 = some y9 ∧ y9 < 9 ∧ X_Rl_addStep scr d s7 y9 (s3.1 6 y5 ((s3.1 3 0 3)).toNatClampNeg) (0 : Int32) (0 : Int32) (fun s10 => r_Rd_readExpression_11 scr d a1 a2 post ex n s10))))))))))))))))))) : r_Rd_readExpression_11 scr d a1 a2 post ex (n + 1) s := h
set_option maxRecDepth 100000 in
theorem w_Rd_readPart {scr : mSc} {d : Nat} {s : mSt} {a1 : Int32} {a2 : Int32} {post : Int32 → mSt → Prop} (h : X_Rd_next scr d s (fun r2 s1 => ((r2 = (84 : Int32) → X_Rd_readTuples scr d s1 a2 (fun r12 s11 => (mx_nr .boolean r12 ∧ post r12 s11))) ∧ (¬ r2 = (84 : Int32) → ((r2 = (99 : Int32) → X_Rd_readSame scr d s1 a2 (fun r10 s9 => (mx_nr .boolean r10 ∧ post r10 s9))) ∧ (¬ r2 = (99 : Int32) → ((r2 = (102 : Int32) → X_Rd_readFrom scr d s1 a2 (fun r8 s7 => (mx_nr .boolean r8 ∧ post r8 s7))) ∧ (¬ r2 = (102 : Int32) → ((r2 = (40 : Int32) → (((5 : Int32) ≤ a1 → (mx_nr .boolean (0 : Int32) ∧ post (0 : Int32) s1)) ∧ (¬ (5 : Int32) ≤ a1 → X_Rd_readExpression scr d s1 (a1 + (1 : Int32)) a2 (fun r4 s3 => ((r4 = 0 → (mx_nr .boolean (0 : Int32) ∧ post (0 : Int32) s3)) ∧ (¬ r4 = 0 → X_Rd_next scr d s3 (fun r6 s5 => ((r6 = (41 : Int32) → (mx_nr .boolean (1 : Int32) ∧ post (1 : Int32) s5)) ∧ (¬ r6 = (41 : Int32) → (mx_nr .boolean (0 : Int32) ∧ post (0 : Int32) s5)))))))))) ∧ (¬ r2 = (40 : Int32) → (mx_nr .boolean (0 : Int32) ∧ post (0 : Int32) s1))))))))))) : X_Rd_readPart scr (d + 1) s a1 a2 post := ⟨0, h⟩
set_option maxRecDepth 100000 in
theorem w_Rd_next {scr : mSc} {d : Nat} {s : mSt} {post : Int32 → mSt → Prop} (h : (∃ y1, s.2.2.1 3 0 2 = some y1 ∧ y1 < 9 ∧ (((s.1 3 0 3) < (s.1 5 y1 5) → (∀ s2, s2 = mx_si s 3 0 3 ((s.1 3 0 3) + (1 : Int32)) → (∃ y3, s2.2.2.1 3 0 2 = some y3 ∧ y3 < 9 ∧ (vp_in ((s2.1 3 0 3) - (1 : Int32)) 24 ∧ (mx_nr .char (s2.1 6 y3 (((s2.1 3 0 3) - (1 : Int32))).toNatClampNeg) ∧ post (s2.1 6 y3 (((s2.1 3 0 3) - (1 : Int32))).toNatClampNeg) s2))))) ∧ (¬ (s.1 3 0 3) < (s.1 5 y1 5) → (mx_nr .char (32 : Int32) ∧ post (32 : Int32) s))))) : X_Rd_next scr (d + 1) s post := ⟨0, h⟩
set_option maxRecDepth 100000 in
theorem w_Rd_readSame {scr : mSc} {d : Nat} {s : mSt} {a1 : Int32} {post : Int32 → mSt → Prop} (h : X_Rd_readName scr d s (fun r2 s1 => X_Rd_isOfOwnNamespace scr d s1 r2 (fun r4 s3 => ((r4 = 0 → (mx_nr .boolean (0 : Int32) ∧ post (0 : Int32) s3)) ∧ (¬ r4 = 0 → (∃ y5, s3.2.2.1 3 0 2 = some y5 ∧ y5 < 9 ∧ X_Rl_need scr d s3 y5 ((1 : Int32) <<< (r2 &&& 31)) a1 (fun s6 => (∃ y7, s6.2.2.1 3 0 2 = some y7 ∧ y7 < 9 ∧ X_Rl_addStep scr d s6 y7 (99 : Int32) (0 : Int32) r2 (fun s8 => (mx_nr .boolean (1 : Int32) ∧ post (1 : Int32) s8)))))))))) : X_Rd_readSame scr (d + 1) s a1 post := ⟨0, h⟩
set_option maxRecDepth 100000 in
theorem w_Rd_readName {scr : mSc} {d : Nat} {s : mSt} {post : Int32 → mSt → Prop} (h : X_Rd_next scr d s (fun r2 s1 => (((r2 - (48 : Int32)) < 0 → post (-1 : Int32) s1) ∧ (¬ (r2 - (48 : Int32)) < 0 → (((s1.1 3 0 1) ≤ (r2 - (48 : Int32)) → post (-1 : Int32) s1) ∧ (¬ (s1.1 3 0 1) ≤ (r2 - (48 : Int32)) → post (r2 - (48 : Int32)) s1)))))) : X_Rd_readName scr (d + 1) s post := ⟨0, h⟩
set_option maxRecDepth 100000 in
theorem w_Rd_isOfOwnNamespace {scr : mSc} {d : Nat} {s : mSt} {a1 : Int32} {post : Int32 → mSt → Prop} (h : ((a1 < 0 → (mx_nr .boolean (0 : Int32) ∧ post (0 : Int32) s)) ∧ (¬ a1 < 0 → (∃ y1, s.2.2.1 3 0 0 = some y1 ∧ y1 < 1 ∧ (vp_in a1 9 ∧ (∃ y2, s.2.2.1 3 0 2 = some y2 ∧ y2 < 9 ∧ (((s.1 5 (a1).toNatClampNeg 0) = (s.1 5 y2 0) → (mx_nr .boolean (1 : Int32) ∧ post (1 : Int32) s)) ∧ (¬ (s.1 5 (a1).toNatClampNeg 0) = (s.1 5 y2 0) → (mx_nr .boolean (0 : Int32) ∧ post (0 : Int32) s))))))))) : X_Rd_isOfOwnNamespace scr (d + 1) s a1 post := ⟨0, h⟩
set_option maxRecDepth 100000 in
theorem w_Rd_readFrom {scr : mSc} {d : Nat} {s : mSt} {a1 : Int32} {post : Int32 → mSt → Prop} (h : X_Rd_readName scr d s (fun r2 s1 => X_Rd_readName scr d s1 (fun r4 s3 => X_Rd_isOfOwnNamespace scr d s3 r2 (fun r6 s5 => ((r6 = 0 → (mx_nr .boolean (0 : Int32) ∧ post (0 : Int32) s5)) ∧ (¬ r6 = 0 → ((0 ≤ r4 → (∃ y7, s5.2.2.1 3 0 2 = some y7 ∧ y7 < 9 ∧ X_Rl_need scr d s5 y7 (((1 : Int32) <<< (r2 &&& 31)) ||| ((1 : Int32) <<< (r4 &&& 31))) a1 (fun s8 => (∃ y9, s8.2.2.1 3 0 2 = some y9 ∧ y9 < 9 ∧ X_Rl_addStep scr d s8 y9 (102 : Int32) r2 r4 (fun s10 => (mx_nr .boolean (1 : Int32) ∧ post (1 : Int32) s10)))))) ∧ (¬ 0 ≤ r4 → (mx_nr .boolean (0 : Int32) ∧ post (0 : Int32) s5))))))))) : X_Rd_readFrom scr (d + 1) s a1 post := ⟨0, h⟩
set_option maxRecDepth 100000 in
theorem w_Rd_isOperator {scr : mSc} {d : Nat} {s : mSt} {a0 : Int32} {post : Int32 → mSt → Prop} (h : ((a0 = (38 : Int32) → (mx_nr .boolean (1 : Int32) ∧ post (1 : Int32) s)) ∧ (¬ a0 = (38 : Int32) → ((a0 = (124 : Int32) → (mx_nr .boolean (1 : Int32) ∧ post (1 : Int32) s)) ∧ (¬ a0 = (124 : Int32) → ((a0 = (45 : Int32) → (mx_nr .boolean (1 : Int32) ∧ post (1 : Int32) s)) ∧ (¬ a0 = (45 : Int32) → (mx_nr .boolean (0 : Int32) ∧ post (0 : Int32) s)))))))) : X_Rd_isOperator scr (d + 1) s a0 post := ⟨0, h⟩
set_option maxRecDepth 100000 in
theorem w_Rl_forgetRule {scr : mSc} {d : Nat} {s : mSt} {i0 : Nat} {post : mSt → Prop} (h : (∀ s1, s1 = mx_si s 5 i0 9 (0 : Int32) → (∀ s2, s2 = mx_si s1 5 i0 10 (0 : Int32) → (∀ s3, s3 = mx_si s2 5 i0 11 (0 : Int32) → post s3)))) : X_Rl_forgetRule scr (d + 1) s i0 post := ⟨0, h⟩
set_option maxRecDepth 100000 in
theorem w_Rl_need {scr : mSc} {d : Nat} {s : mSt} {i0 : Nat} {a1 : Int32} {a2 : Int32} {post : mSt → Prop} (h : (∀ s1, s1 = mx_si s 5 i0 10 ((s.1 5 i0 10) ||| a1) → ((a2 = 0 → post s1) ∧ (¬ a2 = 0 → (∀ s2, s2 = mx_si s1 5 i0 11 ((s1.1 5 i0 11) ||| a1) → post s2))))) : X_Rl_need scr (d + 1) s i0 a1 a2 post := ⟨0, h⟩
set_option maxRecDepth 100000 in
theorem w_Rl_addStep {scr : mSc} {d : Nat} {s : mSt} {i0 : Nat} {a1 : Int32} {a2 : Int32} {a3 : Int32} {post : mSt → Prop} (h : (((24 : Int32) ≤ (s.1 5 i0 9) → post s) ∧ (¬ (24 : Int32) ≤ (s.1 5 i0 9) → (vp_in (s.1 5 i0 9) 24 ∧ ∀ s1, s1 = mx_si s 7 i0 ((s.1 5 i0 9)).toNatClampNeg (vp_nar .char a1) → (vp_in (s1.1 5 i0 9) 24 ∧ ∀ s2, s2 = mx_si s1 8 i0 ((s1.1 5 i0 9)).toNatClampNeg a2 → (vp_in (s2.1 5 i0 9) 24 ∧ ∀ s3, s3 = mx_si s2 9 i0 ((s2.1 5 i0 9)).toNatClampNeg a3 → (∀ s4, s4 = mx_si s3 5 i0 9 ((s3.1 5 i0 9) + (1 : Int32)) → post s4))))))) : X_Rl_addStep scr (d + 1) s i0 a1 a2 a3 post := ⟨0, h⟩
set_option maxRecDepth 100000 in
theorem w_Lw_cell {scr : mSc} {d : Nat} {s : mSt} {a1 : Int32} {post : Int32 → mSt → Prop} (h : (scr.1 = scr.1 ∧ (((nI scr.2.1) ≤ a1 → post (0 : Int32) s) ∧ (¬ (nI scr.2.1) ≤ a1 → (scr.1 = scr.1 ∧ vp_in a1 scr.2.1 ∧ post (scr.2.2 (a1).toNatClampNeg) s))))) : X_Lw_cell scr (d + 1) s a1 post := ⟨0, h⟩
set_option maxRecDepth 100000 in
theorem w_Lw_accept {scr : mSc} {d : Nat} {s : mSt} {post : Int32 → mSt → Prop} (h : X_Rs_accept scr d s (fun kk s3 => (kk = 1 → ∀ z4 : Nat, post (1 : Int32) s3) ∧ (kk = 2 → ∀ z5 : Nat, post (2 : Int32) s3) ∧ (kk = 3 → ∀ z6 : Nat, post (3 : Int32) s3)) (fun r2 s1 => (vp_in (0 : Int32) 1 ∧ ∀ s7, s7 = mx_sl s1 38 0 ((0 : Int32)).toNatClampNeg (r2).toInt64 → post (0 : Int32) s7))) : X_Lw_accept scr (d + 1) s post := ⟨0, h⟩
set_option maxRecDepth 100000 in
theorem w_Lw_change {scr : mSc} {d : Nat} {s : mSt} {a1 : Int32} {a2 : Int32} {a3 : Int32} {a4 : Int32} {a5 : Int32} {a6 : Int32} {post : Int32 → mSt → Prop} (h : X_Rs_change scr d s a1 a2 a3 a4 a5 a6 (fun kk s3 => (kk = 1 → ∀ z4 : Nat, post (1 : Int32) s3) ∧ (kk = 2 → ∀ z5 : Nat, post (2 : Int32) s3) ∧ (kk = 3 → ∀ z6 : Nat, post (3 : Int32) s3)) (fun r2 s1 => (vp_in (0 : Int32) 1 ∧ ∀ s7, s7 = mx_sl s1 38 0 ((0 : Int32)).toNatClampNeg (r2).toInt64 → post (0 : Int32) s7))) : X_Lw_change scr (d + 1) s a1 a2 a3 a4 a5 a6 post := ⟨0, h⟩
set_option maxRecDepth 100000 in
theorem w_Lw_commit {scr : mSc} {d : Nat} {s : mSt} {a1 : Int32} {post : Int32 → mSt → Prop} (h : X_Rs_commit scr d s a1 (fun kk s3 => (kk = 1 → False) ∧ (kk = 2 → False) ∧ (kk = 3 → ∀ z4 : Nat, post (1 : Int32) s3)) (fun r2 s1 => (vp_in (0 : Int32) 1 ∧ ∀ s5, s5 = mx_sl s1 38 0 ((0 : Int32)).toNatClampNeg (r2).toInt64 → post (0 : Int32) s5))) : X_Lw_commit scr (d + 1) s a1 post := ⟨0, h⟩
set_option maxRecDepth 100000 in
theorem w_Lw_tuples {scr : mSc} {d : Nat} {s : mSt} {a1 : Int32} {post : Int32 → mSt → Prop} (h : X_Rs_tuples scr d s a1 (fun kk s3 => (kk = 1 → False) ∧ (kk = 2 → ∀ z4 : Nat, post (1 : Int32) s3) ∧ (kk = 3 → ∀ z5 : Nat, post (2 : Int32) s3)) (fun r2 s1 => (vp_in (0 : Int32) 1 ∧ ∀ s6, s6 = mx_sl s1 38 0 ((0 : Int32)).toNatClampNeg (r2).toInt64 → post (0 : Int32) s6))) : X_Lw_tuples scr (d + 1) s a1 post := ⟨0, h⟩
set_option maxRecDepth 100000 in
theorem w_Lw_check {scr : mSc} {d : Nat} {s : mSt} {a1 : Int32} {a2 : Int32} {a3 : Int32} {a4 : Int32} {post : Int32 → mSt → Prop} (h : X_Rs_check scr d s a1 a2 a3 a4 (fun kk s3 => (kk = 1 → False) ∧ (kk = 2 → ∀ z4 : Nat, post (1 : Int32) s3) ∧ (kk = 3 → ∀ z5 : Nat, post (2 : Int32) s3)) (fun r2 s1 => ((r2 = 0 → (vp_in (0 : Int32) 1 ∧ ∀ s6, s6 = mx_sl s1 38 0 ((0 : Int32)).toNatClampNeg (0 : Int64) → post (0 : Int32) s6)) ∧ (¬ r2 = 0 → (vp_in (0 : Int32) 1 ∧ ∀ s7, s7 = mx_sl s1 38 0 ((0 : Int32)).toNatClampNeg (1 : Int64) → post (0 : Int32) s7))))) : X_Lw_check scr (d + 1) s a1 a2 a3 a4 post := ⟨0, h⟩
set_option maxRecDepth 100000 in
theorem w_Lw_expand {scr : mSc} {d : Nat} {s : mSt} {a1 : Int32} {a2 : Int32} {a3 : Int32} {post : Int32 → mSt → Prop} (h : X_Rs_expand scr d s a1 a2 a3 (fun kk s3 => (kk = 1 → False) ∧ (kk = 2 → ∀ z4 : Nat, post (1 : Int32) s3) ∧ (kk = 3 → ∀ z5 : Nat, post (2 : Int32) s3)) (fun r2 s1 => (vp_in (0 : Int32) 1 ∧ ∀ s6, s6 = mx_sl s1 38 0 ((0 : Int32)).toNatClampNeg (r2).toInt64 → post (0 : Int32) s6))) : X_Lw_expand scr (d + 1) s a1 a2 a3 post := ⟨0, h⟩
set_option maxRecDepth 100000 in
theorem w_Lw_lookup {scr : mSc} {d : Nat} {s : mSt} {a1 : Int32} {a2 : Int32} {a3 : Int32} {post : Int32 → mSt → Prop} (h : X_Rs_lookup scr d s a1 a2 a3 (fun kk s3 => (kk = 1 → False) ∧ (kk = 2 → ∀ z4 : Nat, post (1 : Int32) s3) ∧ (kk = 3 → ∀ z5 : Nat, post (2 : Int32) s3)) (fun r2 s1 => (vp_in (0 : Int32) 1 ∧ ∀ s6, s6 = mx_sl s1 38 0 ((0 : Int32)).toNatClampNeg (r2).toInt64 → post (0 : Int32) s6))) : X_Lw_lookup scr (d + 1) s a1 a2 a3 post := ⟨0, h⟩
set_option maxRecDepth 100000 in
theorem w_Lw_nested {scr : mSc} {d : Nat} {s : mSt} {a1 : Int32} {a2 : Int32} {a3 : Int32} {a4 : Int32} {a5 : Int32} {post : Int32 → mSt → Prop} (h : X_Rs_nested scr d s a1 a2 a3 a4 a5 (fun kk s3 => (kk = 1 → False) ∧ (kk = 2 → ∀ z4 : Nat, post (1 : Int32) s3) ∧ (kk = 3 → ∀ z5 : Nat, post (2 : Int32) s3)) (fun r2 s1 => ((r2 = 0 → (vp_in (0 : Int32) 1 ∧ ∀ s6, s6 = mx_sl s1 38 0 ((0 : Int32)).toNatClampNeg (0 : Int64) → post (0 : Int32) s6)) ∧ (¬ r2 = 0 → (vp_in (0 : Int32) 1 ∧ ∀ s7, s7 = mx_sl s1 38 0 ((0 : Int32)).toNatClampNeg (1 : Int64) → post (0 : Int32) s7))))) : X_Lw_nested scr (d + 1) s a1 a2 a3 a4 a5 post := ⟨0, h⟩
set_option maxRecDepth 100000 in
theorem w_Lw_watch {scr : mSc} {d : Nat} {s : mSt} {a1 : Int32} {post : Int32 → mSt → Prop} (h : X_Rs_watch scr d s a1 (fun kk s3 => (kk = 1 → False) ∧ (kk = 2 → ∀ z4 : Nat, post (1 : Int32) s3) ∧ (kk = 3 → ∀ z5 : Nat, post (2 : Int32) s3)) (fun r2 s1 => (vp_in (0 : Int32) 1 ∧ ∀ s6, s6 = mx_sl s1 38 0 ((0 : Int32)).toNatClampNeg (r2).toInt64 → post (0 : Int32) s6))) : X_Lw_watch scr (d + 1) s a1 post := ⟨0, h⟩
set_option maxRecDepth 100000 in
theorem w_Lw_watched {scr : mSc} {d : Nat} {s : mSt} {a1 : Int32} {a2 : Int32} {a3 : Int32} {post : Int32 → mSt → Prop} (h : X_Rs_watched scr d s a1 a2 a3 (fun kk s3 => (kk = 1 → False) ∧ (kk = 2 → ∀ z4 : Nat, post (1 : Int32) s3) ∧ (kk = 3 → ∀ z5 : Nat, post (2 : Int32) s3)) (fun r2 s1 => (vp_in (0 : Int32) 1 ∧ ∀ s6, s6 = mx_sl s1 38 0 ((0 : Int32)).toNatClampNeg (r2).toInt64 → post (0 : Int32) s6))) : X_Lw_watched scr (d + 1) s a1 a2 a3 post := ⟨0, h⟩
set_option maxRecDepth 100000 in
theorem w_Ma_max {scr : mSc} {d : Nat} {s : mSt} {a0 : Int32} {a1 : Int32} {post : Int32 → mSt → Prop} (h : ((a0 < a1 → post a1 s) ∧ (¬ a0 < a1 → post a0 s))) : X_Ma_max scr (d + 1) s a0 a1 post := ⟨0, h⟩
set_option maxRecDepth 100000 in
theorem w_Lg_hasRoomFor {scr : mSc} {d : Nat} {s : mSt} {a1 : Int32} {post : Int32 → mSt → Prop} (h : ((((120 : Int32) - (s.1 11 0 1)) < a1 → (mx_nr .boolean (0 : Int32) ∧ post (0 : Int32) s)) ∧ (¬ ((120 : Int32) - (s.1 11 0 1)) < a1 → (mx_nr .boolean (1 : Int32) ∧ post (1 : Int32) s)))) : X_Lg_hasRoomFor scr (d + 1) s a1 post := ⟨0, h⟩
set_option maxRecDepth 100000 in
theorem w_Lg_write {scr : mSc} {d : Nat} {s : mSt} {a1 : Int32} {a2 : Int32} {post : mSt → Prop} (h : (((120 : Int32) ≤ ((s.1 11 0 1) + a1) → post s) ∧ (¬ (120 : Int32) ≤ ((s.1 11 0 1) + a1) → (vp_in ((s.1 11 0 1) + a1) 120 ∧ ∀ s1, s1 = mx_si s 12 0 (((s.1 11 0 1) + a1)).toNatClampNeg a2 → post s1)))) : X_Lg_write scr (d + 1) s a1 a2 post := ⟨0, h⟩
set_option maxRecDepth 100000 in
theorem w_Lg_mark {scr : mSc} {d : Nat} {s : mSt} {a1 : Int32} {post : mSt → Prop} (h : X_Lg_write scr d s a1 (-1 : Int32) (fun s1 => (∀ s2, s2 = mx_si s1 11 0 1 ((s1.1 11 0 1) + (a1 + (1 : Int32))) → (∀ s3, s3 = mx_si s2 11 0 2 ((s2.1 11 0 2) + (1 : Int32)) → post s3)))) : X_Lg_mark scr (d + 1) s a1 post := ⟨0, h⟩
set_option maxRecDepth 100000 in
theorem w_Lg_lengthAt {scr : mSc} {d : Nat} {s : mSt} {a1 : Int32} {post : Int32 → mSt → Prop} (h : ∃ n, r_Lg_lengthAt_4 scr d a1 post (fun _ _ => False) n s (0 : Int32) (0 : Int32)) : X_Lg_lengthAt scr (d + 1) s a1 post := h
set_option maxRecDepth 100000 in
theorem w_Lg_lengthAt_4 {scr : mSc} {d : Nat} {a1 : Int32} {post : Int32 → mSt → Prop} {ex : Nat → mSt → Prop} {n : Nat} {s : mSt} {v2 : Int32} {v3 : Int32} (h : (((s.1 11 0 1) ≤ v3 → post v3 s) ∧ (¬ (s.1 11 0 1) ≤ v3 → ((a1 ≤ v2 → post v3 s) ∧ (¬ a1 ≤ v2 → (vp_in v3 120 ∧ (((s.1 12 0 (v3).toNatClampNeg) = (-1 : Int32) → r_Lg_lengthAt_4 scr d a1 post ex n s (v2 + (1 : Int32)) (v3 + (1 : Int32))) ∧ (¬ (s.1 12 0 (v3).toNatClampNeg) = (-1 : Int32) → r_Lg_lengthAt_4 scr d a1 post ex n s v2 (v3 + (1 : Int32)))))))))) : r_Lg_lengthAt_4 scr d a1 post ex (n + 1) s v2 v3 := h
set_option maxRecDepth 100000 in
theorem w_Lg_changesSince {scr : mSc} {d : Nat} {s : mSt} {a1 : Int32} {post : Int32 → mSt → Prop} (h : X_Lg_lengthAt scr d s a1 (fun r2 s1 => post (((s.1 11 0 1) - r2) - ((s1.1 11 0 2) - a1)) s1)) : X_Lg_changesSince scr (d + 1) s a1 post := ⟨0, h⟩
set_option maxRecDepth 100000 in
theorem w_Lg_placeOf {scr : mSc} {d : Nat} {s : mSt} {a1 : Int32} {a2 : Int32} {post : Int32 → mSt → Prop} (h : ∃ n, X_Lg_lengthAt scr d s a1 (fun r2 s1 => r_Lg_placeOf_9 scr d a1 a2 post (fun _ _ => False) n s1 a2 r2)) : X_Lg_placeOf scr (d + 1) s a1 a2 post := h
set_option maxRecDepth 100000 in
theorem w_Lg_placeOf_9 {scr : mSc} {d : Nat} {a1 : Int32} {a2 : Int32} {post : Int32 → mSt → Prop} {ex : Nat → mSt → Prop} {n : Nat} {s : mSt} {v3 : Int32} {v4 : Int32} (h : ((((s.1 11 0 1) - (1 : Int32)) ≤ v4 → post v4 s) ∧ (¬ ((s.1 11 0 1) - (1 : Int32)) ≤ v4 → ((0 < v3 → (vp_in v4 120 ∧ (((s.1 12 0 (v4).toNatClampNeg) = (-1 : Int32) → r_Lg_placeOf_9 scr d a1 a2 post ex n s v3 (v4 + (1 : Int32))) ∧ (¬ (s.1 12 0 (v4).toNatClampNeg) = (-1 : Int32) → r_Lg_placeOf_9 scr d a1 a2 post ex n s (v3 + (-1 : Int32)) (v4 + (1 : Int32)))))) ∧ (¬ 0 < v3 → (vp_in v4 120 ∧ (((s.1 12 0 (v4).toNatClampNeg) = (-1 : Int32) → (vp_in v4 120 ∧ (((s.1 12 0 (v4).toNatClampNeg) = (-1 : Int32) → r_Lg_placeOf_9 scr d a1 a2 post ex n s v3 (v4 + (1 : Int32))) ∧ (¬ (s.1 12 0 (v4).toNatClampNeg) = (-1 : Int32) → r_Lg_placeOf_9 scr d a1 a2 post ex n s (v3 + (-1 : Int32)) (v4 + (1 : Int32)))))) ∧ (¬ (s.1 12 0 (v4).toNatClampNeg) = (-1 : Int32) → post v4 s)))))))) : r_Lg_placeOf_9 scr d a1 a2 post ex (n + 1) s v3 v4 := h
set_option maxRecDepth 100000 in
theorem w_Lg_marksBefore {scr : mSc} {d : Nat} {s : mSt} {a1 : Int32} {post : Int32 → mSt → Prop} (h : ∃ n, r_Lg_marksBefore_4 scr d a1 post (fun _ _ => False) n s (0 : Int32) (0 : Int32)) : X_Lg_marksBefore scr (d + 1) s a1 post := h
set_option maxRecDepth 100000 in
theorem w_Lg_marksBefore_4 {scr : mSc} {d : Nat} {a1 : Int32} {post : Int32 → mSt → Prop} {ex : Nat → mSt → Prop} {n : Nat} {s : mSt} {v2 : Int32} {v3 : Int32} (h : ((a1 ≤ v3 → post v2 s) ∧ (¬ a1 ≤ v3 → (vp_in v3 120 ∧ (((s.1 12 0 (v3).toNatClampNeg) = (-1 : Int32) → r_Lg_marksBefore_4 scr d a1 post ex n s (v2 + (1 : Int32)) (v3 + (1 : Int32))) ∧ (¬ (s.1 12 0 (v3).toNatClampNeg) = (-1 : Int32) → r_Lg_marksBefore_4 scr d a1 post ex n s v2 (v3 + (1 : Int32)))))))) : r_Lg_marksBefore_4 scr d a1 post ex (n + 1) s v2 v3 := h
set_option maxRecDepth 100000 in
theorem w_Vs_replay {scr : mSc} {d : Nat} {s : mSt} {i0 : Nat} {a2 : Int32} {post : mSt → Prop} (h : ∃ n, X_Ar_fillJJ scr d s i0 (0 : Int64) (fun s1 => X_Lg_lengthAt scr d s1 a2 (fun r3 s2 => r_Vs_replay_17 scr d i0 a2 post (fun _ _ => False) n s2 r3 (0 : Int32)))) : X_Vs_replay scr (d + 1) s i0 a2 post := h
set_option maxRecDepth 100000 in
theorem w_Vs_replay_17 {scr : mSc} {d : Nat} {i0 : Nat} {a2 : Int32} {post : mSt → Prop} {ex : Nat → mSt → Prop} {n : Nat} {s : mSt} {v3 : Int32} {v4 : Int32} (h : ((v3 ≤ v4 → (∀ s1, s1 = mx_si s 14 i0 0 a2 → (narrow .boolean (.int (0 : Int32)) = .int (0 : Int32) ∧ (∀ s2, s2 = mx_si s1 14 i0 3 (0 : Int32) → post s2)))) ∧ (¬ v3 ≤ v4 → (vp_in v4 120 ∧ (((s.1 12 0 (v4).toNatClampNeg) = (-1 : Int32) → r_Vs_replay_17 scr d i0 a2 post ex n s v3 (v4 + (1 : Int32))) ∧ (¬ (s.1 12 0 (v4).toNatClampNeg) = (-1 : Int32) → (vp_in v4 120 ∧ X_Vs_apply scr d s i0 (s.1 12 0 (v4).toNatClampNeg) (fun s3 => r_Vs_replay_17 scr d i0 a2 post ex n s3 v3 (v4 + (1 : Int32)))))))))) : r_Vs_replay_17 scr d i0 a2 post ex (n + 1) s v3 v4 := h
set_option maxRecDepth 100000 in
theorem w_Vs_apply {scr : mSc} {d : Nat} {s : mSt} {i0 : Nat} {a1 : Int32} {post : mSt → Prop} (h : X_Rs_field scr d s a1 (1 : Int32) (fun r2 s1 => X_Rs_field scr d s1 a1 (2 : Int32) (fun r4 s3 => X_Rs_nodeOf scr d s3 r2 r4 (fun r6 s5 => X_Rs_field scr d s5 a1 (3 : Int32) (fun r8 s7 => X_Rs_field scr d s7 a1 (4 : Int32) (fun r10 s9 => X_Rs_field scr d s9 a1 (5 : Int32) (fun r12 s11 => X_Vs_subjectBit scr d s11 r8 r10 r12 (fun r14 s13 => X_Rs_field scr d s13 a1 (0 : Int32) (fun r16 s15 => ((r16 = (1 : Int32) → (vp_in r6 36 ∧ (vp_in r6 36 ∧ ∀ s18, s18 = mx_sl s15 15 i0 (r6).toNatClampNeg ((s15.2.1 15 i0 (r6).toNatClampNeg) ||| ((1 : Int64) <<< ((r14).toInt64 &&& 63))) → post s18))) ∧ (¬ r16 = (1 : Int32) → (vp_in r6 36 ∧ (vp_in r6 36 ∧ ∀ s17, s17 = mx_sl s15 15 i0 (r6).toNatClampNeg ((s15.2.1 15 i0 (r6).toNatClampNeg) &&& (((1 : Int64) <<< ((r14).toInt64 &&& 63)) ^^^ (-1 : Int64))) → post s17))))))))))))) : X_Vs_apply scr (d + 1) s i0 a1 post := ⟨0, h⟩
set_option maxRecDepth 100000 in
theorem w_Vs_subjectBit {scr : mSc} {d : Nat} {s : mSt} {a0 : Int32} {a1 : Int32} {a2 : Int32} {post : Int32 → mSt → Prop} (h : ((a0 = 0 → post a1 s) ∧ (¬ a0 = 0 → ((a0 = (1 : Int32) → post ((8 : Int32) + a1) s) ∧ (¬ a0 = (1 : Int32) → X_Rs_nodeOf scr d s a1 a2 (fun r2 s1 => post ((20 : Int32) + r2) s1)))))) : X_Vs_subjectBit scr (d + 1) s a0 a1 a2 post := ⟨0, h⟩
set_option maxRecDepth 100000 in
theorem w_Vs_size {scr : mSc} {d : Nat} {s : mSt} {i0 : Nat} {post : Int32 → mSt → Prop} (h : ∃ n, r_Vs_size_4 scr d i0 post (fun _ _ => False) n s (0 : Int32) (0 : Int32)) : X_Vs_size scr (d + 1) s i0 post := h
set_option maxRecDepth 100000 in
theorem w_Vs_size_4 {scr : mSc} {d : Nat} {i0 : Nat} {post : Int32 → mSt → Prop} {ex : Nat → mSt → Prop} {n : Nat} {s : mSt} {v1 : Int32} {v2 : Int32} (h : (((36 : Int32) ≤ v2 → post v1 s) ∧ (¬ (36 : Int32) ≤ v2 → (vp_in v2 36 ∧ X_Lo_bitCount scr d s (s.2.1 15 i0 (v2).toNatClampNeg) (fun r2 s1 => r_Vs_size_4 scr d i0 post ex n s1 (v1 + r2) (v2 + (1 : Int32))))))) : r_Vs_size_4 scr d i0 post ex (n + 1) s v1 v2 := h
set_option maxRecDepth 100000 in
theorem w_Vs_membersOf {scr : mSc} {d : Nat} {s : mSt} {i0 : Nat} {a1 : Int32} {post : Int32 → mSt → Prop} (h : ∃ n, (((s.1 14 i0 3) = 0 → X_Ar_fillII scr d s i0 (0 : Int32) (fun s1 => r_Vs_membersOf_17 scr d i0 a1 post (fun _ _ => False) n s1 (0 : Int32))) ∧ (¬ (s.1 14 i0 3) = 0 → (vp_in a1 36 ∧ post (s.1 16 i0 (a1).toNatClampNeg) s)))) : X_Vs_membersOf scr (d + 1) s i0 a1 post := h
set_option maxRecDepth 100000 in
theorem w_Vs_membersOf_17 {scr : mSc} {d : Nat} {i0 : Nat} {a1 : Int32} {post : Int32 → mSt → Prop} {ex : Nat → mSt → Prop} {n : Nat} {s : mSt} {v3 : Int32} (h : (((s.1 1 0 1) ≤ v3 → (narrow .boolean (.int (1 : Int32)) = .int (1 : Int32) ∧ (∀ s1, s1 = mx_si s 14 i0 3 (1 : Int32) → (vp_in a1 36 ∧ post (s1.1 16 i0 (a1).toNatClampNeg) s1)))) ∧ (¬ (s.1 1 0 1) ≤ v3 → X_Vs_settle scr d s i0 v3 (fun s2 => r_Vs_membersOf_17 scr d i0 a1 post ex n s2 (v3 + (1 : Int32)))))) : r_Vs_membersOf_17 scr d i0 a1 post ex (n + 1) s v3 := h
set_option maxRecDepth 100000 in
theorem w_Vs_settle {scr : mSc} {d : Nat} {s : mSt} {i0 : Nat} {a2 : Int32} {post : mSt → Prop} (h : ∃ n, r_Vs_settle_5 scr d i0 a2 post (fun _ _ => False) n s (1 : Int32) (0 : Int32)) : X_Vs_settle scr (d + 1) s i0 a2 post := h
set_option maxRecDepth 100000 in
theorem w_Vs_settle_5 {scr : mSc} {d : Nat} {i0 : Nat} {a2 : Int32} {post : mSt → Prop} {ex : Nat → mSt → Prop} {n : Nat} {s : mSt} {v3 : Int32} {v4 : Int32} (h : ((v3 = 0 → post s) ∧ (¬ v3 = 0 → (((288 : Int32) < v4 → post s) ∧ (¬ (288 : Int32) < v4 → r_Vs_settle_22 scr d i0 a2 post ex n s (0 : Int32) v4 (0 : Int32)))))) : r_Vs_settle_5 scr d i0 a2 post ex (n + 1) s v3 v4 := h
set_option maxRecDepth 100000 in
theorem w_Vs_settle_22 {scr : mSc} {d : Nat} {i0 : Nat} {a2 : Int32} {post : mSt → Prop} {ex : Nat → mSt → Prop} {n : Nat} {s : mSt} {v3 : Int32} {v4 : Int32} {v5 : Int32} (h : (((s.1 1 0 1) ≤ v5 → r_Vs_settle_5 scr d i0 a2 post ex n s v3 (v4 + (1 : Int32))) ∧ (¬ (s.1 1 0 1) ≤ v5 → (vp_in v5 9 ∧ (((s.1 5 (v5).toNatClampNeg 12) = a2 → X_Vs_grow scr d s i0 v5 (fun r2 s1 => ((r2 = 0 → r_Vs_settle_22 scr d i0 a2 post ex n s1 v3 v4 (v5 + (1 : Int32))) ∧ (¬ r2 = 0 → r_Vs_settle_22 scr d i0 a2 post ex n s1 (1 : Int32) v4 (v5 + (1 : Int32)))))) ∧ (¬ (s.1 5 (v5).toNatClampNeg 12) = a2 → r_Vs_settle_22 scr d i0 a2 post ex n s v3 v4 (v5 + (1 : Int32)))))))) : r_Vs_settle_22 scr d i0 a2 post ex (n + 1) s v3 v4 v5 := h
set_option maxRecDepth 100000 in
theorem w_Vs_grow {scr : mSc} {d : Nat} {s : mSt} {i0 : Nat} {a2 : Int32} {post : Int32 → mSt → Prop} (h : ∃ n, r_Vs_grow_5 scr d i0 a2 post (fun _ _ => False) n s (0 : Int32) (0 : Int32)) : X_Vs_grow scr (d + 1) s i0 a2 post := h
set_option maxRecDepth 100000 in
theorem w_Vs_grow_5 {scr : mSc} {d : Nat} {i0 : Nat} {a2 : Int32} {post : Int32 → mSt → Prop} {ex : Nat → mSt → Prop} {n : Nat} {s : mSt} {v3 : Int32} {v4 : Int32} (h : (((4 : Int32) ≤ v4 → (mx_nr .boolean v3 ∧ post v3 s)) ∧ (¬ (4 : Int32) ≤ v4 → X_Rs_nodeOf scr d s v4 a2 (fun r2 s1 => X_Vs_workOut scr d s1 i0 a2 v4 (fun r4 s3 => (vp_in r2 36 ∧ ((r4 = (s3.1 16 i0 (r2).toNatClampNeg) → r_Vs_grow_5 scr d i0 a2 post ex n s3 v3 (v4 + (1 : Int32))) ∧ (¬ r4 = (s3.1 16 i0 (r2).toNatClampNeg) → (vp_in r2 36 ∧ ∀ s5, s5 = mx_si s3 16 i0 (r2).toNatClampNeg r4 → r_Vs_grow_5 scr d i0 a2 post ex n s5 (1 : Int32) (v4 + (1 : Int32))))))))))) : r_Vs_grow_5 scr d i0 a2 post ex (n + 1) s v3 v4 := h
set_option maxRecDepth 100000 in
theorem w_Vs_workOut {scr : mSc} {d : Nat} {s : mSt} {i0 : Nat} {a2 : Int32} {a3 : Int32} {post : Int32 → mSt → Prop} (h : ∃ n, (vp_in a2 9 ∧ r_Vs_workOut_11 scr d i0 a2 a3 post (fun _ _ => False) n s (a2).toNatClampNeg (0 : Int32) (0 : Int32))) : X_Vs_workOut scr (d + 1) s i0 a2 a3 post := h
set_option maxRecDepth 100000 in
theorem w_Vs_workOut_11 {scr : mSc} {d : Nat} {i0 : Nat} {a2 : Int32} {a3 : Int32} {post : Int32 → mSt → Prop} {ex : Nat → mSt → Prop} {n : Nat} {s : mSt} {j4 : Nat} {v5 : Int32} {v6 : Int32} (h : (((s.1 5 j4 9) ≤ v6 → (vp_in (0 : Int32) 24 ∧ post (s.1 17 i0 ((0 : Int32)).toNatClampNeg) s)) ∧ (¬ (s.1 5 j4 9) ≤ v6 → (vp_in v6 24 ∧ (vp_in v6 24 ∧ (((s.1 7 j4 (v6).toNatClampNeg) = (84 : Int32) → X_Rs_nodeOf scr d s a3 a2 (fun r13 s12 => X_Vs_tupleMembers scr d s12 i0 r13 (fun r15 s14 => (vp_in v5 24 ∧ ∀ s16, s16 = mx_si s14 17 i0 (v5).toNatClampNeg r15 → r_Vs_workOut_11 scr d i0 a2 a3 post ex n s16 j4 (v5 + (1 : Int32)) (v6 + (1 : Int32)))))) ∧ (¬ (s.1 7 j4 (v6).toNatClampNeg) = (84 : Int32) → (((s.1 7 j4 (v6).toNatClampNeg) = (99 : Int32) → X_Rs_nodeOf scr d s a3 (s.1 9 j4 (v6).toNatClampNeg) (fun r10 s9 => (vp_in r10 36 ∧ (vp_in v5 24 ∧ ∀ s11, s11 = mx_si s9 17 i0 (v5).toNatClampNeg (s9.1 16 i0 (r10).toNatClampNeg) → r_Vs_workOut_11 scr d i0 a2 a3 post ex n s11 j4 (v5 + (1 : Int32)) (v6 + (1 : Int32)))))) ∧ (¬ (s.1 7 j4 (v6).toNatClampNeg) = (99 : Int32) → (((s.1 7 j4 (v6).toNatClampNeg) = (102 : Int32) → (vp_in v6 24 ∧ X_Rs_nodeOf scr d s a3 (s.1 8 j4 (v6).toNatClampNeg) (fun r5 s4 => (vp_in (s.1 9 j4 (v6).toNatClampNeg) 9 ∧ X_Vs_objectMembers scr d s4 i0 r5 (s.1 9 j4 (v6).toNatClampNeg) (s4.1 5 ((s.1 9 j4 (v6).toNatClampNeg)).toNatClampNeg 0) (fun r7 s6 => (vp_in v5 24 ∧ ∀ s8, s8 = mx_si s6 17 i0 (v5).toNatClampNeg r7 → r_Vs_workOut_11 scr d i0 a2 a3 post ex n s8 j4 (v5 + (1 : Int32)) (v6 + (1 : Int32)))))))) ∧ (¬ (s.1 7 j4 (v6).toNatClampNeg) = (102 : Int32) → ((v5 ≤ (1 : Int32) → r_Vs_workOut_11 scr d i0 a2 a3 post ex n s j4 v5 (v6 + (1 : Int32))) ∧ (¬ v5 ≤ (1 : Int32) → (vp_in ((v5 + (-1 : Int32)) - (1 : Int32)) 24 ∧ (vp_in (v5 + (-1 : Int32)) 24 ∧ X_Vs_joined scr d s (s.1 7 j4 (v6).toNatClampNeg) (s.1 17 i0 (((v5 + (-1 : Int32)) - (1 : Int32))).toNatClampNeg) (s.1 17 i0 ((v5 + (-1 : Int32))).toNatClampNeg) (fun r2 s1 => (vp_in ((v5 + (-1 : Int32)) - (1 : Int32)) 24 ∧ ∀ s3, s3 = mx_si s1 17 i0 (((v5 + (-1 : Int32)) - (1 : Int32))).toNatClampNeg r2 → r_Vs_workOut_11 scr d i0 a2 a3 post ex n s3 j4 (v5 + (-1 : Int32)) (v6 + (1 : Int32))))))))))))))))))) : r_Vs_workOut_11 scr d i0 a2 a3 post ex (n + 1) s j4 v5 v6 := h
set_option maxRecDepth 100000 in
theorem w_Vs_tupleMembers {scr : mSc} {d : Nat} {s : mSt} {i0 : Nat} {a1 : Int32} {post : Int32 → mSt → Prop} (h : ∃ n, (vp_in a1 36 ∧ (vp_in a1 36 ∧ r_Vs_tupleMembers_25 scr d i0 a1 post (fun _ _ => False) n s (((s.2.1 15 i0 (a1).toNatClampNeg)).toInt32 &&& (255 : Int32)) (((s.2.1 15 i0 (a1).toNatClampNeg)).toUInt64 >>> (((20 : Int32)).toInt64.toUInt64 &&& Int64.toUInt64 63)).toInt64 (0 : Int32)))) : X_Vs_tupleMembers scr (d + 1) s i0 a1 post := h
set_option maxRecDepth 100000 in
theorem w_Vs_tupleMembers_25 {scr : mSc} {d : Nat} {i0 : Nat} {a1 : Int32} {post : Int32 → mSt → Prop} {ex : Nat → mSt → Prop} {n : Nat} {s : mSt} {v2 : Int32} {w3 : Int64} {v5 : Int32} (h : (((36 : Int32) ≤ v5 → post v2 s) ∧ (¬ (36 : Int32) ≤ v5 → (((lg_cmp w3 (0 : Int64)) = 0 → post v2 s) ∧ (¬ (lg_cmp w3 (0 : Int64)) = 0 → (((lg_cmp (w3 &&& (1 : Int64)) (0 : Int64)) = 0 → r_Vs_tupleMembers_25 scr d i0 a1 post ex n s v2 ((w3).toUInt64 >>> (((1 : Int32)).toInt64.toUInt64 &&& Int64.toUInt64 63)).toInt64 (v5 + (1 : Int32))) ∧ (¬ (lg_cmp (w3 &&& (1 : Int64)) (0 : Int64)) = 0 → (vp_in v5 36 ∧ r_Vs_tupleMembers_25 scr d i0 a1 post ex n s (v2 ||| (s.1 16 i0 (v5).toNatClampNeg)) ((w3).toUInt64 >>> (((1 : Int32)).toInt64.toUInt64 &&& Int64.toUInt64 63)).toInt64 (v5 + (1 : Int32)))))))))) : r_Vs_tupleMembers_25 scr d i0 a1 post ex (n + 1) s v2 w3 v5 := h
set_option maxRecDepth 100000 in
theorem w_Vs_objectMembers {scr : mSc} {d : Nat} {s : mSt} {i0 : Nat} {a1 : Int32} {a2 : Int32} {a3 : Int32} {post : Int32 → mSt → Prop} (h : ∃ n, r_Vs_objectMembers_12 scr d i0 a1 a2 a3 post (fun _ _ => False) n s (a3 * (4 : Int32)) (0 : Int32) (a3 * (4 : Int32))) : X_Vs_objectMembers scr (d + 1) s i0 a1 a2 a3 post := h
set_option maxRecDepth 100000 in
theorem w_Vs_objectMembers_12 {scr : mSc} {d : Nat} {i0 : Nat} {a1 : Int32} {a2 : Int32} {a3 : Int32} {post : Int32 → mSt → Prop} {ex : Nat → mSt → Prop} {n : Nat} {s : mSt} {v4 : Int32} {v5 : Int32} {v6 : Int32} (h : (((v4 + (4 : Int32)) ≤ v6 → post v5 s) ∧ (¬ (v4 + (4 : Int32)) ≤ v6 → (vp_in a1 36 ∧ (((lg_cmp ((((s.2.1 15 i0 (a1).toNatClampNeg)).toUInt64 >>> ((((8 : Int32) + v6)).toInt64.toUInt64 &&& Int64.toUInt64 63)).toInt64 &&& (1 : Int64)) (0 : Int64)) = 0 → r_Vs_objectMembers_12 scr d i0 a1 a2 a3 post ex n s v4 v5 (v6 + (1 : Int32))) ∧ (¬ (lg_cmp ((((s.2.1 15 i0 (a1).toNatClampNeg)).toUInt64 >>> ((((8 : Int32) + v6)).toInt64.toUInt64 &&& Int64.toUInt64 63)).toInt64 &&& (1 : Int64)) (0 : Int64)) = 0 → X_Rs_nodeOf scr d s v6 a2 (fun r2 s1 => (vp_in r2 36 ∧ r_Vs_objectMembers_12 scr d i0 a1 a2 a3 post ex n s1 v4 (v5 ||| (s1.1 16 i0 (r2).toNatClampNeg)) (v6 + (1 : Int32)))))))))) : r_Vs_objectMembers_12 scr d i0 a1 a2 a3 post ex (n + 1) s v4 v5 v6 := h
set_option maxRecDepth 100000 in
theorem w_Vs_joined {scr : mSc} {d : Nat} {s : mSt} {a0 : Int32} {a1 : Int32} {a2 : Int32} {post : Int32 → mSt → Prop} (h : ((a0 = (38 : Int32) → post (a1 &&& a2) s) ∧ (¬ a0 = (38 : Int32) → ((a0 = (124 : Int32) → post (a1 ||| a2) s) ∧ (¬ a0 = (124 : Int32) → post (a1 &&& (a2 ^^^ (-1 : Int32))) s))))) : X_Vs_joined scr (d + 1) s a0 a1 a2 post := ⟨0, h⟩
set_option maxRecDepth 100000 in
theorem w_Vs_leads {scr : mSc} {d : Nat} {s : mSt} {i0 : Nat} {a1 : Int32} {a2 : Int32} {post : Int32 → mSt → Prop} (h : ∃ n, (vp_in a1 36 ∧ r_Vs_leads_16 scr d i0 a1 a2 post (fun _ _ => False) n s (0 : Int64) (((s.2.1 15 i0 (a1).toNatClampNeg)).toUInt64 >>> (((20 : Int32)).toInt64.toUInt64 &&& Int64.toUInt64 63)).toInt64 (0 : Int32))) : X_Vs_leads scr (d + 1) s i0 a1 a2 post := h
set_option maxRecDepth 100000 in
theorem w_Vs_leads_16 {scr : mSc} {d : Nat} {i0 : Nat} {a1 : Int32} {a2 : Int32} {post : Int32 → mSt → Prop} {ex : Nat → mSt → Prop} {n : Nat} {s : mSt} {w3 : Int64} {w5 : Int64} {v7 : Int32} (h : (((36 : Int32) ≤ v7 → (((lg_cmp (((w5).toUInt64 >>> ((a2).toInt64.toUInt64 &&& Int64.toUInt64 63)).toInt64 &&& (1 : Int64)) (0 : Int64)) = 0 → (mx_nr .boolean (0 : Int32) ∧ post (0 : Int32) s)) ∧ (¬ (lg_cmp (((w5).toUInt64 >>> ((a2).toInt64.toUInt64 &&& Int64.toUInt64 63)).toInt64 &&& (1 : Int64)) (0 : Int64)) = 0 → (mx_nr .boolean (1 : Int32) ∧ post (1 : Int32) s)))) ∧ (¬ (36 : Int32) ≤ v7 → (((lg_cmp w5 w3) = 0 → (((lg_cmp (((w5).toUInt64 >>> ((a2).toInt64.toUInt64 &&& Int64.toUInt64 63)).toInt64 &&& (1 : Int64)) (0 : Int64)) = 0 → (mx_nr .boolean (0 : Int32) ∧ post (0 : Int32) s)) ∧ (¬ (lg_cmp (((w5).toUInt64 >>> ((a2).toInt64.toUInt64 &&& Int64.toUInt64 63)).toInt64 &&& (1 : Int64)) (0 : Int64)) = 0 → (mx_nr .boolean (1 : Int32) ∧ post (1 : Int32) s)))) ∧ (¬ (lg_cmp w5 w3) = 0 → r_Vs_leads_36 scr d i0 a1 a2 post ex n s w5 w5 v7 (0 : Int32)))))) : r_Vs_leads_16 scr d i0 a1 a2 post ex (n + 1) s w3 w5 v7 := h
set_option maxRecDepth 100000 in
theorem w_Vs_leads_36 {scr : mSc} {d : Nat} {i0 : Nat} {a1 : Int32} {a2 : Int32} {post : Int32 → mSt → Prop} {ex : Nat → mSt → Prop} {n : Nat} {s : mSt} {w3 : Int64} {w5 : Int64} {v7 : Int32} {v8 : Int32} (h : (((36 : Int32) ≤ v8 → r_Vs_leads_16 scr d i0 a1 a2 post ex n s w3 w5 (v7 + (1 : Int32))) ∧ (¬ (36 : Int32) ≤ v8 → (((lg_cmp (((w3).toUInt64 >>> ((v8).toInt64.toUInt64 &&& Int64.toUInt64 63)).toInt64 &&& (1 : Int64)) (0 : Int64)) = 0 → r_Vs_leads_36 scr d i0 a1 a2 post ex n s w3 w5 v7 (v8 + (1 : Int32))) ∧ (¬ (lg_cmp (((w3).toUInt64 >>> ((v8).toInt64.toUInt64 &&& Int64.toUInt64 63)).toInt64 &&& (1 : Int64)) (0 : Int64)) = 0 → (vp_in v8 36 ∧ r_Vs_leads_36 scr d i0 a1 a2 post ex n s w3 (w5 ||| (((s.2.1 15 i0 (v8).toNatClampNeg)).toUInt64 >>> (((20 : Int32)).toInt64.toUInt64 &&& Int64.toUInt64 63)).toInt64) v7 (v8 + (1 : Int32)))))))) : r_Vs_leads_36 scr d i0 a1 a2 post ex (n + 1) s w3 w5 v7 v8 := h
set_option maxRecDepth 100000 in
theorem w_Ar_fillJJ {scr : mSc} {d : Nat} {s : mSt} {i0 : Nat} {b1 : Int64} {post : mSt → Prop} (h : ∃ n, r_Ar_fillJJ_6 scr d i0 b1 post (fun _ _ => False) n s (0 : Int32) (nI 36)) : X_Ar_fillJJ scr (d + 1) s i0 b1 post := h
set_option maxRecDepth 100000 in
theorem w_Ar_fillJJ_6 {scr : mSc} {d : Nat} {i0 : Nat} {b1 : Int64} {post : mSt → Prop} {ex : Nat → mSt → Prop} {n : Nat} {s : mSt} {v3 : Int32} {v4 : Int32} (h : ((v4 ≤ v3 → post s) ∧ (¬ v4 ≤ v3 → (vp_in v3 36 ∧ ∀ s1, s1 = mx_sl s 15 i0 (v3).toNatClampNeg b1 → r_Ar_fillJJ_6 scr d i0 b1 post ex n s1 (v3 + (1 : Int32)) v4)))) : r_Ar_fillJJ_6 scr d i0 b1 post ex (n + 1) s v3 v4 := h
set_option maxRecDepth 100000 in
theorem w_Ar_fillII {scr : mSc} {d : Nat} {s : mSt} {i0 : Nat} {a1 : Int32} {post : mSt → Prop} (h : ∃ n, r_Ar_fillII_5 scr d i0 a1 post (fun _ _ => False) n s (0 : Int32) (nI 36)) : X_Ar_fillII scr (d + 1) s i0 a1 post := h
set_option maxRecDepth 100000 in
theorem w_Ar_fillII_5 {scr : mSc} {d : Nat} {i0 : Nat} {a1 : Int32} {post : mSt → Prop} {ex : Nat → mSt → Prop} {n : Nat} {s : mSt} {v2 : Int32} {v3 : Int32} (h : ((v3 ≤ v2 → post s) ∧ (¬ v3 ≤ v2 → (vp_in v2 36 ∧ ∀ s1, s1 = mx_si s 16 i0 (v2).toNatClampNeg a1 → r_Ar_fillII_5 scr d i0 a1 post ex n s1 (v2 + (1 : Int32)) v3)))) : r_Ar_fillII_5 scr d i0 a1 post ex (n + 1) s v2 v3 := h
set_option maxRecDepth 100000 in
theorem w_Lo_bitCount {scr : mSc} {d : Nat} {s : mSt} {b0 : Int64} {post : Int32 → mSt → Prop} (h : post ((((((((((b0 - (((b0).toUInt64 >>> (((1 : Int32)).toInt64.toUInt64 &&& Int64.toUInt64 63)).toInt64 &&& (6148914691236517205 : Int64))) &&& (3689348814741910323 : Int64)) + ((((b0 - (((b0).toUInt64 >>> (((1 : Int32)).toInt64.toUInt64 &&& Int64.toUInt64 63)).toInt64 &&& (6148914691236517205 : Int64)))).toUInt64 >>> (((2 : Int32)).toInt64.toUInt64 &&& Int64.toUInt64 63)).toInt64 &&& (3689348814741910323 : Int64))) + (((((b0 - (((b0).toUInt64 >>> (((1 : Int32)).toInt64.toUInt64 &&& Int64.toUInt64 63)).toInt64 &&& (6148914691236517205 : Int64))) &&& (3689348814741910323 : Int64)) + ((((b0 - (((b0).toUInt64 >>> (((1 : Int32)).toInt64.toUInt64 &&& Int64.toUInt64 63)).toInt64 &&& (6148914691236517205 : Int64)))).toUInt64 >>> (((2 : Int32)).toInt64.toUInt64 &&& Int64.toUInt64 63)).toInt64 &&& (3689348814741910323 : Int64)))).toUInt64 >>> (((4 : Int32)).toInt64.toUInt64 &&& Int64.toUInt64 63)).toInt64) &&& (1085102592571150095 : Int64)) + (((((((b0 - (((b0).toUInt64 >>> (((1 : Int32)).toInt64.toUInt64 &&& Int64.toUInt64 63)).toInt64 &&& (6148914691236517205 : Int64))) &&& (3689348814741910323 : Int64)) + ((((b0 - (((b0).toUInt64 >>> (((1 : Int32)).toInt64.toUInt64 &&& Int64.toUInt64 63)).toInt64 &&& (6148914691236517205 : Int64)))).toUInt64 >>> (((2 : Int32)).toInt64.toUInt64 &&& Int64.toUInt64 63)).toInt64 &&& (3689348814741910323 : Int64))) + (((((b0 - (((b0).toUInt64 >>> (((1 : Int32)).toInt64.toUInt64 &&& Int64.toUInt64 63)).toInt64 &&& (6148914691236517205 : Int64))) &&& (3689348814741910323 : Int64)) + ((((b0 - (((b0).toUInt64 >>> (((1 : Int32)).toInt64.toUInt64 &&& Int64.toUInt64 63)).toInt64 &&& (6148914691236517205 : Int64)))).toUInt64 >>> (((2 : Int32)).toInt64.toUInt64 &&& Int64.toUInt64 63)).toInt64 &&& (3689348814741910323 : Int64)))).toUInt64 >>> (((4 : Int32)).toInt64.toUInt64 &&& Int64.toUInt64 63)).toInt64) &&& (1085102592571150095 : Int64))).toUInt64 >>> (((8 : Int32)).toInt64.toUInt64 &&& Int64.toUInt64 63)).toInt64) + ((((((((b0 - (((b0).toUInt64 >>> (((1 : Int32)).toInt64.toUInt64 &&& Int64.toUInt64 63)).toInt64 &&& (6148914691236517205 : Int64))) &&& (3689348814741910323 : Int64)) + ((((b0 - (((b0).toUInt64 >>> (((1 : Int32)).toInt64.toUInt64 &&& Int64.toUInt64 63)).toInt64 &&& (6148914691236517205 : Int64)))).toUInt64 >>> (((2 : Int32)).toInt64.toUInt64 &&& Int64.toUInt64 63)).toInt64 &&& (3689348814741910323 : Int64))) + (((((b0 - (((b0).toUInt64 >>> (((1 : Int32)).toInt64.toUInt64 &&& Int64.toUInt64 63)).toInt64 &&& (6148914691236517205 : Int64))) &&& (3689348814741910323 : Int64)) + ((((b0 - (((b0).toUInt64 >>> (((1 : Int32)).toInt64.toUInt64 &&& Int64.toUInt64 63)).toInt64 &&& (6148914691236517205 : Int64)))).toUInt64 >>> (((2 : Int32)).toInt64.toUInt64 &&& Int64.toUInt64 63)).toInt64 &&& (3689348814741910323 : Int64)))).toUInt64 >>> (((4 : Int32)).toInt64.toUInt64 &&& Int64.toUInt64 63)).toInt64) &&& (1085102592571150095 : Int64)) + (((((((b0 - (((b0).toUInt64 >>> (((1 : Int32)).toInt64.toUInt64 &&& Int64.toUInt64 63)).toInt64 &&& (6148914691236517205 : Int64))) &&& (3689348814741910323 : Int64)) + ((((b0 - (((b0).toUInt64 >>> (((1 : Int32)).toInt64.toUInt64 &&& Int64.toUInt64 63)).toInt64 &&& (6148914691236517205 : Int64)))).toUInt64 >>> (((2 : Int32)).toInt64.toUInt64 &&& Int64.toUInt64 63)).toInt64 &&& (3689348814741910323 : Int64))) + (((((b0 - (((b0).toUInt64 >>> (((1 : Int32)).toInt64.toUInt64 &&& Int64.toUInt64 63)).toInt64 &&& (6148914691236517205 : Int64))) &&& (3689348814741910323 : Int64)) + ((((b0 - (((b0).toUInt64 >>> (((1 : Int32)).toInt64.toUInt64 &&& Int64.toUInt64 63)).toInt64 &&& (6148914691236517205 : Int64)))).toUInt64 >>> (((2 : Int32)).toInt64.toUInt64 &&& Int64.toUInt64 63)).toInt64 &&& (3689348814741910323 : Int64)))).toUInt64 >>> (((4 : Int32)).toInt64.toUInt64 &&& Int64.toUInt64 63)).toInt64) &&& (1085102592571150095 : Int64))).toUInt64 >>> (((8 : Int32)).toInt64.toUInt64 &&& Int64.toUInt64 63)).toInt64)).toUInt64 >>> (((16 : Int32)).toInt64.toUInt64 &&& Int64.toUInt64 63)).toInt64) + (((((((((b0 - (((b0).toUInt64 >>> (((1 : Int32)).toInt64.toUInt64 &&& Int64.toUInt64 63)).toInt64 &&& (6148914691236517205 : Int64))) &&& (3689348814741910323 : Int64)) + ((((b0 - (((b0).toUInt64 >>> (((1 : Int32)).toInt64.toUInt64 &&& Int64.toUInt64 63)).toInt64 &&& (6148914691236517205 : Int64)))).toUInt64 >>> (((2 : Int32)).toInt64.toUInt64 &&& Int64.toUInt64 63)).toInt64 &&& (3689348814741910323 : Int64))) + (((((b0 - (((b0).toUInt64 >>> (((1 : Int32)).toInt64.toUInt64 &&& Int64.toUInt64 63)).toInt64 &&& (6148914691236517205 : Int64))) &&& (3689348814741910323 : Int64)) + ((((b0 - (((b0).toUInt64 >>> (((1 : Int32)).toInt64.toUInt64 &&& Int64.toUInt64 63)).toInt64 &&& (6148914691236517205 : Int64)))).toUInt64 >>> (((2 : Int32)).toInt64.toUInt64 &&& Int64.toUInt64 63)).toInt64 &&& (3689348814741910323 : Int64)))).toUInt64 >>> (((4 : Int32)).toInt64.toUInt64 &&& Int64.toUInt64 63)).toInt64) &&& (1085102592571150095 : Int64)) + (((((((b0 - (((b0).toUInt64 >>> (((1 : Int32)).toInt64.toUInt64 &&& Int64.toUInt64 63)).toInt64 &&& (6148914691236517205 : Int64))) &&& (3689348814741910323 : Int64)) + ((((b0 - (((b0).toUInt64 >>> (((1 : Int32)).toInt64.toUInt64 &&& Int64.toUInt64 63)).toInt64 &&& (6148914691236517205 : Int64)))).toUInt64 >>> (((2 : Int32)).toInt64.toUInt64 &&& Int64.toUInt64 63)).toInt64 &&& (3689348814741910323 : Int64))) + (((((b0 - (((b0).toUInt64 >>> (((1 : Int32)).toInt64.toUInt64 &&& Int64.toUInt64 63)).toInt64 &&& (6148914691236517205 : Int64))) &&& (3689348814741910323 : Int64)) + ((((b0 - (((b0).toUInt64 >>> (((1 : Int32)).toInt64.toUInt64 &&& Int64.toUInt64 63)).toInt64 &&& (6148914691236517205 : Int64)))).toUInt64 >>> (((2 : Int32)).toInt64.toUInt64 &&& Int64.toUInt64 63)).toInt64 &&& (3689348814741910323 : Int64)))).toUInt64 >>> (((4 : Int32)).toInt64.toUInt64 &&& Int64.toUInt64 63)).toInt64) &&& (1085102592571150095 : Int64))).toUInt64 >>> (((8 : Int32)).toInt64.toUInt64 &&& Int64.toUInt64 63)).toInt64) + ((((((((b0 - (((b0).toUInt64 >>> (((1 : Int32)).toInt64.toUInt64 &&& Int64.toUInt64 63)).toInt64 &&& (6148914691236517205 : Int64))) &&& (3689348814741910323 : Int64)) + ((((b0 - (((b0).toUInt64 >>> (((1 : Int32)).toInt64.toUInt64 &&& Int64.toUInt64 63)).toInt64 &&& (6148914691236517205 : Int64)))).toUInt64 >>> (((2 : Int32)).toInt64.toUInt64 &&& Int64.toUInt64 63)).toInt64 &&& (3689348814741910323 : Int64))) + (((((b0 - (((b0).toUInt64 >>> (((1 : Int32)).toInt64.toUInt64 &&& Int64.toUInt64 63)).toInt64 &&& (6148914691236517205 : Int64))) &&& (3689348814741910323 : Int64)) + ((((b0 - (((b0).toUInt64 >>> (((1 : Int32)).toInt64.toUInt64 &&& Int64.toUInt64 63)).toInt64 &&& (6148914691236517205 : Int64)))).toUInt64 >>> (((2 : Int32)).toInt64.toUInt64 &&& Int64.toUInt64 63)).toInt64 &&& (3689348814741910323 : Int64)))).toUInt64 >>> (((4 : Int32)).toInt64.toUInt64 &&& Int64.toUInt64 63)).toInt64) &&& (1085102592571150095 : Int64)) + (((((((b0 - (((b0).toUInt64 >>> (((1 : Int32)).toInt64.toUInt64 &&& Int64.toUInt64 63)).toInt64 &&& (6148914691236517205 : Int64))) &&& (3689348814741910323 : Int64)) + ((((b0 - (((b0).toUInt64 >>> (((1 : Int32)).toInt64.toUInt64 &&& Int64.toUInt64 63)).toInt64 &&& (6148914691236517205 : Int64)))).toUInt64 >>> (((2 : Int32)).toInt64.toUInt64 &&& Int64.toUInt64 63)).toInt64 &&& (3689348814741910323 : Int64))) + (((((b0 - (((b0).toUInt64 >>> (((1 : Int32)).toInt64.toUInt64 &&& Int64.toUInt64 63)).toInt64 &&& (6148914691236517205 : Int64))) &&& (3689348814741910323 : Int64)) + ((((b0 - (((b0).toUInt64 >>> (((1 : Int32)).toInt64.toUInt64 &&& Int64.toUInt64 63)).toInt64 &&& (6148914691236517205 : Int64)))).toUInt64 >>> (((2 : Int32)).toInt64.toUInt64 &&& Int64.toUInt64 63)).toInt64 &&& (3689348814741910323 : Int64)))).toUInt64 >>> (((4 : Int32)).toInt64.toUInt64 &&& Int64.toUInt64 63)).toInt64) &&& (1085102592571150095 : Int64))).toUInt64 >>> (((8 : Int32)).toInt64.toUInt64 &&& Int64.toUInt64 63)).toInt64)).toUInt64 >>> (((16 : Int32)).toInt64.toUInt64 &&& Int64.toUInt64 63)).toInt64)).toUInt64 >>> (((32 : Int32)).toInt64.toUInt64 &&& Int64.toUInt64 63)).toInt64)).toInt32 &&& (127 : Int32)) s) : X_Lo_bitCount scr (d + 1) s b0 post := ⟨0, h⟩
end
section
set_option maxRecDepth 100000 in
theorem w_Md_thrown {scr : mSc} {d : Nat} {s : mSt} {post : Int32 → mSt → Prop} (h : post (s.1 18 0 1) s) : X_Md_thrown scr (d + 1) s post := ⟨0, h⟩
set_option maxRecDepth 100000 in
theorem w_Md_relation {scr : mSc} {d : Nat} {s : mSt} {a1 : Int32} {a2 : Int32} {a3 : Int32} {a4 : Int32} {post : Int32 → mSt → Prop} (h : (∀ s1, s1 = mx_si s 18 0 1 (0 : Int32) → (((s1.1 18 0 3) = 0 → (((s1.1 18 0 2) = (9 : Int32) → post (-1 : Int32) s1) ∧ (¬ (s1.1 18 0 2) = (9 : Int32) → ((a1 < 0 → post (-1 : Int32) s1) ∧ (¬ a1 < 0 → ((a1 ≤ (2 : Int32) → (vp_in (s1.1 18 0 2) 9 ∧ ∀ s2, s2 = mx_si s1 19 0 ((s1.1 18 0 2)).toNatClampNeg a1 → (vp_in (s2.1 18 0 2) 9 ∧ ∀ s3, s3 = mx_si s2 20 0 ((s2.1 18 0 2)).toNatClampNeg (vp_nar .boolean a2) → (vp_in (s3.1 18 0 2) 9 ∧ ∀ s4, s4 = mx_si s3 21 0 ((s3.1 18 0 2)).toNatClampNeg a3 → (vp_in (s4.1 18 0 2) 9 ∧ ∀ s5, s5 = mx_si s4 22 0 ((s4.1 18 0 2)).toNatClampNeg a4 → (vp_in (s5.1 18 0 2) 9 ∧ ∀ s6, s6 = mx_si s5 24 0 ((s5.1 18 0 2)).toNatClampNeg (0 : Int32) → (∀ s7, s7 = mx_si s6 18 0 2 ((s6.1 18 0 2) + (1 : Int32)) → post ((s7.1 18 0 2) - (1 : Int32)) s7))))))) ∧ (¬ a1 ≤ (2 : Int32) → post (-1 : Int32) s1))))))) ∧ (¬ (s1.1 18 0 3) = 0 → post (-1 : Int32) s1)))) : X_Md_relation scr (d + 1) s a1 a2 a3 a4 post := ⟨0, h⟩
set_option maxRecDepth 100000 in
theorem w_Md_type {scr : mSc} {d : Nat} {s : mSt} {a1 : Int32} {post : Int32 → mSt → Prop} (h : (∀ s1, s1 = mx_si s 18 0 1 (0 : Int32) → ((((s1.1 18 0 2) - (1 : Int32)) < 0 → (mx_nr .boolean (0 : Int32) ∧ post (0 : Int32) s1)) ∧ (¬ ((s1.1 18 0 2) - (1 : Int32)) < 0 → (((s1.1 18 0 3) = 0 → (vp_in ((s1.1 18 0 2) - (1 : Int32)) 9 ∧ (((s1.1 24 0 (((s1.1 18 0 2) - (1 : Int32))).toNatClampNeg) = (24 : Int32) → (mx_nr .boolean (0 : Int32) ∧ post (0 : Int32) s1)) ∧ (¬ (s1.1 24 0 (((s1.1 18 0 2) - (1 : Int32))).toNatClampNeg) = (24 : Int32) → (vp_in ((s1.1 18 0 2) - (1 : Int32)) 9 ∧ (vp_in (((24 : Int32) * ((s1.1 18 0 2) - (1 : Int32))) + (s1.1 24 0 (((s1.1 18 0 2) - (1 : Int32))).toNatClampNeg)) 216 ∧ ∀ s2, s2 = mx_si s1 23 0 ((((24 : Int32) * ((s1.1 18 0 2) - (1 : Int32))) + (s1.1 24 0 (((s1.1 18 0 2) - (1 : Int32))).toNatClampNeg))).toNatClampNeg a1 → (vp_in ((s1.1 18 0 2) - (1 : Int32)) 9 ∧ (vp_in ((s1.1 18 0 2) - (1 : Int32)) 9 ∧ ∀ s3, s3 = mx_si s2 24 0 (((s1.1 18 0 2) - (1 : Int32))).toNatClampNeg ((s2.1 24 0 (((s1.1 18 0 2) - (1 : Int32))).toNatClampNeg) + (1 : Int32)) → (mx_nr .boolean (1 : Int32) ∧ post (1 : Int32) s3))))))))) ∧ (¬ (s1.1 18 0 3) = 0 → (mx_nr .boolean (0 : Int32) ∧ post (0 : Int32) s1))))))) : X_Md_type scr (d + 1) s a1 post := ⟨0, h⟩
set_option maxRecDepth 100000 in
theorem w_Md_sound {scr : mSc} {d : Nat} {s : mSt} {a1 : Int32} {post : Int32 → mSt → Prop} (h : (∀ s1, s1 = mx_si s 18 0 1 (0 : Int32) → X_Md_isRelation scr d s1 a1 (fun r3 s2 => ((r3 = 0 → (mx_nr .boolean (0 : Int32) ∧ post (0 : Int32) s2)) ∧ (¬ r3 = 0 → X_Md_isRule scr d s2 a1 (fun r5 s4 => ((r5 = 0 → (mx_nr .boolean (0 : Int32) ∧ post (0 : Int32) s4)) ∧ (¬ r5 = 0 → (mx_nr .boolean (1 : Int32) ∧ post (1 : Int32) s4))))))))) : X_Md_sound scr (d + 1) s a1 post := ⟨0, h⟩
set_option maxRecDepth 100000 in
theorem w_Md_isRelation {scr : mSc} {d : Nat} {s : mSt} {a1 : Int32} {post : Int32 → mSt → Prop} (h : ((a1 < 0 → (mx_nr .boolean (0 : Int32) ∧ post (0 : Int32) s)) ∧ (¬ a1 < 0 → (((s.1 18 0 2) ≤ a1 → (mx_nr .boolean (0 : Int32) ∧ post (0 : Int32) s)) ∧ (¬ (s.1 18 0 2) ≤ a1 → (mx_nr .boolean (1 : Int32) ∧ post (1 : Int32) s)))))) : X_Md_isRelation scr (d + 1) s a1 post := ⟨0, h⟩
set_option maxRecDepth 100000 in
theorem w_Md_isRule {scr : mSc} {d : Nat} {s : mSt} {a1 : Int32} {post : Int32 → mSt → Prop} (h : ∃ n, (vp_in a1 9 ∧ (((s.1 24 0 (a1).toNatClampNeg) = 0 → (mx_nr .boolean (1 : Int32) ∧ post (1 : Int32) s)) ∧ (¬ (s.1 24 0 (a1).toNatClampNeg) = 0 → r_Md_isRule_18 scr d a1 post (fun _ _ => False) n s (0 : Int32) (0 : Int32) (0 : Int32))))) : X_Md_isRule scr (d + 1) s a1 post := h
set_option maxRecDepth 100000 in
theorem w_Md_isRule_18 {scr : mSc} {d : Nat} {a1 : Int32} {post : Int32 → mSt → Prop} {ex : Nat → mSt → Prop} {n : Nat} {s : mSt} {v2 : Int32} {v3 : Int32} {v4 : Int32} (h : (vp_in a1 9 ∧ (((s.1 24 0 (a1).toNatClampNeg) ≤ v4 → ((v3 = (1 : Int32) → ((v2 = 0 → (mx_nr .boolean (1 : Int32) ∧ post (1 : Int32) s)) ∧ (¬ v2 = 0 → (mx_nr .boolean (0 : Int32) ∧ post (0 : Int32) s)))) ∧ (¬ v3 = (1 : Int32) → (mx_nr .boolean (0 : Int32) ∧ post (0 : Int32) s)))) ∧ (¬ (s.1 24 0 (a1).toNatClampNeg) ≤ v4 → X_Md_at scr d s a1 v4 (fun r2 s1 => ((v3 = 0 → X_Md_partAt scr d s1 a1 v4 (fun r22 s21 => ((r22 ≤ 0 → ((v3 = 0 → ((r2 = (40 : Int32) → (((5 : Int32) ≤ v2 → ((v3 = (1 : Int32) → ((r2 = (41 : Int32) → ((v2 ≤ 0 → ((v3 = (1 : Int32) → X_Md_isSign scr d s21 r2 (fun r40 s39 => ((r40 = 0 → (mx_nr .boolean (0 : Int32) ∧ post (0 : Int32) s39)) ∧ (¬ r40 = 0 → r_Md_isRule_18 scr d a1 post ex n s39 v2 (0 : Int32) (v4 + (1 : Int32)))))) ∧ (¬ v3 = (1 : Int32) → (mx_nr .boolean (0 : Int32) ∧ post (0 : Int32) s21)))) ∧ (¬ v2 ≤ 0 → r_Md_isRule_18 scr d a1 post ex n s21 (v2 + (-1 : Int32)) v3 (v4 + (1 : Int32))))) ∧ (¬ r2 = (41 : Int32) → ((v3 = (1 : Int32) → X_Md_isSign scr d s21 r2 (fun r38 s37 => ((r38 = 0 → (mx_nr .boolean (0 : Int32) ∧ post (0 : Int32) s37)) ∧ (¬ r38 = 0 → r_Md_isRule_18 scr d a1 post ex n s37 v2 (0 : Int32) (v4 + (1 : Int32)))))) ∧ (¬ v3 = (1 : Int32) → (mx_nr .boolean (0 : Int32) ∧ post (0 : Int32) s21)))))) ∧ (¬ v3 = (1 : Int32) → ((v3 = (1 : Int32) → X_Md_isSign scr d s21 r2 (fun r36 s35 => ((r36 = 0 → (mx_nr .boolean (0 : Int32) ∧ post (0 : Int32) s35)) ∧ (¬ r36 = 0 → r_Md_isRule_18 scr d a1 post ex n s35 v2 (0 : Int32) (v4 + (1 : Int32)))))) ∧ (¬ v3 = (1 : Int32) → (mx_nr .boolean (0 : Int32) ∧ post (0 : Int32) s21)))))) ∧ (¬ (5 : Int32) ≤ v2 → r_Md_isRule_18 scr d a1 post ex n s21 (v2 + (1 : Int32)) v3 (v4 + (1 : Int32))))) ∧ (¬ r2 = (40 : Int32) → ((v3 = (1 : Int32) → ((r2 = (41 : Int32) → ((v2 ≤ 0 → ((v3 = (1 : Int32) → X_Md_isSign scr d s21 r2 (fun r34 s33 => ((r34 = 0 → (mx_nr .boolean (0 : Int32) ∧ post (0 : Int32) s33)) ∧ (¬ r34 = 0 → r_Md_isRule_18 scr d a1 post ex n s33 v2 (0 : Int32) (v4 + (1 : Int32)))))) ∧ (¬ v3 = (1 : Int32) → (mx_nr .boolean (0 : Int32) ∧ post (0 : Int32) s21)))) ∧ (¬ v2 ≤ 0 → r_Md_isRule_18 scr d a1 post ex n s21 (v2 + (-1 : Int32)) v3 (v4 + (1 : Int32))))) ∧ (¬ r2 = (41 : Int32) → ((v3 = (1 : Int32) → X_Md_isSign scr d s21 r2 (fun r32 s31 => ((r32 = 0 → (mx_nr .boolean (0 : Int32) ∧ post (0 : Int32) s31)) ∧ (¬ r32 = 0 → r_Md_isRule_18 scr d a1 post ex n s31 v2 (0 : Int32) (v4 + (1 : Int32)))))) ∧ (¬ v3 = (1 : Int32) → (mx_nr .boolean (0 : Int32) ∧ post (0 : Int32) s21)))))) ∧ (¬ v3 = (1 : Int32) → ((v3 = (1 : Int32) → X_Md_isSign scr d s21 r2 (fun r30 s29 => ((r30 = 0 → (mx_nr .boolean (0 : Int32) ∧ post (0 : Int32) s29)) ∧ (¬ r30 = 0 → r_Md_isRule_18 scr d a1 post ex n s29 v2 (0 : Int32) (v4 + (1 : Int32)))))) ∧ (¬ v3 = (1 : Int32) → (mx_nr .boolean (0 : Int32) ∧ post (0 : Int32) s21)))))))) ∧ (¬ v3 = 0 → ((v3 = (1 : Int32) → ((r2 = (41 : Int32) → ((v2 ≤ 0 → ((v3 = (1 : Int32) → X_Md_isSign scr d s21 r2 (fun r28 s27 => ((r28 = 0 → (mx_nr .boolean (0 : Int32) ∧ post (0 : Int32) s27)) ∧ (¬ r28 = 0 → r_Md_isRule_18 scr d a1 post ex n s27 v2 (0 : Int32) (v4 + (1 : Int32)))))) ∧ (¬ v3 = (1 : Int32) → (mx_nr .boolean (0 : Int32) ∧ post (0 : Int32) s21)))) ∧ (¬ v2 ≤ 0 → r_Md_isRule_18 scr d a1 post ex n s21 (v2 + (-1 : Int32)) v3 (v4 + (1 : Int32))))) ∧ (¬ r2 = (41 : Int32) → ((v3 = (1 : Int32) → X_Md_isSign scr d s21 r2 (fun r26 s25 => ((r26 = 0 → (mx_nr .boolean (0 : Int32) ∧ post (0 : Int32) s25)) ∧ (¬ r26 = 0 → r_Md_isRule_18 scr d a1 post ex n s25 v2 (0 : Int32) (v4 + (1 : Int32)))))) ∧ (¬ v3 = (1 : Int32) → (mx_nr .boolean (0 : Int32) ∧ post (0 : Int32) s21)))))) ∧ (¬ v3 = (1 : Int32) → ((v3 = (1 : Int32) → X_Md_isSign scr d s21 r2 (fun r24 s23 => ((r24 = 0 → (mx_nr .boolean (0 : Int32) ∧ post (0 : Int32) s23)) ∧ (¬ r24 = 0 → r_Md_isRule_18 scr d a1 post ex n s23 v2 (0 : Int32) (v4 + (1 : Int32)))))) ∧ (¬ v3 = (1 : Int32) → (mx_nr .boolean (0 : Int32) ∧ post (0 : Int32) s21)))))))) ∧ (¬ r22 ≤ 0 → r_Md_isRule_18 scr d a1 post ex n s21 v2 (1 : Int32) (v4 + r22))))) ∧ (¬ v3 = 0 → (((0 : Int32) ≤ 0 → ((v3 = 0 → ((r2 = (40 : Int32) → (((5 : Int32) ≤ v2 → ((v3 = (1 : Int32) → ((r2 = (41 : Int32) → ((v2 ≤ 0 → ((v3 = (1 : Int32) → X_Md_isSign scr d s1 r2 (fun r20 s19 => ((r20 = 0 → (mx_nr .boolean (0 : Int32) ∧ post (0 : Int32) s19)) ∧ (¬ r20 = 0 → r_Md_isRule_18 scr d a1 post ex n s19 v2 (0 : Int32) (v4 + (1 : Int32)))))) ∧ (¬ v3 = (1 : Int32) → (mx_nr .boolean (0 : Int32) ∧ post (0 : Int32) s1)))) ∧ (¬ v2 ≤ 0 → r_Md_isRule_18 scr d a1 post ex n s1 (v2 + (-1 : Int32)) v3 (v4 + (1 : Int32))))) ∧ (¬ r2 = (41 : Int32) → ((v3 = (1 : Int32) → X_Md_isSign scr d s1 r2 (fun r18 s17 => ((r18 = 0 → (mx_nr .boolean (0 : Int32) ∧ post (0 : Int32) s17)) ∧ (¬ r18 = 0 → r_Md_isRule_18 scr d a1 post ex n s17 v2 (0 : Int32) (v4 + (1 : Int32)))))) ∧ (¬ v3 = (1 : Int32) → (mx_nr .boolean (0 : Int32) ∧ post (0 : Int32) s1)))))) ∧ (¬ v3 = (1 : Int32) → ((v3 = (1 : Int32) → X_Md_isSign scr d s1 r2 (fun r16 s15 => ((r16 = 0 → (mx_nr .boolean (0 : Int32) ∧ post (0 : Int32) s15)) ∧ (¬ r16 = 0 → r_Md_isRule_18 scr d a1 post ex n s15 v2 (0 : Int32) (v4 + (1 : Int32)))))) ∧ (¬ v3 = (1 : Int32) → (mx_nr .boolean (0 : Int32) ∧ post (0 : Int32) s1)))))) ∧ (¬ (5 : Int32) ≤ v2 → r_Md_isRule_18 scr d a1 post ex n s1 (v2 + (1 : Int32)) v3 (v4 + (1 : Int32))))) ∧ (¬ r2 = (40 : Int32) → ((v3 = (1 : Int32) → ((r2 = (41 : Int32) → ((v2 ≤ 0 → ((v3 = (1 : Int32) → X_Md_isSign scr d s1 r2 (fun r14 s13 => ((r14 = 0 → (mx_nr .boolean (0 : Int32) ∧ post (0 : Int32) s13)) ∧ (¬ r14 = 0 → r_Md_isRule_18 scr d a1 post ex n s13 v2 (0 : Int32) (v4 + (1 : Int32)))))) ∧ (¬ v3 = (1 : Int32) → (mx_nr .boolean (0 : Int32) ∧ post (0 : Int32) s1)))) ∧ (¬ v2 ≤ 0 → r_Md_isRule_18 scr d a1 post ex n s1 (v2 + (-1 : Int32)) v3 (v4 + (1 : Int32))))) ∧ (¬ r2 = (41 : Int32) → ((v3 = (1 : Int32) → X_Md_isSign scr d s1 r2 (fun r12 s11 => ((r12 = 0 → (mx_nr .boolean (0 : Int32) ∧ post (0 : Int32) s11)) ∧ (¬ r12 = 0 → r_Md_isRule_18 scr d a1 post ex n s11 v2 (0 : Int32) (v4 + (1 : Int32)))))) ∧ (¬ v3 = (1 : Int32) → (mx_nr .boolean (0 : Int32) ∧ post (0 : Int32) s1)))))) ∧ (¬ v3 = (1 : Int32) → ((v3 = (1 : Int32) → X_Md_isSign scr d s1 r2 (fun r10 s9 => ((r10 = 0 → (mx_nr .boolean (0 : Int32) ∧ post (0 : Int32) s9)) ∧ (¬ r10 = 0 → r_Md_isRule_18 scr d a1 post ex n s9 v2 (0 : Int32) (v4 + (1 : Int32)))))) ∧ (¬ v3 = (1 : Int32) → (mx_nr .boolean (0 : Int32) ∧ post (0 : Int32) s1)))))))) ∧ (¬ v3 = 0 → ((v3 = (1 : Int32) → ((r2 = (41 : Int32) → ((v2 ≤ 0 → ((v3 = (1 : Int32) → X_Md_isSign scr d s1 r2 (fun r8 s7 => ((r8 = 0 → (mx_nr .boolean (0 : Int32) ∧ post (0 : Int32) s7)) ∧ (¬ r8 = 0 → r_Md_isRule_18 scr d a1 post ex n s7 v2 (0 : Int32) (v4 + (1 : Int32)))))) ∧ (¬ v3 = (1 : Int32) → (mx_nr .boolean (0 : Int32) ∧ post (0 : Int32) s1)))) ∧ (¬ v2 ≤ 0 → r_Md_isRule_18 scr d a1 post ex n s1 (v2 + (-1 : Int32)) v3 (v4 + (1 : Int32))))) ∧ (¬ r2 = (41 : Int32) → ((v3 = (1 : Int32) → X_Md_isSign scr d s1 r2 (fun r6 s5 => ((r6 = 0 → (mx_nr .boolean (0 : Int32) ∧ post (0 : Int32) s5)) ∧ (¬ r6 = 0 → r_Md_isRule_18 scr d a1 post ex n s5 v2 (0 : Int32) (v4 + (1 : Int32)))))) ∧ (¬ v3 = (1 : Int32) → (mx_nr .boolean (0 : Int32) ∧ post (0 : Int32) s1)))))) ∧ (¬ v3 = (1 : Int32) → ((v3 = (1 : Int32) → X_Md_isSign scr d s1 r2 (fun r4 s3 => ((r4 = 0 → (mx_nr .boolean (0 : Int32) ∧ post (0 : Int32) s3)) ∧ (¬ r4 = 0 → r_Md_isRule_18 scr d a1 post ex n s3 v2 (0 : Int32) (v4 + (1 : Int32)))))) ∧ (¬ v3 = (1 : Int32) → (mx_nr .boolean (0 : Int32) ∧ post (0 : Int32) s1)))))))) ∧ (¬ (0 : Int32) ≤ 0 → r_Md_isRule_18 scr d a1 post ex n s1 v2 (1 : Int32) (v4 + (0 : Int32))))))))))) : r_Md_isRule_18 scr d a1 post ex (n + 1) s v2 v3 v4 := h
set_option maxRecDepth 100000 in
theorem w_Md_at {scr : mSc} {d : Nat} {s : mSt} {a1 : Int32} {a2 : Int32} {post : Int32 → mSt → Prop} (h : (vp_in a1 9 ∧ (((s.1 24 0 (a1).toNatClampNeg) ≤ a2 → post (-1 : Int32) s) ∧ (¬ (s.1 24 0 (a1).toNatClampNeg) ≤ a2 → (vp_in (((24 : Int32) * a1) + a2) 216 ∧ post (s.1 23 0 ((((24 : Int32) * a1) + a2)).toNatClampNeg) s))))) : X_Md_at scr (d + 1) s a1 a2 post := ⟨0, h⟩
set_option maxRecDepth 100000 in
theorem w_Md_partAt {scr : mSc} {d : Nat} {s : mSt} {a1 : Int32} {a2 : Int32} {post : Int32 → mSt → Prop} (h : X_Md_at scr d s a1 a2 (fun r2 s1 => ((r2 = (84 : Int32) → post (1 : Int32) s1) ∧ (¬ r2 = (84 : Int32) → X_Md_named scr d s1 a1 (a2 + (1 : Int32)) (fun r4 s3 => ((r2 = (99 : Int32) → ((r4 < 0 → post (0 : Int32) s3) ∧ (¬ r4 < 0 → (vp_in r4 9 ∧ (vp_in a1 9 ∧ (((s3.1 19 0 (r4).toNatClampNeg) = (s3.1 19 0 (a1).toNatClampNeg) → ((r2 = (99 : Int32) → post (2 : Int32) s3) ∧ (¬ r2 = (99 : Int32) → X_Md_named scr d s3 a1 (a2 + (2 : Int32)) (fun r6 s5 => ((0 ≤ r6 → post (3 : Int32) s5) ∧ (¬ 0 ≤ r6 → post (0 : Int32) s5)))))) ∧ (¬ (s3.1 19 0 (r4).toNatClampNeg) = (s3.1 19 0 (a1).toNatClampNeg) → post (0 : Int32) s3))))))) ∧ (¬ r2 = (99 : Int32) → ((r2 = (102 : Int32) → ((r4 < 0 → post (0 : Int32) s3) ∧ (¬ r4 < 0 → (vp_in r4 9 ∧ (vp_in a1 9 ∧ (((s3.1 19 0 (r4).toNatClampNeg) = (s3.1 19 0 (a1).toNatClampNeg) → ((r2 = (99 : Int32) → post (2 : Int32) s3) ∧ (¬ r2 = (99 : Int32) → X_Md_named scr d s3 a1 (a2 + (2 : Int32)) (fun r8 s7 => ((0 ≤ r8 → post (3 : Int32) s7) ∧ (¬ 0 ≤ r8 → post (0 : Int32) s7)))))) ∧ (¬ (s3.1 19 0 (r4).toNatClampNeg) = (s3.1 19 0 (a1).toNatClampNeg) → post (0 : Int32) s3))))))) ∧ (¬ r2 = (102 : Int32) → post (0 : Int32) s3))))))))) : X_Md_partAt scr (d + 1) s a1 a2 post := ⟨0, h⟩
set_option maxRecDepth 100000 in
theorem w_Md_named {scr : mSc} {d : Nat} {s : mSt} {a1 : Int32} {a2 : Int32} {post : Int32 → mSt → Prop} (h : X_Md_at scr d s a1 a2 (fun r2 s1 => X_Md_isRelation scr d s1 (r2 - (48 : Int32)) (fun r4 s3 => ((r4 = 0 → post (-1 : Int32) s3) ∧ (¬ r4 = 0 → post (r2 - (48 : Int32)) s3))))) : X_Md_named scr (d + 1) s a1 a2 post := ⟨0, h⟩
set_option maxRecDepth 100000 in
theorem w_Md_isSign {scr : mSc} {d : Nat} {s : mSt} {a0 : Int32} {post : Int32 → mSt → Prop} (h : ((a0 = (38 : Int32) → (mx_nr .boolean (1 : Int32) ∧ post (1 : Int32) s)) ∧ (¬ a0 = (38 : Int32) → ((a0 = (124 : Int32) → (mx_nr .boolean (1 : Int32) ∧ post (1 : Int32) s)) ∧ (¬ a0 = (124 : Int32) → ((a0 = (45 : Int32) → (mx_nr .boolean (1 : Int32) ∧ post (1 : Int32) s)) ∧ (¬ a0 = (45 : Int32) → (mx_nr .boolean (0 : Int32) ∧ post (0 : Int32) s)))))))) : X_Md_isSign scr (d + 1) s a0 post := ⟨0, h⟩
set_option maxRecDepth 100000 in
theorem w_Md_accept {scr : mSc} {d : Nat} {s : mSt} {post : Int32 → mSt → Prop} (h : ∃ n, (∀ s1, s1 = mx_si s 18 0 1 (0 : Int32) → (((s1.1 18 0 3) = 0 → (((s1.1 18 0 2) = 0 → (∀ s3, s3 = mx_si s1 18 0 1 (1 : Int32) → post (0 : Int32) s3)) ∧ (¬ (s1.1 18 0 2) = 0 → r_Md_accept_28 scr d post (fun _ _ => False) n s1 (0 : Int32)))) ∧ (¬ (s1.1 18 0 3) = 0 → (∀ s2, s2 = mx_si s1 18 0 1 (1 : Int32) → post (0 : Int32) s2))))) : X_Md_accept scr (d + 1) s post := h
set_option maxRecDepth 100000 in
theorem w_Md_accept_28 {scr : mSc} {d : Nat} {post : Int32 → mSt → Prop} {ex : Nat → mSt → Prop} {n : Nat} {s : mSt} {v1 : Int32} (h : (((s.1 18 0 2) ≤ v1 → r_Md_accept_59 scr d post ex n s (0 : Int32)) ∧ (¬ (s.1 18 0 2) ≤ v1 → X_Md_isRule scr d s v1 (fun r2 s1 => ((r2 = 0 → (∀ s3, s3 = mx_si s1 18 0 1 (2 : Int32) → post (0 : Int32) s3)) ∧ (¬ r2 = 0 → r_Md_accept_28 scr d post ex n s1 (v1 + (1 : Int32)))))))) : r_Md_accept_28 scr d post ex (n + 1) s v1 := h
set_option maxRecDepth 100000 in
theorem w_Md_accept_59 {scr : mSc} {d : Nat} {post : Int32 → mSt → Prop} {ex : Nat → mSt → Prop} {n : Nat} {s : mSt} {v1 : Int32} (h : (((81 : Int32) ≤ v1 → r_Md_accept_87 scr d post ex n s (0 : Int32)) ∧ (¬ (81 : Int32) ≤ v1 → (vp_in v1 81 ∧ ∀ s1, s1 = mx_si s 25 0 (v1).toNatClampNeg (vp_nar .boolean (0 : Int32)) → (vp_in v1 81 ∧ ∀ s2, s2 = mx_si s1 26 0 (v1).toNatClampNeg (vp_nar .boolean (0 : Int32)) → r_Md_accept_59 scr d post ex n s2 (v1 + (1 : Int32))))))) : r_Md_accept_59 scr d post ex (n + 1) s v1 := h
set_option maxRecDepth 100000 in
theorem w_Md_accept_87 {scr : mSc} {d : Nat} {post : Int32 → mSt → Prop} {ex : Nat → mSt → Prop} {n : Nat} {s : mSt} {v1 : Int32} (h : (((s.1 18 0 2) ≤ v1 → X_Md_close scr d s (fun s1 => X_Md_isCircular scr d s1 (fun r3 s2 => ((r3 = 0 → X_Md_findLevels scr d s2 (fun s4 => (narrow .boolean (.int (1 : Int32)) = .int (1 : Int32) ∧ (∀ s5, s5 = mx_si s4 18 0 3 (1 : Int32) → post (s5.1 18 0 2) s5)))) ∧ (¬ r3 = 0 → (∀ s6, s6 = mx_si s2 18 0 1 (3 : Int32) → post (0 : Int32) s6)))))) ∧ (¬ (s.1 18 0 2) ≤ v1 → X_Md_findNeeds scr d s v1 (fun s7 => r_Md_accept_87 scr d post ex n s7 (v1 + (1 : Int32)))))) : r_Md_accept_87 scr d post ex (n + 1) s v1 := h
set_option maxRecDepth 100000 in
theorem w_Md_findNeeds {scr : mSc} {d : Nat} {s : mSt} {a1 : Int32} {post : mSt → Prop} (h : ∃ n, (vp_in a1 9 ∧ (((s.1 24 0 (a1).toNatClampNeg) = 0 → X_Md_needOf scr d s a1 (0 : Int32) (0 : Int32) (fun s2 => (vp_in (0 : Int32) 7 ∧ ∀ s3, s3 = mx_si s2 36 0 ((0 : Int32)).toNatClampNeg (vp_nar .boolean (0 : Int32)) → r_Md_findNeeds_30 scr d a1 post (fun _ _ => False) n s3 (0 : Int32) (0 : Int32) (0 : Int32)))) ∧ (¬ (s.1 24 0 (a1).toNatClampNeg) = 0 → (vp_in (0 : Int32) 7 ∧ ∀ s1, s1 = mx_si s 36 0 ((0 : Int32)).toNatClampNeg (vp_nar .boolean (0 : Int32)) → r_Md_findNeeds_30 scr d a1 post (fun _ _ => False) n s1 (0 : Int32) (0 : Int32) (0 : Int32)))))) : X_Md_findNeeds scr (d + 1) s a1 post := h
set_option maxRecDepth 100000 in
theorem w_Md_findNeeds_30 {scr : mSc} {d : Nat} {a1 : Int32} {post : mSt → Prop} {ex : Nat → mSt → Prop} {n : Nat} {s : mSt} {v2 : Int32} {v3 : Int32} {v4 : Int32} (h : (vp_in a1 9 ∧ (((s.1 24 0 (a1).toNatClampNeg) ≤ v4 → post s) ∧ (¬ (s.1 24 0 (a1).toNatClampNeg) ≤ v4 → X_Md_at scr d s a1 v4 (fun r2 s1 => X_Md_isSign scr d s1 r2 (fun r4 s3 => ((r4 = 0 → ((r2 = (40 : Int32) → (((0 : Int32) ≤ 0 → ((r2 = (40 : Int32) → (vp_in v2 7 ∧ (((s3.1 36 0 (v2).toNatClampNeg) = 0 → ((v3 = 0 → (vp_in (v2 + (1 : Int32)) 7 ∧ ∀ s12, s12 = mx_si s3 36 0 ((v2 + (1 : Int32))).toNatClampNeg (vp_nar .boolean (0 : Int32)) → r_Md_findNeeds_30 scr d a1 post ex n s12 (v2 + (1 : Int32)) (0 : Int32) (v4 + (1 : Int32)))) ∧ (¬ v3 = 0 → (vp_in (v2 + (1 : Int32)) 7 ∧ ∀ s13, s13 = mx_si s3 36 0 ((v2 + (1 : Int32))).toNatClampNeg (vp_nar .boolean (1 : Int32)) → r_Md_findNeeds_30 scr d a1 post ex n s13 (v2 + (1 : Int32)) (0 : Int32) (v4 + (1 : Int32)))))) ∧ (¬ (s3.1 36 0 (v2).toNatClampNeg) = 0 → (vp_in (v2 + (1 : Int32)) 7 ∧ ∀ s11, s11 = mx_si s3 36 0 ((v2 + (1 : Int32))).toNatClampNeg (vp_nar .boolean (1 : Int32)) → r_Md_findNeeds_30 scr d a1 post ex n s11 (v2 + (1 : Int32)) (0 : Int32) (v4 + (1 : Int32))))))) ∧ (¬ r2 = (40 : Int32) → ((r2 = (41 : Int32) → r_Md_findNeeds_30 scr d a1 post ex n s3 (v2 + (-1 : Int32)) v3 (v4 + (1 : Int32))) ∧ (¬ r2 = (41 : Int32) → ((r2 = (45 : Int32) → r_Md_findNeeds_30 scr d a1 post ex n s3 v2 (1 : Int32) (v4 + (1 : Int32))) ∧ (¬ r2 = (45 : Int32) → r_Md_findNeeds_30 scr d a1 post ex n s3 v2 (0 : Int32) (v4 + (1 : Int32))))))))) ∧ (¬ (0 : Int32) ≤ 0 → (vp_in v2 7 ∧ (((s3.1 36 0 (v2).toNatClampNeg) = 0 → ((v3 = 0 → X_Md_needOf scr d s3 a1 v4 (0 : Int32) (fun s15 => r_Md_findNeeds_30 scr d a1 post ex n s15 v2 v3 (v4 + (0 : Int32)))) ∧ (¬ v3 = 0 → X_Md_needOf scr d s3 a1 v4 (1 : Int32) (fun s16 => r_Md_findNeeds_30 scr d a1 post ex n s16 v2 v3 (v4 + (0 : Int32)))))) ∧ (¬ (s3.1 36 0 (v2).toNatClampNeg) = 0 → X_Md_needOf scr d s3 a1 v4 (1 : Int32) (fun s14 => r_Md_findNeeds_30 scr d a1 post ex n s14 v2 v3 (v4 + (0 : Int32))))))))) ∧ (¬ r2 = (40 : Int32) → ((r2 = (41 : Int32) → (((0 : Int32) ≤ 0 → ((r2 = (40 : Int32) → (vp_in v2 7 ∧ (((s3.1 36 0 (v2).toNatClampNeg) = 0 → ((v3 = 0 → (vp_in (v2 + (1 : Int32)) 7 ∧ ∀ s26, s26 = mx_si s3 36 0 ((v2 + (1 : Int32))).toNatClampNeg (vp_nar .boolean (0 : Int32)) → r_Md_findNeeds_30 scr d a1 post ex n s26 (v2 + (1 : Int32)) (0 : Int32) (v4 + (1 : Int32)))) ∧ (¬ v3 = 0 → (vp_in (v2 + (1 : Int32)) 7 ∧ ∀ s27, s27 = mx_si s3 36 0 ((v2 + (1 : Int32))).toNatClampNeg (vp_nar .boolean (1 : Int32)) → r_Md_findNeeds_30 scr d a1 post ex n s27 (v2 + (1 : Int32)) (0 : Int32) (v4 + (1 : Int32)))))) ∧ (¬ (s3.1 36 0 (v2).toNatClampNeg) = 0 → (vp_in (v2 + (1 : Int32)) 7 ∧ ∀ s25, s25 = mx_si s3 36 0 ((v2 + (1 : Int32))).toNatClampNeg (vp_nar .boolean (1 : Int32)) → r_Md_findNeeds_30 scr d a1 post ex n s25 (v2 + (1 : Int32)) (0 : Int32) (v4 + (1 : Int32))))))) ∧ (¬ r2 = (40 : Int32) → ((r2 = (41 : Int32) → r_Md_findNeeds_30 scr d a1 post ex n s3 (v2 + (-1 : Int32)) v3 (v4 + (1 : Int32))) ∧ (¬ r2 = (41 : Int32) → ((r2 = (45 : Int32) → r_Md_findNeeds_30 scr d a1 post ex n s3 v2 (1 : Int32) (v4 + (1 : Int32))) ∧ (¬ r2 = (45 : Int32) → r_Md_findNeeds_30 scr d a1 post ex n s3 v2 (0 : Int32) (v4 + (1 : Int32))))))))) ∧ (¬ (0 : Int32) ≤ 0 → (vp_in v2 7 ∧ (((s3.1 36 0 (v2).toNatClampNeg) = 0 → ((v3 = 0 → X_Md_needOf scr d s3 a1 v4 (0 : Int32) (fun s29 => r_Md_findNeeds_30 scr d a1 post ex n s29 v2 v3 (v4 + (0 : Int32)))) ∧ (¬ v3 = 0 → X_Md_needOf scr d s3 a1 v4 (1 : Int32) (fun s30 => r_Md_findNeeds_30 scr d a1 post ex n s30 v2 v3 (v4 + (0 : Int32)))))) ∧ (¬ (s3.1 36 0 (v2).toNatClampNeg) = 0 → X_Md_needOf scr d s3 a1 v4 (1 : Int32) (fun s28 => r_Md_findNeeds_30 scr d a1 post ex n s28 v2 v3 (v4 + (0 : Int32))))))))) ∧ (¬ r2 = (41 : Int32) → X_Md_partAt scr d s3 a1 v4 (fun r18 s17 => ((r18 ≤ 0 → ((r2 = (40 : Int32) → (vp_in v2 7 ∧ (((s17.1 36 0 (v2).toNatClampNeg) = 0 → ((v3 = 0 → (vp_in (v2 + (1 : Int32)) 7 ∧ ∀ s20, s20 = mx_si s17 36 0 ((v2 + (1 : Int32))).toNatClampNeg (vp_nar .boolean (0 : Int32)) → r_Md_findNeeds_30 scr d a1 post ex n s20 (v2 + (1 : Int32)) (0 : Int32) (v4 + (1 : Int32)))) ∧ (¬ v3 = 0 → (vp_in (v2 + (1 : Int32)) 7 ∧ ∀ s21, s21 = mx_si s17 36 0 ((v2 + (1 : Int32))).toNatClampNeg (vp_nar .boolean (1 : Int32)) → r_Md_findNeeds_30 scr d a1 post ex n s21 (v2 + (1 : Int32)) (0 : Int32) (v4 + (1 : Int32)))))) ∧ (¬ (s17.1 36 0 (v2).toNatClampNeg) = 0 → (vp_in (v2 + (1 : Int32)) 7 ∧ ∀ s19, s19 = mx_si s17 36 0 ((v2 + (1 : Int32))).toNatClampNeg (vp_nar .boolean (1 : Int32)) → r_Md_findNeeds_30 scr d a1 post ex n s19 (v2 + (1 : Int32)) (0 : Int32) (v4 + (1 : Int32))))))) ∧ (¬ r2 = (40 : Int32) → ((r2 = (41 : Int32) → r_Md_findNeeds_30 scr d a1 post ex n s17 (v2 + (-1 : Int32)) v3 (v4 + (1 : Int32))) ∧ (¬ r2 = (41 : Int32) → ((r2 = (45 : Int32) → r_Md_findNeeds_30 scr d a1 post ex n s17 v2 (1 : Int32) (v4 + (1 : Int32))) ∧ (¬ r2 = (45 : Int32) → r_Md_findNeeds_30 scr d a1 post ex n s17 v2 (0 : Int32) (v4 + (1 : Int32))))))))) ∧ (¬ r18 ≤ 0 → (vp_in v2 7 ∧ (((s17.1 36 0 (v2).toNatClampNeg) = 0 → ((v3 = 0 → X_Md_needOf scr d s17 a1 v4 (0 : Int32) (fun s23 => r_Md_findNeeds_30 scr d a1 post ex n s23 v2 v3 (v4 + r18))) ∧ (¬ v3 = 0 → X_Md_needOf scr d s17 a1 v4 (1 : Int32) (fun s24 => r_Md_findNeeds_30 scr d a1 post ex n s24 v2 v3 (v4 + r18))))) ∧ (¬ (s17.1 36 0 (v2).toNatClampNeg) = 0 → X_Md_needOf scr d s17 a1 v4 (1 : Int32) (fun s22 => r_Md_findNeeds_30 scr d a1 post ex n s22 v2 v3 (v4 + r18))))))))))))) ∧ (¬ r4 = 0 → (((0 : Int32) ≤ 0 → ((r2 = (40 : Int32) → (vp_in v2 7 ∧ (((s3.1 36 0 (v2).toNatClampNeg) = 0 → ((v3 = 0 → (vp_in (v2 + (1 : Int32)) 7 ∧ ∀ s6, s6 = mx_si s3 36 0 ((v2 + (1 : Int32))).toNatClampNeg (vp_nar .boolean (0 : Int32)) → r_Md_findNeeds_30 scr d a1 post ex n s6 (v2 + (1 : Int32)) (0 : Int32) (v4 + (1 : Int32)))) ∧ (¬ v3 = 0 → (vp_in (v2 + (1 : Int32)) 7 ∧ ∀ s7, s7 = mx_si s3 36 0 ((v2 + (1 : Int32))).toNatClampNeg (vp_nar .boolean (1 : Int32)) → r_Md_findNeeds_30 scr d a1 post ex n s7 (v2 + (1 : Int32)) (0 : Int32) (v4 + (1 : Int32)))))) ∧ (¬ (s3.1 36 0 (v2).toNatClampNeg) = 0 → (vp_in (v2 + (1 : Int32)) 7 ∧ ∀ s5, s5 = mx_si s3 36 0 ((v2 + (1 : Int32))).toNatClampNeg (vp_nar .boolean (1 : Int32)) → r_Md_findNeeds_30 scr d a1 post ex n s5 (v2 + (1 : Int32)) (0 : Int32) (v4 + (1 : Int32))))))) ∧ (¬ r2 = (40 : Int32) → ((r2 = (41 : Int32) → r_Md_findNeeds_30 scr d a1 post ex n s3 (v2 + (-1 : Int32)) v3 (v4 + (1 : Int32))) ∧ (¬ r2 = (41 : Int32) → ((r2 = (45 : Int32) → r_Md_findNeeds_30 scr d a1 post ex n s3 v2 (1 : Int32) (v4 + (1 : Int32))) ∧ (¬ r2 = (45 : Int32) → r_Md_findNeeds_30 scr d a1 post ex n s3 v2 (0 : Int32) (v4 + (1 : Int32))))))))) ∧ (¬ (0 : Int32) ≤ 0 → (vp_in v2 7 ∧ (((s3.1 36 0 (v2).toNatClampNeg) = 0 → ((v3 = 0 → X_Md_needOf scr d s3 a1 v4 (0 : Int32) (fun s9 => r_Md_findNeeds_30 scr d a1 post ex n s9 v2 v3 (v4 + (0 : Int32)))) ∧ (¬ v3 = 0 → X_Md_needOf scr d s3 a1 v4 (1 : Int32) (fun s10 => r_Md_findNeeds_30 scr d a1 post ex n s10 v2 v3 (v4 + (0 : Int32)))))) ∧ (¬ (s3.1 36 0 (v2).toNatClampNeg) = 0 → X_Md_needOf scr d s3 a1 v4 (1 : Int32) (fun s8 => r_Md_findNeeds_30 scr d a1 post ex n s8 v2 v3 (v4 + (0 : Int32)))))))))))))))) : r_Md_findNeeds_30 scr d a1 post ex (n + 1) s v2 v3 v4 := h
set_option maxRecDepth 100000 in
theorem w_Md_needOf {scr : mSc} {d : Nat} {s : mSt} {a1 : Int32} {a2 : Int32} {a3 : Int32} {post : mSt → Prop} (h : ∃ n, (vp_in a1 9 ∧ (((s.1 24 0 (a1).toNatClampNeg) = 0 → (((84 : Int32) = (84 : Int32) → r_Md_needOf_32 scr d a1 a2 a3 post (fun _ _ => False) n s (84 : Int32) (0 : Int32)) ∧ (¬ (84 : Int32) = (84 : Int32) → X_Md_named scr d s a1 (a2 + (1 : Int32)) (fun r10 s9 => X_Md_need scr d s9 a1 r10 a3 (fun s11 => (((84 : Int32) = (102 : Int32) → X_Md_named scr d s11 a1 (a2 + (2 : Int32)) (fun r13 s12 => X_Md_need scr d s12 a1 r13 a3 (fun s14 => post s14))) ∧ (¬ (84 : Int32) = (102 : Int32) → post s11))))))) ∧ (¬ (s.1 24 0 (a1).toNatClampNeg) = 0 → X_Md_at scr d s a1 a2 (fun r2 s1 => ((r2 = (84 : Int32) → r_Md_needOf_32 scr d a1 a2 a3 post (fun _ _ => False) n s1 r2 (0 : Int32)) ∧ (¬ r2 = (84 : Int32) → X_Md_named scr d s1 a1 (a2 + (1 : Int32)) (fun r4 s3 => X_Md_need scr d s3 a1 r4 a3 (fun s5 => ((r2 = (102 : Int32) → X_Md_named scr d s5 a1 (a2 + (2 : Int32)) (fun r7 s6 => X_Md_need scr d s6 a1 r7 a3 (fun s8 => post s8))) ∧ (¬ r2 = (102 : Int32) → post s5))))))))))) : X_Md_needOf scr (d + 1) s a1 a2 a3 post := h
set_option maxRecDepth 100000 in
theorem w_Md_needOf_32 {scr : mSc} {d : Nat} {a1 : Int32} {a2 : Int32} {a3 : Int32} {post : mSt → Prop} {ex : Nat → mSt → Prop} {n : Nat} {s : mSt} {v4 : Int32} {v5 : Int32} (h : (((s.1 18 0 2) ≤ v5 → ((v4 = (102 : Int32) → X_Md_named scr d s a1 (a2 + (2 : Int32)) (fun r2 s1 => X_Md_need scr d s1 a1 r2 a3 (fun s3 => post s3))) ∧ (¬ v4 = (102 : Int32) → post s))) ∧ (¬ (s.1 18 0 2) ≤ v5 → (vp_in a1 9 ∧ (((((s.1 22 0 (a1).toNatClampNeg) >>> (v5 &&& 31)) &&& (1 : Int32)) = (1 : Int32) → X_Md_need scr d s a1 v5 a3 (fun s4 => r_Md_needOf_32 scr d a1 a2 a3 post ex n s4 v4 (v5 + (1 : Int32)))) ∧ (¬ (((s.1 22 0 (a1).toNatClampNeg) >>> (v5 &&& 31)) &&& (1 : Int32)) = (1 : Int32) → r_Md_needOf_32 scr d a1 a2 a3 post ex n s v4 (v5 + (1 : Int32)))))))) : r_Md_needOf_32 scr d a1 a2 a3 post ex (n + 1) s v4 v5 := h
set_option maxRecDepth 100000 in
theorem w_Md_need {scr : mSc} {d : Nat} {s : mSt} {a1 : Int32} {a2 : Int32} {a3 : Int32} {post : mSt → Prop} (h : (vp_in (((9 : Int32) * a1) + a2) 81 ∧ ∀ s1, s1 = mx_si s 25 0 ((((9 : Int32) * a1) + a2)).toNatClampNeg (vp_nar .boolean (1 : Int32)) → ((a3 = 0 → post s1) ∧ (¬ a3 = 0 → (vp_in (((9 : Int32) * a1) + a2) 81 ∧ ∀ s2, s2 = mx_si s1 26 0 ((((9 : Int32) * a1) + a2)).toNatClampNeg (vp_nar .boolean (1 : Int32)) → post s2))))) : X_Md_need scr (d + 1) s a1 a2 a3 post := ⟨0, h⟩
set_option maxRecDepth 100000 in
theorem w_Md_close {scr : mSc} {d : Nat} {s : mSt} {post : mSt → Prop} (h : ∃ n, r_Md_close_2 scr d post (fun _ _ => False) n s (0 : Int32)) : X_Md_close scr (d + 1) s post := h
set_option maxRecDepth 100000 in
theorem w_Md_close_2 {scr : mSc} {d : Nat} {post : mSt → Prop} {ex : Nat → mSt → Prop} {n : Nat} {s : mSt} {v1 : Int32} (h : (((81 : Int32) ≤ v1 → r_Md_close_28 scr d post ex n s (0 : Int32)) ∧ (¬ (81 : Int32) ≤ v1 → (vp_in v1 81 ∧ (vp_in v1 81 ∧ ∀ s1, s1 = mx_si s 27 0 (v1).toNatClampNeg (vp_nar .boolean (s.1 25 0 (v1).toNatClampNeg)) → r_Md_close_2 scr d post ex n s1 (v1 + (1 : Int32))))))) : r_Md_close_2 scr d post ex (n + 1) s v1 := h
set_option maxRecDepth 100000 in
theorem w_Md_close_28 {scr : mSc} {d : Nat} {post : mSt → Prop} {ex : Nat → mSt → Prop} {n : Nat} {s : mSt} {v1 : Int32} (h : (((9 : Int32) ≤ v1 → post s) ∧ (¬ (9 : Int32) ≤ v1 → r_Md_close_36 scr d post ex n s v1 (0 : Int32)))) : r_Md_close_28 scr d post ex (n + 1) s v1 := h
set_option maxRecDepth 100000 in
theorem w_Md_close_36 {scr : mSc} {d : Nat} {post : mSt → Prop} {ex : Nat → mSt → Prop} {n : Nat} {s : mSt} {v1 : Int32} {v2 : Int32} (h : (((9 : Int32) ≤ v2 → r_Md_close_28 scr d post ex n s (v1 + (1 : Int32))) ∧ (¬ (9 : Int32) ≤ v2 → r_Md_close_44 scr d post ex n s v1 v2 (0 : Int32)))) : r_Md_close_36 scr d post ex (n + 1) s v1 v2 := h
set_option maxRecDepth 100000 in
theorem w_Md_close_44 {scr : mSc} {d : Nat} {post : mSt → Prop} {ex : Nat → mSt → Prop} {n : Nat} {s : mSt} {v1 : Int32} {v2 : Int32} {v3 : Int32} (h : (((9 : Int32) ≤ v3 → r_Md_close_36 scr d post ex n s v1 (v2 + (1 : Int32))) ∧ (¬ (9 : Int32) ≤ v3 → (vp_in (((9 : Int32) * v2) + v3) 81 ∧ (((s.1 27 0 ((((9 : Int32) * v2) + v3)).toNatClampNeg) = 0 → (vp_in (((9 : Int32) * v2) + v1) 81 ∧ (((s.1 27 0 ((((9 : Int32) * v2) + v1)).toNatClampNeg) = 0 → (vp_in (((9 : Int32) * v2) + v3) 81 ∧ ∀ s2, s2 = mx_si s 27 0 ((((9 : Int32) * v2) + v3)).toNatClampNeg (vp_nar .boolean (0 : Int32)) → r_Md_close_44 scr d post ex n s2 v1 v2 (v3 + (1 : Int32)))) ∧ (¬ (s.1 27 0 ((((9 : Int32) * v2) + v1)).toNatClampNeg) = 0 → (vp_in (((9 : Int32) * v1) + v3) 81 ∧ (((s.1 27 0 ((((9 : Int32) * v1) + v3)).toNatClampNeg) = 0 → (vp_in (((9 : Int32) * v2) + v3) 81 ∧ ∀ s3, s3 = mx_si s 27 0 ((((9 : Int32) * v2) + v3)).toNatClampNeg (vp_nar .boolean (0 : Int32)) → r_Md_close_44 scr d post ex n s3 v1 v2 (v3 + (1 : Int32)))) ∧ (¬ (s.1 27 0 ((((9 : Int32) * v1) + v3)).toNatClampNeg) = 0 → (vp_in (((9 : Int32) * v2) + v3) 81 ∧ ∀ s4, s4 = mx_si s 27 0 ((((9 : Int32) * v2) + v3)).toNatClampNeg (vp_nar .boolean (1 : Int32)) → r_Md_close_44 scr d post ex n s4 v1 v2 (v3 + (1 : Int32)))))))))) ∧ (¬ (s.1 27 0 ((((9 : Int32) * v2) + v3)).toNatClampNeg) = 0 → (vp_in (((9 : Int32) * v2) + v3) 81 ∧ ∀ s1, s1 = mx_si s 27 0 ((((9 : Int32) * v2) + v3)).toNatClampNeg (vp_nar .boolean (1 : Int32)) → r_Md_close_44 scr d post ex n s1 v1 v2 (v3 + (1 : Int32))))))))) : r_Md_close_44 scr d post ex (n + 1) s v1 v2 v3 := h
set_option maxRecDepth 100000 in
theorem w_Md_isCircular {scr : mSc} {d : Nat} {s : mSt} {post : Int32 → mSt → Prop} (h : ∃ n, r_Md_isCircular_4 scr d post (fun _ _ => False) n s (0 : Int32) (0 : Int32)) : X_Md_isCircular scr (d + 1) s post := h
set_option maxRecDepth 100000 in
theorem w_Md_isCircular_4 {scr : mSc} {d : Nat} {post : Int32 → mSt → Prop} {ex : Nat → mSt → Prop} {n : Nat} {s : mSt} {v1 : Int32} {v2 : Int32} (h : (((9 : Int32) ≤ v2 → (mx_nr .boolean v1 ∧ post v1 s)) ∧ (¬ (9 : Int32) ≤ v2 → r_Md_isCircular_12 scr d post ex n s v1 v2 (0 : Int32)))) : r_Md_isCircular_4 scr d post ex (n + 1) s v1 v2 := h
set_option maxRecDepth 100000 in
theorem w_Md_isCircular_12 {scr : mSc} {d : Nat} {post : Int32 → mSt → Prop} {ex : Nat → mSt → Prop} {n : Nat} {s : mSt} {v1 : Int32} {v2 : Int32} {v3 : Int32} (h : (((9 : Int32) ≤ v3 → r_Md_isCircular_4 scr d post ex n s v1 (v2 + (1 : Int32))) ∧ (¬ (9 : Int32) ≤ v3 → ((v1 = 0 → (vp_in (((9 : Int32) * v2) + v3) 81 ∧ (((s.1 26 0 ((((9 : Int32) * v2) + v3)).toNatClampNeg) = 0 → r_Md_isCircular_12 scr d post ex n s (0 : Int32) v2 (v3 + (1 : Int32))) ∧ (¬ (s.1 26 0 ((((9 : Int32) * v2) + v3)).toNatClampNeg) = 0 → (vp_in (((9 : Int32) * v3) + v2) 81 ∧ (((s.1 27 0 ((((9 : Int32) * v3) + v2)).toNatClampNeg) = 0 → r_Md_isCircular_12 scr d post ex n s (0 : Int32) v2 (v3 + (1 : Int32))) ∧ (¬ (s.1 27 0 ((((9 : Int32) * v3) + v2)).toNatClampNeg) = 0 → r_Md_isCircular_12 scr d post ex n s (1 : Int32) v2 (v3 + (1 : Int32))))))))) ∧ (¬ v1 = 0 → r_Md_isCircular_12 scr d post ex n s (1 : Int32) v2 (v3 + (1 : Int32))))))) : r_Md_isCircular_12 scr d post ex (n + 1) s v1 v2 v3 := h
set_option maxRecDepth 100000 in
theorem w_Md_findLevels {scr : mSc} {d : Nat} {s : mSt} {post : mSt → Prop} (h : ∃ n, r_Md_findLevels_2 scr d post (fun _ _ => False) n s (0 : Int32)) : X_Md_findLevels scr (d + 1) s post := h
set_option maxRecDepth 100000 in
theorem w_Md_findLevels_2 {scr : mSc} {d : Nat} {post : mSt → Prop} {ex : Nat → mSt → Prop} {n : Nat} {s : mSt} {v1 : Int32} (h : (((9 : Int32) ≤ v1 → r_Md_findLevels_23 scr d post ex n s (0 : Int32)) ∧ (¬ (9 : Int32) ≤ v1 → (vp_in v1 9 ∧ ∀ s1, s1 = mx_si s 28 0 (v1).toNatClampNeg (0 : Int32) → r_Md_findLevels_2 scr d post ex n s1 (v1 + (1 : Int32)))))) : r_Md_findLevels_2 scr d post ex (n + 1) s v1 := h
set_option maxRecDepth 100000 in
theorem w_Md_findLevels_23 {scr : mSc} {d : Nat} {post : mSt → Prop} {ex : Nat → mSt → Prop} {n : Nat} {s : mSt} {v1 : Int32} (h : (((90 : Int32) ≤ v1 → post s) ∧ (¬ (90 : Int32) ≤ v1 → r_Md_findLevels_31 scr d post ex n s v1 (0 : Int32)))) : r_Md_findLevels_23 scr d post ex (n + 1) s v1 := h
set_option maxRecDepth 100000 in
theorem w_Md_findLevels_31 {scr : mSc} {d : Nat} {post : mSt → Prop} {ex : Nat → mSt → Prop} {n : Nat} {s : mSt} {v1 : Int32} {v2 : Int32} (h : (((81 : Int32) ≤ v2 → r_Md_findLevels_23 scr d post ex n s (v1 + (1 : Int32))) ∧ (¬ (81 : Int32) ≤ v2 → (vp_in v2 81 ∧ (((s.1 25 0 (v2).toNatClampNeg) = 0 → (¬ (9 : Int32) = 0 ∧ (vp_in (v2 / (9 : Int32)) 9 ∧ (((0 : Int32) ≤ (s.1 28 0 ((v2 / (9 : Int32))).toNatClampNeg) → r_Md_findLevels_31 scr d post ex n s v1 (v2 + (1 : Int32))) ∧ (¬ (0 : Int32) ≤ (s.1 28 0 ((v2 / (9 : Int32))).toNatClampNeg) → (¬ (9 : Int32) = 0 ∧ (vp_in (v2 / (9 : Int32)) 9 ∧ ∀ s1, s1 = mx_si s 28 0 ((v2 / (9 : Int32))).toNatClampNeg (0 : Int32) → r_Md_findLevels_31 scr d post ex n s1 v1 (v2 + (1 : Int32))))))))) ∧ (¬ (s.1 25 0 (v2).toNatClampNeg) = 0 → (¬ (9 : Int32) = 0 ∧ (vp_in (v2 - v2 / (9 : Int32) * (9 : Int32)) 9 ∧ (vp_in v2 81 ∧ (((s.1 26 0 (v2).toNatClampNeg) = 0 → (¬ (9 : Int32) = 0 ∧ (vp_in (v2 / (9 : Int32)) 9 ∧ ((((s.1 28 0 ((v2 - v2 / (9 : Int32) * (9 : Int32))).toNatClampNeg) + (0 : Int32)) ≤ (s.1 28 0 ((v2 / (9 : Int32))).toNatClampNeg) → r_Md_findLevels_31 scr d post ex n s v1 (v2 + (1 : Int32))) ∧ (¬ ((s.1 28 0 ((v2 - v2 / (9 : Int32) * (9 : Int32))).toNatClampNeg) + (0 : Int32)) ≤ (s.1 28 0 ((v2 / (9 : Int32))).toNatClampNeg) → (¬ (9 : Int32) = 0 ∧ (vp_in (v2 / (9 : Int32)) 9 ∧ ∀ s2, s2 = mx_si s 28 0 ((v2 / (9 : Int32))).toNatClampNeg ((s.1 28 0 ((v2 - v2 / (9 : Int32) * (9 : Int32))).toNatClampNeg) + (0 : Int32)) → r_Md_findLevels_31 scr d post ex n s2 v1 (v2 + (1 : Int32))))))))) ∧ (¬ (s.1 26 0 (v2).toNatClampNeg) = 0 → (¬ (9 : Int32) = 0 ∧ (vp_in (v2 / (9 : Int32)) 9 ∧ ((((s.1 28 0 ((v2 - v2 / (9 : Int32) * (9 : Int32))).toNatClampNeg) + (1 : Int32)) ≤ (s.1 28 0 ((v2 / (9 : Int32))).toNatClampNeg) → r_Md_findLevels_31 scr d post ex n s v1 (v2 + (1 : Int32))) ∧ (¬ ((s.1 28 0 ((v2 - v2 / (9 : Int32) * (9 : Int32))).toNatClampNeg) + (1 : Int32)) ≤ (s.1 28 0 ((v2 / (9 : Int32))).toNatClampNeg) → (¬ (9 : Int32) = 0 ∧ (vp_in (v2 / (9 : Int32)) 9 ∧ ∀ s3, s3 = mx_si s 28 0 ((v2 / (9 : Int32))).toNatClampNeg ((s.1 28 0 ((v2 - v2 / (9 : Int32) * (9 : Int32))).toNatClampNeg) + (1 : Int32)) → r_Md_findLevels_31 scr d post ex n s3 v1 (v2 + (1 : Int32))))))))))))))))))) : r_Md_findLevels_31 scr d post ex (n + 1) s v1 v2 := h
set_option maxRecDepth 100000 in
theorem w_Md_change {scr : mSc} {d : Nat} {s : mSt} {a1 : Int32} {a2 : Int32} {a3 : Int32} {a4 : Int32} {a5 : Int32} {a6 : Int32} {post : Int32 → mSt → Prop} (h : (∀ s1, s1 = mx_si s 18 0 1 (0 : Int32) → (((s1.1 18 0 3) = 0 → (∀ s61, s61 = mx_si s1 18 0 1 (1 : Int32) → (((s61.1 18 0 1) ≤ 0 → ((a1 = 0 → (vp_in ((6 : Int32) * (s61.1 18 0 19)) 30 ∧ ∀ s62, s62 = mx_si s61 31 0 (((6 : Int32) * (s61.1 18 0 19))).toNatClampNeg (0 : Int32) → (vp_in (((6 : Int32) * (s61.1 18 0 19)) + (1 : Int32)) 30 ∧ ∀ s63, s63 = mx_si s62 31 0 ((((6 : Int32) * (s61.1 18 0 19)) + (1 : Int32))).toNatClampNeg a2 → (vp_in (((6 : Int32) * (s61.1 18 0 19)) + (2 : Int32)) 30 ∧ ∀ s64, s64 = mx_si s63 31 0 ((((6 : Int32) * (s61.1 18 0 19)) + (2 : Int32))).toNatClampNeg a3 → (vp_in (((6 : Int32) * (s61.1 18 0 19)) + (3 : Int32)) 30 ∧ ∀ s65, s65 = mx_si s64 31 0 ((((6 : Int32) * (s61.1 18 0 19)) + (3 : Int32))).toNatClampNeg a4 → (vp_in (((6 : Int32) * (s61.1 18 0 19)) + (4 : Int32)) 30 ∧ ∀ s66, s66 = mx_si s65 31 0 ((((6 : Int32) * (s61.1 18 0 19)) + (4 : Int32))).toNatClampNeg a5 → ((a4 = (2 : Int32) → (vp_in (((6 : Int32) * (s61.1 18 0 19)) + (5 : Int32)) 30 ∧ ∀ s69, s69 = mx_si s66 31 0 ((((6 : Int32) * (s61.1 18 0 19)) + (5 : Int32))).toNatClampNeg a6 → (∀ s70, s70 = mx_si s69 18 0 19 ((s69.1 18 0 19) + (1 : Int32)) → post (s70.1 18 0 19) s70))) ∧ (¬ a4 = (2 : Int32) → (vp_in (((6 : Int32) * (s61.1 18 0 19)) + (5 : Int32)) 30 ∧ ∀ s67, s67 = mx_si s66 31 0 ((((6 : Int32) * (s61.1 18 0 19)) + (5 : Int32))).toNatClampNeg (0 : Int32) → (∀ s68, s68 = mx_si s67 18 0 19 ((s67.1 18 0 19) + (1 : Int32)) → post (s68.1 18 0 19) s68)))))))))) ∧ (¬ a1 = 0 → (vp_in ((6 : Int32) * (s61.1 18 0 19)) 30 ∧ ∀ s71, s71 = mx_si s61 31 0 (((6 : Int32) * (s61.1 18 0 19))).toNatClampNeg (1 : Int32) → (vp_in (((6 : Int32) * (s61.1 18 0 19)) + (1 : Int32)) 30 ∧ ∀ s72, s72 = mx_si s71 31 0 ((((6 : Int32) * (s61.1 18 0 19)) + (1 : Int32))).toNatClampNeg a2 → (vp_in (((6 : Int32) * (s61.1 18 0 19)) + (2 : Int32)) 30 ∧ ∀ s73, s73 = mx_si s72 31 0 ((((6 : Int32) * (s61.1 18 0 19)) + (2 : Int32))).toNatClampNeg a3 → (vp_in (((6 : Int32) * (s61.1 18 0 19)) + (3 : Int32)) 30 ∧ ∀ s74, s74 = mx_si s73 31 0 ((((6 : Int32) * (s61.1 18 0 19)) + (3 : Int32))).toNatClampNeg a4 → (vp_in (((6 : Int32) * (s61.1 18 0 19)) + (4 : Int32)) 30 ∧ ∀ s75, s75 = mx_si s74 31 0 ((((6 : Int32) * (s61.1 18 0 19)) + (4 : Int32))).toNatClampNeg a5 → ((a4 = (2 : Int32) → (vp_in (((6 : Int32) * (s61.1 18 0 19)) + (5 : Int32)) 30 ∧ ∀ s78, s78 = mx_si s75 31 0 ((((6 : Int32) * (s61.1 18 0 19)) + (5 : Int32))).toNatClampNeg a6 → (∀ s79, s79 = mx_si s78 18 0 19 ((s78.1 18 0 19) + (1 : Int32)) → post (s79.1 18 0 19) s79))) ∧ (¬ a4 = (2 : Int32) → (vp_in (((6 : Int32) * (s61.1 18 0 19)) + (5 : Int32)) 30 ∧ ∀ s76, s76 = mx_si s75 31 0 ((((6 : Int32) * (s61.1 18 0 19)) + (5 : Int32))).toNatClampNeg (0 : Int32) → (∀ s77, s77 = mx_si s76 18 0 19 ((s76.1 18 0 19) + (1 : Int32)) → post (s77.1 18 0 19) s77)))))))))))) ∧ (¬ (s61.1 18 0 1) ≤ 0 → post (0 : Int32) s61)))) ∧ (¬ (s1.1 18 0 3) = 0 → X_Md_isTuple scr d s1 a2 a3 a4 a5 a6 (fun r3 s2 => ((r3 = 0 → (∀ s42, s42 = mx_si s2 18 0 1 (2 : Int32) → (((s42.1 18 0 1) ≤ 0 → ((a1 = 0 → (vp_in ((6 : Int32) * (s42.1 18 0 19)) 30 ∧ ∀ s43, s43 = mx_si s42 31 0 (((6 : Int32) * (s42.1 18 0 19))).toNatClampNeg (0 : Int32) → (vp_in (((6 : Int32) * (s42.1 18 0 19)) + (1 : Int32)) 30 ∧ ∀ s44, s44 = mx_si s43 31 0 ((((6 : Int32) * (s42.1 18 0 19)) + (1 : Int32))).toNatClampNeg a2 → (vp_in (((6 : Int32) * (s42.1 18 0 19)) + (2 : Int32)) 30 ∧ ∀ s45, s45 = mx_si s44 31 0 ((((6 : Int32) * (s42.1 18 0 19)) + (2 : Int32))).toNatClampNeg a3 → (vp_in (((6 : Int32) * (s42.1 18 0 19)) + (3 : Int32)) 30 ∧ ∀ s46, s46 = mx_si s45 31 0 ((((6 : Int32) * (s42.1 18 0 19)) + (3 : Int32))).toNatClampNeg a4 → (vp_in (((6 : Int32) * (s42.1 18 0 19)) + (4 : Int32)) 30 ∧ ∀ s47, s47 = mx_si s46 31 0 ((((6 : Int32) * (s42.1 18 0 19)) + (4 : Int32))).toNatClampNeg a5 → ((a4 = (2 : Int32) → (vp_in (((6 : Int32) * (s42.1 18 0 19)) + (5 : Int32)) 30 ∧ ∀ s50, s50 = mx_si s47 31 0 ((((6 : Int32) * (s42.1 18 0 19)) + (5 : Int32))).toNatClampNeg a6 → (∀ s51, s51 = mx_si s50 18 0 19 ((s50.1 18 0 19) + (1 : Int32)) → post (s51.1 18 0 19) s51))) ∧ (¬ a4 = (2 : Int32) → (vp_in (((6 : Int32) * (s42.1 18 0 19)) + (5 : Int32)) 30 ∧ ∀ s48, s48 = mx_si s47 31 0 ((((6 : Int32) * (s42.1 18 0 19)) + (5 : Int32))).toNatClampNeg (0 : Int32) → (∀ s49, s49 = mx_si s48 18 0 19 ((s48.1 18 0 19) + (1 : Int32)) → post (s49.1 18 0 19) s49)))))))))) ∧ (¬ a1 = 0 → (vp_in ((6 : Int32) * (s42.1 18 0 19)) 30 ∧ ∀ s52, s52 = mx_si s42 31 0 (((6 : Int32) * (s42.1 18 0 19))).toNatClampNeg (1 : Int32) → (vp_in (((6 : Int32) * (s42.1 18 0 19)) + (1 : Int32)) 30 ∧ ∀ s53, s53 = mx_si s52 31 0 ((((6 : Int32) * (s42.1 18 0 19)) + (1 : Int32))).toNatClampNeg a2 → (vp_in (((6 : Int32) * (s42.1 18 0 19)) + (2 : Int32)) 30 ∧ ∀ s54, s54 = mx_si s53 31 0 ((((6 : Int32) * (s42.1 18 0 19)) + (2 : Int32))).toNatClampNeg a3 → (vp_in (((6 : Int32) * (s42.1 18 0 19)) + (3 : Int32)) 30 ∧ ∀ s55, s55 = mx_si s54 31 0 ((((6 : Int32) * (s42.1 18 0 19)) + (3 : Int32))).toNatClampNeg a4 → (vp_in (((6 : Int32) * (s42.1 18 0 19)) + (4 : Int32)) 30 ∧ ∀ s56, s56 = mx_si s55 31 0 ((((6 : Int32) * (s42.1 18 0 19)) + (4 : Int32))).toNatClampNeg a5 → ((a4 = (2 : Int32) → (vp_in (((6 : Int32) * (s42.1 18 0 19)) + (5 : Int32)) 30 ∧ ∀ s59, s59 = mx_si s56 31 0 ((((6 : Int32) * (s42.1 18 0 19)) + (5 : Int32))).toNatClampNeg a6 → (∀ s60, s60 = mx_si s59 18 0 19 ((s59.1 18 0 19) + (1 : Int32)) → post (s60.1 18 0 19) s60))) ∧ (¬ a4 = (2 : Int32) → (vp_in (((6 : Int32) * (s42.1 18 0 19)) + (5 : Int32)) 30 ∧ ∀ s57, s57 = mx_si s56 31 0 ((((6 : Int32) * (s42.1 18 0 19)) + (5 : Int32))).toNatClampNeg (0 : Int32) → (∀ s58, s58 = mx_si s57 18 0 19 ((s57.1 18 0 19) + (1 : Int32)) → post (s58.1 18 0 19) s58)))))))))))) ∧ (¬ (s42.1 18 0 1) ≤ 0 → post (0 : Int32) s42)))) ∧ (¬ r3 = 0 → (((s2.1 18 0 19) = (5 : Int32) → (∀ s23, s23 = mx_si s2 18 0 1 (3 : Int32) → (((s23.1 18 0 1) ≤ 0 → ((a1 = 0 → (vp_in ((6 : Int32) * (s23.1 18 0 19)) 30 ∧ ∀ s24, s24 = mx_si s23 31 0 (((6 : Int32) * (s23.1 18 0 19))).toNatClampNeg (0 : Int32) → (vp_in (((6 : Int32) * (s23.1 18 0 19)) + (1 : Int32)) 30 ∧ ∀ s25, s25 = mx_si s24 31 0 ((((6 : Int32) * (s23.1 18 0 19)) + (1 : Int32))).toNatClampNeg a2 → (vp_in (((6 : Int32) * (s23.1 18 0 19)) + (2 : Int32)) 30 ∧ ∀ s26, s26 = mx_si s25 31 0 ((((6 : Int32) * (s23.1 18 0 19)) + (2 : Int32))).toNatClampNeg a3 → (vp_in (((6 : Int32) * (s23.1 18 0 19)) + (3 : Int32)) 30 ∧ ∀ s27, s27 = mx_si s26 31 0 ((((6 : Int32) * (s23.1 18 0 19)) + (3 : Int32))).toNatClampNeg a4 → (vp_in (((6 : Int32) * (s23.1 18 0 19)) + (4 : Int32)) 30 ∧ ∀ s28, s28 = mx_si s27 31 0 ((((6 : Int32) * (s23.1 18 0 19)) + (4 : Int32))).toNatClampNeg a5 → ((a4 = (2 : Int32) → (vp_in (((6 : Int32) * (s23.1 18 0 19)) + (5 : Int32)) 30 ∧ ∀ s31, s31 = mx_si s28 31 0 ((((6 : Int32) * (s23.1 18 0 19)) + (5 : Int32))).toNatClampNeg a6 → (∀ s32, s32 = mx_si s31 18 0 19 ((s31.1 18 0 19) + (1 : Int32)) → post (s32.1 18 0 19) s32))) ∧ (¬ a4 = (2 : Int32) → (vp_in (((6 : Int32) * (s23.1 18 0 19)) + (5 : Int32)) 30 ∧ ∀ s29, s29 = mx_si s28 31 0 ((((6 : Int32) * (s23.1 18 0 19)) + (5 : Int32))).toNatClampNeg (0 : Int32) → (∀ s30, s30 = mx_si s29 18 0 19 ((s29.1 18 0 19) + (1 : Int32)) → post (s30.1 18 0 19) s30)))))))))) ∧ (¬ a1 = 0 → (vp_in ((6 : Int32) * (s23.1 18 0 19)) 30 ∧ ∀ s33, s33 = mx_si s23 31 0 (((6 : Int32) * (s23.1 18 0 19))).toNatClampNeg (1 : Int32) → (vp_in (((6 : Int32) * (s23.1 18 0 19)) + (1 : Int32)) 30 ∧ ∀ s34, s34 = mx_si s33 31 0 ((((6 : Int32) * (s23.1 18 0 19)) + (1 : Int32))).toNatClampNeg a2 → (vp_in (((6 : Int32) * (s23.1 18 0 19)) + (2 : Int32)) 30 ∧ ∀ s35, s35 = mx_si s34 31 0 ((((6 : Int32) * (s23.1 18 0 19)) + (2 : Int32))).toNatClampNeg a3 → (vp_in (((6 : Int32) * (s23.1 18 0 19)) + (3 : Int32)) 30 ∧ ∀ s36, s36 = mx_si s35 31 0 ((((6 : Int32) * (s23.1 18 0 19)) + (3 : Int32))).toNatClampNeg a4 → (vp_in (((6 : Int32) * (s23.1 18 0 19)) + (4 : Int32)) 30 ∧ ∀ s37, s37 = mx_si s36 31 0 ((((6 : Int32) * (s23.1 18 0 19)) + (4 : Int32))).toNatClampNeg a5 → ((a4 = (2 : Int32) → (vp_in (((6 : Int32) * (s23.1 18 0 19)) + (5 : Int32)) 30 ∧ ∀ s40, s40 = mx_si s37 31 0 ((((6 : Int32) * (s23.1 18 0 19)) + (5 : Int32))).toNatClampNeg a6 → (∀ s41, s41 = mx_si s40 18 0 19 ((s40.1 18 0 19) + (1 : Int32)) → post (s41.1 18 0 19) s41))) ∧ (¬ a4 = (2 : Int32) → (vp_in (((6 : Int32) * (s23.1 18 0 19)) + (5 : Int32)) 30 ∧ ∀ s38, s38 = mx_si s37 31 0 ((((6 : Int32) * (s23.1 18 0 19)) + (5 : Int32))).toNatClampNeg (0 : Int32) → (∀ s39, s39 = mx_si s38 18 0 19 ((s38.1 18 0 19) + (1 : Int32)) → post (s39.1 18 0 19) s39)))))))))))) ∧ (¬ (s23.1 18 0 1) ≤ 0 → post (0 : Int32) s23)))) ∧ (¬ (s2.1 18 0 19) = (5 : Int32) → (∀ s4, s4 = mx_si s2 18 0 1 (0 : Int32) → (((s4.1 18 0 1) ≤ 0 → ((a1 = 0 → (vp_in ((6 : Int32) * (s4.1 18 0 19)) 30 ∧ ∀ s5, s5 = mx_si s4 31 0 (((6 : Int32) * (s4.1 18 0 19))).toNatClampNeg (0 : Int32) → (vp_in (((6 : Int32) * (s4.1 18 0 19)) + (1 : Int32)) 30 ∧ ∀ s6, s6 = mx_si s5 31 0 ((((6 : Int32) * (s4.1 18 0 19)) + (1 : Int32))).toNatClampNeg a2 → (vp_in (((6 : Int32) * (s4.1 18 0 19)) + (2 : Int32)) 30 ∧ ∀ s7, s7 = mx_si s6 31 0 ((((6 : Int32) * (s4.1 18 0 19)) + (2 : Int32))).toNatClampNeg a3 → (vp_in (((6 : Int32) * (s4.1 18 0 19)) + (3 : Int32)) 30 ∧ ∀ s8, s8 = mx_si s7 31 0 ((((6 : Int32) * (s4.1 18 0 19)) + (3 : Int32))).toNatClampNeg a4 → (vp_in (((6 : Int32) * (s4.1 18 0 19)) + (4 : Int32)) 30 ∧ ∀ s9, s9 = mx_si s8 31 0 ((((6 : Int32) * (s4.1 18 0 19)) + (4 : Int32))).toNatClampNeg a5 → ((a4 = (2 : Int32) → (vp_in (((6 : Int32) * (s4.1 18 0 19)) + (5 : Int32)) 30 ∧ ∀ s12, s12 = mx_si s9 31 0 ((((6 : Int32) * (s4.1 18 0 19)) + (5 : Int32))).toNatClampNeg a6 → (∀ s13, s13 = mx_si s12 18 0 19 ((s12.1 18 0 19) + (1 : Int32)) → post (s13.1 18 0 19) s13))) ∧ (¬ a4 = (2 : Int32) → (vp_in (((6 : Int32) * (s4.1 18 0 19)) + (5 : Int32)) 30 ∧ ∀ s10, s10 = mx_si s9 31 0 ((((6 : Int32) * (s4.1 18 0 19)) + (5 : Int32))).toNatClampNeg (0 : Int32) → (∀ s11, s11 = mx_si s10 18 0 19 ((s10.1 18 0 19) + (1 : Int32)) → post (s11.1 18 0 19) s11)))))))))) ∧ (¬ a1 = 0 → (vp_in ((6 : Int32) * (s4.1 18 0 19)) 30 ∧ ∀ s14, s14 = mx_si s4 31 0 (((6 : Int32) * (s4.1 18 0 19))).toNatClampNeg (1 : Int32) → (vp_in (((6 : Int32) * (s4.1 18 0 19)) + (1 : Int32)) 30 ∧ ∀ s15, s15 = mx_si s14 31 0 ((((6 : Int32) * (s4.1 18 0 19)) + (1 : Int32))).toNatClampNeg a2 → (vp_in (((6 : Int32) * (s4.1 18 0 19)) + (2 : Int32)) 30 ∧ ∀ s16, s16 = mx_si s15 31 0 ((((6 : Int32) * (s4.1 18 0 19)) + (2 : Int32))).toNatClampNeg a3 → (vp_in (((6 : Int32) * (s4.1 18 0 19)) + (3 : Int32)) 30 ∧ ∀ s17, s17 = mx_si s16 31 0 ((((6 : Int32) * (s4.1 18 0 19)) + (3 : Int32))).toNatClampNeg a4 → (vp_in (((6 : Int32) * (s4.1 18 0 19)) + (4 : Int32)) 30 ∧ ∀ s18, s18 = mx_si s17 31 0 ((((6 : Int32) * (s4.1 18 0 19)) + (4 : Int32))).toNatClampNeg a5 → ((a4 = (2 : Int32) → (vp_in (((6 : Int32) * (s4.1 18 0 19)) + (5 : Int32)) 30 ∧ ∀ s21, s21 = mx_si s18 31 0 ((((6 : Int32) * (s4.1 18 0 19)) + (5 : Int32))).toNatClampNeg a6 → (∀ s22, s22 = mx_si s21 18 0 19 ((s21.1 18 0 19) + (1 : Int32)) → post (s22.1 18 0 19) s22))) ∧ (¬ a4 = (2 : Int32) → (vp_in (((6 : Int32) * (s4.1 18 0 19)) + (5 : Int32)) 30 ∧ ∀ s19, s19 = mx_si s18 31 0 ((((6 : Int32) * (s4.1 18 0 19)) + (5 : Int32))).toNatClampNeg (0 : Int32) → (∀ s20, s20 = mx_si s19 18 0 19 ((s19.1 18 0 19) + (1 : Int32)) → post (s20.1 18 0 19) s20)))))))))))) ∧ (¬ (s4.1 18 0 1) ≤ 0 → post (0 : Int32) s4)))))))))))) : X_Md_change scr (d + 1) s a1 a2 a3 a4 a5 a6 post := ⟨0, h⟩
set_option maxRecDepth 100000 in
theorem w_Md_isTuple {scr : mSc} {d : Nat} {s : mSt} {a1 : Int32} {a2 : Int32} {a3 : Int32} {a4 : Int32} {a5 : Int32} {post : Int32 → mSt → Prop} (h : X_Md_isOf scr d s a1 a2 (fun r2 s1 => ((r2 = 0 → (mx_nr .boolean (0 : Int32) ∧ post (0 : Int32) s1)) ∧ (¬ r2 = 0 → ((a3 < 0 → (mx_nr .boolean (0 : Int32) ∧ post (0 : Int32) s1)) ∧ (¬ a3 < 0 → ((a3 ≤ (2 : Int32) → ((a3 = 0 → ((a4 < 0 → (mx_nr .boolean (0 : Int32) ∧ post (0 : Int32) s1)) ∧ (¬ a4 < 0 → (((8 : Int32) ≤ a4 → (mx_nr .boolean (0 : Int32) ∧ post (0 : Int32) s1)) ∧ (¬ (8 : Int32) ≤ a4 → (vp_in a2 9 ∧ (((s1.1 20 0 (a2).toNatClampNeg) = 0 → (mx_nr .boolean (0 : Int32) ∧ post (0 : Int32) s1)) ∧ (¬ (s1.1 20 0 (a2).toNatClampNeg) = 0 → (mx_nr .boolean (1 : Int32) ∧ post (1 : Int32) s1))))))))) ∧ (¬ a3 = 0 → ((a3 = (1 : Int32) → ((a4 < 0 → (mx_nr .boolean (0 : Int32) ∧ post (0 : Int32) s1)) ∧ (¬ a4 < 0 → (((12 : Int32) ≤ a4 → (mx_nr .boolean (0 : Int32) ∧ post (0 : Int32) s1)) ∧ (¬ (12 : Int32) ≤ a4 → (vp_in a2 9 ∧ (¬ (4 : Int32) = 0 ∧ (((((s1.1 21 0 (a2).toNatClampNeg) >>> ((a4 / (4 : Int32)) &&& 31)) &&& (1 : Int32)) = (1 : Int32) → (mx_nr .boolean (1 : Int32) ∧ post (1 : Int32) s1)) ∧ (¬ (((s1.1 21 0 (a2).toNatClampNeg) >>> ((a4 / (4 : Int32)) &&& 31)) &&& (1 : Int32)) = (1 : Int32) → (mx_nr .boolean (0 : Int32) ∧ post (0 : Int32) s1)))))))))) ∧ (¬ a3 = (1 : Int32) → X_Md_isOf scr d s1 a4 a5 (fun r4 s3 => ((r4 = 0 → (mx_nr .boolean (0 : Int32) ∧ post (0 : Int32) s3)) ∧ (¬ r4 = 0 → (vp_in a2 9 ∧ (((((s3.1 22 0 (a2).toNatClampNeg) >>> (a5 &&& 31)) &&& (1 : Int32)) = (1 : Int32) → (mx_nr .boolean (1 : Int32) ∧ post (1 : Int32) s3)) ∧ (¬ (((s3.1 22 0 (a2).toNatClampNeg) >>> (a5 &&& 31)) &&& (1 : Int32)) = (1 : Int32) → (mx_nr .boolean (0 : Int32) ∧ post (0 : Int32) s3)))))))))))) ∧ (¬ a3 ≤ (2 : Int32) → (mx_nr .boolean (0 : Int32) ∧ post (0 : Int32) s1))))))))) : X_Md_isTuple scr (d + 1) s a1 a2 a3 a4 a5 post := ⟨0, h⟩
set_option maxRecDepth 100000 in
theorem w_Md_isOf {scr : mSc} {d : Nat} {s : mSt} {a1 : Int32} {a2 : Int32} {post : Int32 → mSt → Prop} (h : ((a1 < 0 → (mx_nr .boolean (0 : Int32) ∧ post (0 : Int32) s)) ∧ (¬ a1 < 0 → (((12 : Int32) ≤ a1 → (mx_nr .boolean (0 : Int32) ∧ post (0 : Int32) s)) ∧ (¬ (12 : Int32) ≤ a1 → X_Md_isRelation scr d s a2 (fun r2 s1 => ((r2 = 0 → (mx_nr .boolean (0 : Int32) ∧ post (0 : Int32) s1)) ∧ (¬ r2 = 0 → (vp_in a2 9 ∧ (¬ (4 : Int32) = 0 ∧ (((s1.1 19 0 (a2).toNatClampNeg) = (a1 / (4 : Int32)) → (mx_nr .boolean (1 : Int32) ∧ post (1 : Int32) s1)) ∧ (¬ (s1.1 19 0 (a2).toNatClampNeg) = (a1 / (4 : Int32)) → (mx_nr .boolean (0 : Int32) ∧ post (0 : Int32) s1))))))))))))) : X_Md_isOf scr (d + 1) s a1 a2 post := ⟨0, h⟩
set_option maxRecDepth 100000 in
theorem w_Md_commit {scr : mSc} {d : Nat} {s : mSt} {a1 : Int32} {post : Int32 → mSt → Prop} (h : ∃ n, (∀ s1, s1 = mx_si s 18 0 1 (0 : Int32) → (((s1.1 18 0 19) = 0 → (∀ s2, s2 = mx_si s1 18 0 1 (1 : Int32) → post (0 : Int32) s2)) ∧ (¬ (s1.1 18 0 19) = 0 → ((((s1.1 18 0 17) + ((s1.1 18 0 19) + (1 : Int32))) ≤ (120 : Int32) → ((a1 < 0 → (∀ s3, s3 = mx_si s1 18 0 18 ((s1.1 18 0 18) + (1 : Int32)) → r_Md_commit_65 scr d a1 post (fun _ _ => False) n s3 ((s1.1 18 0 19) + (1 : Int32)) (0 : Int32))) ∧ (¬ a1 < 0 → ((((s1.1 18 0 19) + (1 : Int32)) ≤ a1 → (∀ s4, s4 = mx_si s1 18 0 18 ((s1.1 18 0 18) + (1 : Int32)) → r_Md_commit_65 scr d a1 post (fun _ _ => False) n s4 ((s1.1 18 0 19) + (1 : Int32)) (0 : Int32))) ∧ (¬ ((s1.1 18 0 19) + (1 : Int32)) ≤ a1 → (∀ s5, s5 = mx_si s1 18 0 19 (0 : Int32) → post (-1 : Int32) s5)))))) ∧ (¬ ((s1.1 18 0 17) + ((s1.1 18 0 19) + (1 : Int32))) ≤ (120 : Int32) → (∀ s6, s6 = mx_si s1 18 0 1 (1 : Int32) → post (0 : Int32) s6))))))) : X_Md_commit scr (d + 1) s a1 post := h
set_option maxRecDepth 100000 in
theorem w_Md_commit_65 {scr : mSc} {d : Nat} {a1 : Int32} {post : Int32 → mSt → Prop} {ex : Nat → mSt → Prop} {n : Nat} {s : mSt} {v2 : Int32} {v3 : Int32} (h : ((((6 : Int32) * (s.1 18 0 19)) ≤ v3 → r_Md_commit_104 scr d a1 post ex n s v2 (0 : Int32)) ∧ (¬ ((6 : Int32) * (s.1 18 0 19)) ≤ v3 → (vp_in v3 30 ∧ (vp_in (((6 : Int32) * (s.1 18 0 14)) + v3) 720 ∧ ∀ s1, s1 = mx_si s 29 0 ((((6 : Int32) * (s.1 18 0 14)) + v3)).toNatClampNeg (s.1 31 0 (v3).toNatClampNeg) → r_Md_commit_65 scr d a1 post ex n s1 v2 (v3 + (1 : Int32))))))) : r_Md_commit_65 scr d a1 post ex (n + 1) s v2 v3 := h
set_option maxRecDepth 100000 in
theorem w_Md_commit_104 {scr : mSc} {d : Nat} {a1 : Int32} {post : Int32 → mSt → Prop} {ex : Nat → mSt → Prop} {n : Nat} {s : mSt} {v2 : Int32} {v3 : Int32} (h : (((s.1 18 0 19) ≤ v3 → (∀ s1, s1 = mx_si s 18 0 14 ((s.1 18 0 14) + (s.1 18 0 19)) → (∀ s2, s2 = mx_si s1 18 0 17 ((s1.1 18 0 17) + v2) → (∀ s3, s3 = mx_si s2 18 0 19 (0 : Int32) → post (s3.1 18 0 18) s3)))) ∧ (¬ (s.1 18 0 19) ≤ v3 → (vp_in ((s.1 18 0 14) + v3) 120 ∧ ∀ s4, s4 = mx_si s 30 0 (((s.1 18 0 14) + v3)).toNatClampNeg (s.1 18 0 18) → r_Md_commit_104 scr d a1 post ex n s4 v2 (v3 + (1 : Int32)))))) : r_Md_commit_104 scr d a1 post ex (n + 1) s v2 v3 := h
set_option maxRecDepth 100000 in
theorem w_Md_crash {scr : mSc} {d : Nat} {s : mSt} {post : mSt → Prop} (h : (∀ s1, s1 = mx_si s 18 0 1 (0 : Int32) → (∀ s2, s2 = mx_si s1 18 0 19 (0 : Int32) → post s2))) : X_Md_crash scr (d + 1) s post := ⟨0, h⟩
set_option maxRecDepth 100000 in
theorem w_Md_latest {scr : mSc} {d : Nat} {s : mSt} {post : Int32 → mSt → Prop} (h : (∀ s1, s1 = mx_si s 18 0 1 (0 : Int32) → post (s1.1 18 0 18) s1)) : X_Md_latest scr (d + 1) s post := ⟨0, h⟩
set_option maxRecDepth 100000 in
theorem w_Md_records {scr : mSc} {d : Nat} {s : mSt} {post : Int32 → mSt → Prop} (h : (∀ s1, s1 = mx_si s 18 0 1 (0 : Int32) → post (s1.1 18 0 17) s1)) : X_Md_records scr (d + 1) s post := ⟨0, h⟩
set_option maxRecDepth 100000 in
theorem w_Md_tuples {scr : mSc} {d : Nat} {s : mSt} {a1 : Int32} {post : Int32 → mSt → Prop} (h : X_Md_isFine scr d s a1 (1 : Int32) (fun r2 s1 => ((r2 = 0 → post (0 : Int32) s1) ∧ (¬ r2 = 0 → X_Md_play scr d s1 a1 (fun s3 => post (s3.1 18 0 21) s3))))) : X_Md_tuples scr (d + 1) s a1 post := ⟨0, h⟩
set_option maxRecDepth 100000 in
theorem w_Md_isFine {scr : mSc} {d : Nat} {s : mSt} {a1 : Int32} {a2 : Int32} {post : Int32 → mSt → Prop} (h : (∀ s1, s1 = mx_si s 18 0 1 (0 : Int32) → ((a1 < 0 → X_Md_fail scr d s1 (1 : Int32) (fun r3 s2 => (mx_nr .boolean r3 ∧ post r3 s2))) ∧ (¬ a1 < 0 → (((s1.1 18 0 18) < a1 → X_Md_fail scr d s1 (1 : Int32) (fun r5 s4 => (mx_nr .boolean r5 ∧ post r5 s4))) ∧ (¬ (s1.1 18 0 18) < a1 → ((a2 = 0 → X_Md_fail scr d s1 (1 : Int32) (fun r9 s8 => (mx_nr .boolean r9 ∧ post r9 s8))) ∧ (¬ a2 = 0 → ((((s1.1 18 0 18) - (s1.1 18 0 0)) < a1 → (mx_nr .boolean (1 : Int32) ∧ post (1 : Int32) s1)) ∧ (¬ ((s1.1 18 0 18) - (s1.1 18 0 0)) < a1 → X_Md_fail scr d s1 (2 : Int32) (fun r7 s6 => ((r7 = 0 → (mx_nr .boolean (0 : Int32) ∧ post (0 : Int32) s6)) ∧ (¬ r7 = 0 → (mx_nr .boolean (1 : Int32) ∧ post (1 : Int32) s6)))))))))))))) : X_Md_isFine scr (d + 1) s a1 a2 post := ⟨0, h⟩
set_option maxRecDepth 100000 in
theorem w_Md_fail {scr : mSc} {d : Nat} {s : mSt} {a1 : Int32} {post : Int32 → mSt → Prop} (h : (∀ s1, s1 = mx_si s 18 0 1 a1 → (mx_nr .boolean (0 : Int32) ∧ post (0 : Int32) s1))) : X_Md_fail scr (d + 1) s a1 post := ⟨0, h⟩
set_option maxRecDepth 100000 in
theorem w_Md_play {scr : mSc} {d : Nat} {s : mSt} {a1 : Int32} {post : mSt → Prop} (h : ∃ n, (∀ s1, s1 = mx_si s 18 0 21 (0 : Int32) → r_Md_play_7 scr d a1 post (fun _ _ => False) n s1 (0 : Int32))) : X_Md_play scr (d + 1) s a1 post := h
set_option maxRecDepth 100000 in
theorem w_Md_play_7 {scr : mSc} {d : Nat} {a1 : Int32} {post : mSt → Prop} {ex : Nat → mSt → Prop} {n : Nat} {s : mSt} {v2 : Int32} (h : (((s.1 18 0 14) ≤ v2 → post s) ∧ (¬ (s.1 18 0 14) ≤ v2 → (vp_in v2 120 ∧ ((a1 < (s.1 30 0 (v2).toNatClampNeg) → post s) ∧ (¬ a1 < (s.1 30 0 (v2).toNatClampNeg) → r_Md_play_27 scr d a1 post ex n s v2 (0 : Int32))))))) : r_Md_play_7 scr d a1 post ex (n + 1) s v2 := h
set_option maxRecDepth 100000 in
theorem w_Md_play_27 {scr : mSc} {d : Nat} {a1 : Int32} {post : mSt → Prop} {ex : Nat → mSt → Prop} {n : Nat} {s : mSt} {v2 : Int32} {v3 : Int32} (h : (((s.1 18 0 21) ≤ v3 → (vp_in ((6 : Int32) * v2) 720 ∧ (((s.1 29 0 (((6 : Int32) * v2)).toNatClampNeg) = (1 : Int32) → (vp_in v3 120 ∧ ∀ s3, s3 = mx_si s 32 0 (v3).toNatClampNeg v2 → ((v3 = (s3.1 18 0 21) → (∀ s5, s5 = mx_si s3 18 0 21 ((s3.1 18 0 21) + (1 : Int32)) → r_Md_play_7 scr d a1 post ex n s5 (v2 + (1 : Int32)))) ∧ (¬ v3 = (s3.1 18 0 21) → (∀ s4, s4 = mx_si s3 18 0 21 (s3.1 18 0 21) → r_Md_play_7 scr d a1 post ex n s4 (v2 + (1 : Int32))))))) ∧ (¬ (s.1 29 0 (((6 : Int32) * v2)).toNatClampNeg) = (1 : Int32) → (((s.1 18 0 21) ≤ v3 → r_Md_play_7 scr d a1 post ex n s (v2 + (1 : Int32))) ∧ (¬ (s.1 18 0 21) ≤ v3 → (∀ s1, s1 = mx_si s 18 0 21 ((s.1 18 0 21) - (1 : Int32)) → (vp_in (s1.1 18 0 21) 120 ∧ (vp_in v3 120 ∧ ∀ s2, s2 = mx_si s1 32 0 (v3).toNatClampNeg (s1.1 32 0 ((s1.1 18 0 21)).toNatClampNeg) → r_Md_play_7 scr d a1 post ex n s2 (v2 + (1 : Int32))))))))))) ∧ (¬ (s.1 18 0 21) ≤ v3 → (vp_in v3 120 ∧ X_Md_same scr d s (s.1 32 0 (v3).toNatClampNeg) v2 (fun r7 s6 => ((r7 = 0 → r_Md_play_27 scr d a1 post ex n s6 v2 (v3 + (1 : Int32))) ∧ (¬ r7 = 0 → (vp_in ((6 : Int32) * v2) 720 ∧ (((s6.1 29 0 (((6 : Int32) * v2)).toNatClampNeg) = (1 : Int32) → (vp_in v3 120 ∧ ∀ s10, s10 = mx_si s6 32 0 (v3).toNatClampNeg v2 → ((v3 = (s10.1 18 0 21) → (∀ s12, s12 = mx_si s10 18 0 21 ((s10.1 18 0 21) + (1 : Int32)) → r_Md_play_7 scr d a1 post ex n s12 (v2 + (1 : Int32)))) ∧ (¬ v3 = (s10.1 18 0 21) → (∀ s11, s11 = mx_si s10 18 0 21 (s10.1 18 0 21) → r_Md_play_7 scr d a1 post ex n s11 (v2 + (1 : Int32))))))) ∧ (¬ (s6.1 29 0 (((6 : Int32) * v2)).toNatClampNeg) = (1 : Int32) → (((s6.1 18 0 21) ≤ v3 → r_Md_play_7 scr d a1 post ex n s6 (v2 + (1 : Int32))) ∧ (¬ (s6.1 18 0 21) ≤ v3 → (∀ s8, s8 = mx_si s6 18 0 21 ((s6.1 18 0 21) - (1 : Int32)) → (vp_in (s8.1 18 0 21) 120 ∧ (vp_in v3 120 ∧ ∀ s9, s9 = mx_si s8 32 0 (v3).toNatClampNeg (s8.1 32 0 ((s8.1 18 0 21)).toNatClampNeg) → r_Md_play_7 scr d a1 post ex n s9 (v2 + (1 : Int32))))))))))))))))) : r_Md_play_27 scr d a1 post ex (n + 1) s v2 v3 := h
set_option maxRecDepth 100000 in
theorem w_Md_same {scr : mSc} {d : Nat} {s : mSt} {a1 : Int32} {a2 : Int32} {post : Int32 → mSt → Prop} (h : ∃ n, r_Md_same_5 scr d a1 a2 post (fun _ _ => False) n s (1 : Int32) (1 : Int32)) : X_Md_same scr (d + 1) s a1 a2 post := h
set_option maxRecDepth 100000 in
theorem w_Md_same_5 {scr : mSc} {d : Nat} {a1 : Int32} {a2 : Int32} {post : Int32 → mSt → Prop} {ex : Nat → mSt → Prop} {n : Nat} {s : mSt} {v3 : Int32} {v4 : Int32} (h : (((6 : Int32) ≤ v4 → (mx_nr .boolean v3 ∧ post v3 s)) ∧ (¬ (6 : Int32) ≤ v4 → ((v3 = 0 → r_Md_same_5 scr d a1 a2 post ex n s (0 : Int32) (v4 + (1 : Int32))) ∧ (¬ v3 = 0 → (vp_in (((6 : Int32) * a1) + v4) 720 ∧ (vp_in (((6 : Int32) * a2) + v4) 720 ∧ (((s.1 29 0 ((((6 : Int32) * a1) + v4)).toNatClampNeg) = (s.1 29 0 ((((6 : Int32) * a2) + v4)).toNatClampNeg) → r_Md_same_5 scr d a1 a2 post ex n s (1 : Int32) (v4 + (1 : Int32))) ∧ (¬ (s.1 29 0 ((((6 : Int32) * a1) + v4)).toNatClampNeg) = (s.1 29 0 ((((6 : Int32) * a2) + v4)).toNatClampNeg) → r_Md_same_5 scr d a1 a2 post ex n s (0 : Int32) (v4 + (1 : Int32))))))))))) : r_Md_same_5 scr d a1 a2 post ex (n + 1) s v3 v4 := h
set_option maxRecDepth 100000 in
theorem w_Md_check {scr : mSc} {d : Nat} {s : mSt} {a1 : Int32} {a2 : Int32} {a3 : Int32} {a4 : Int32} {post : Int32 → mSt → Prop} (h : (((s.1 18 0 3) = 0 → X_Md_isFine scr d s a1 (0 : Int32) (fun r2 s1 => ((r2 = 0 → (mx_nr .boolean (0 : Int32) ∧ post (0 : Int32) s1)) ∧ (¬ r2 = 0 → X_Md_findMembers scr d s1 a1 (fun s3 => (vp_in (((9 : Int32) * a2) + a3) 108 ∧ (((((s3.1 33 0 ((((9 : Int32) * a2) + a3)).toNatClampNeg) >>> (a4 &&& 31)) &&& (1 : Int32)) = (1 : Int32) → (mx_nr .boolean (1 : Int32) ∧ post (1 : Int32) s3)) ∧ (¬ (((s3.1 33 0 ((((9 : Int32) * a2) + a3)).toNatClampNeg) >>> (a4 &&& 31)) &&& (1 : Int32)) = (1 : Int32) → (mx_nr .boolean (0 : Int32) ∧ post (0 : Int32) s3))))))))) ∧ (¬ (s.1 18 0 3) = 0 → X_Md_isOf scr d s a2 a3 (fun r5 s4 => ((r5 = 0 → X_Md_isFine scr d s4 a1 (0 : Int32) (fun r7 s6 => ((r7 = 0 → (mx_nr .boolean (0 : Int32) ∧ post (0 : Int32) s6)) ∧ (¬ r7 = 0 → X_Md_findMembers scr d s6 a1 (fun s8 => (vp_in (((9 : Int32) * a2) + a3) 108 ∧ (((((s8.1 33 0 ((((9 : Int32) * a2) + a3)).toNatClampNeg) >>> (a4 &&& 31)) &&& (1 : Int32)) = (1 : Int32) → (mx_nr .boolean (1 : Int32) ∧ post (1 : Int32) s8)) ∧ (¬ (((s8.1 33 0 ((((9 : Int32) * a2) + a3)).toNatClampNeg) >>> (a4 &&& 31)) &&& (1 : Int32)) = (1 : Int32) → (mx_nr .boolean (0 : Int32) ∧ post (0 : Int32) s8))))))))) ∧ (¬ r5 = 0 → X_Md_isUser scr d s4 a4 (fun r10 s9 => ((r10 = 0 → X_Md_isFine scr d s9 a1 (0 : Int32) (fun r12 s11 => ((r12 = 0 → (mx_nr .boolean (0 : Int32) ∧ post (0 : Int32) s11)) ∧ (¬ r12 = 0 → X_Md_findMembers scr d s11 a1 (fun s13 => (vp_in (((9 : Int32) * a2) + a3) 108 ∧ (((((s13.1 33 0 ((((9 : Int32) * a2) + a3)).toNatClampNeg) >>> (a4 &&& 31)) &&& (1 : Int32)) = (1 : Int32) → (mx_nr .boolean (1 : Int32) ∧ post (1 : Int32) s13)) ∧ (¬ (((s13.1 33 0 ((((9 : Int32) * a2) + a3)).toNatClampNeg) >>> (a4 &&& 31)) &&& (1 : Int32)) = (1 : Int32) → (mx_nr .boolean (0 : Int32) ∧ post (0 : Int32) s13))))))))) ∧ (¬ r10 = 0 → X_Md_isFine scr d s9 a1 (1 : Int32) (fun r15 s14 => ((r15 = 0 → (mx_nr .boolean (0 : Int32) ∧ post (0 : Int32) s14)) ∧ (¬ r15 = 0 → X_Md_findMembers scr d s14 a1 (fun s16 => (vp_in (((9 : Int32) * a2) + a3) 108 ∧ (((((s16.1 33 0 ((((9 : Int32) * a2) + a3)).toNatClampNeg) >>> (a4 &&& 31)) &&& (1 : Int32)) = (1 : Int32) → (mx_nr .boolean (1 : Int32) ∧ post (1 : Int32) s16)) ∧ (¬ (((s16.1 33 0 ((((9 : Int32) * a2) + a3)).toNatClampNeg) >>> (a4 &&& 31)) &&& (1 : Int32)) = (1 : Int32) → (mx_nr .boolean (0 : Int32) ∧ post (0 : Int32) s16))))))))))))))))) : X_Md_check scr (d + 1) s a1 a2 a3 a4 post := ⟨0, h⟩
set_option maxRecDepth 100000 in
theorem w_Md_isUser {scr : mSc} {d : Nat} {s : mSt} {a0 : Int32} {post : Int32 → mSt → Prop} (h : ((a0 < 0 → (mx_nr .boolean (0 : Int32) ∧ post (0 : Int32) s)) ∧ (¬ a0 < 0 → (((8 : Int32) ≤ a0 → (mx_nr .boolean (0 : Int32) ∧ post (0 : Int32) s)) ∧ (¬ (8 : Int32) ≤ a0 → (mx_nr .boolean (1 : Int32) ∧ post (1 : Int32) s)))))) : X_Md_isUser scr (d + 1) s a0 post := ⟨0, h⟩
set_option maxRecDepth 100000 in
theorem w_Md_findMembers {scr : mSc} {d : Nat} {s : mSt} {a1 : Int32} {post : mSt → Prop} (h : ∃ n, X_Md_play scr d s a1 (fun s1 => r_Md_findMembers_7 scr d a1 post (fun _ _ => False) n s1 (0 : Int32))) : X_Md_findMembers scr (d + 1) s a1 post := h
set_option maxRecDepth 100000 in
theorem w_Md_findMembers_7 {scr : mSc} {d : Nat} {a1 : Int32} {post : mSt → Prop} {ex : Nat → mSt → Prop} {n : Nat} {s : mSt} {v2 : Int32} (h : (((108 : Int32) ≤ v2 → r_Md_findMembers_28 scr d a1 post ex n s (0 : Int32)) ∧ (¬ (108 : Int32) ≤ v2 → (vp_in v2 108 ∧ ∀ s1, s1 = mx_si s 33 0 (v2).toNatClampNeg (0 : Int32) → r_Md_findMembers_7 scr d a1 post ex n s1 (v2 + (1 : Int32)))))) : r_Md_findMembers_7 scr d a1 post ex (n + 1) s v2 := h
set_option maxRecDepth 100000 in
theorem w_Md_findMembers_28 {scr : mSc} {d : Nat} {a1 : Int32} {post : mSt → Prop} {ex : Nat → mSt → Prop} {n : Nat} {s : mSt} {v2 : Int32} (h : (((9 : Int32) < v2 → post s) ∧ (¬ (9 : Int32) < v2 → r_Md_findMembers_39 scr d a1 post ex n s v2 (1 : Int32) (0 : Int32)))) : r_Md_findMembers_28 scr d a1 post ex (n + 1) s v2 := h
set_option maxRecDepth 100000 in
theorem w_Md_findMembers_39 {scr : mSc} {d : Nat} {a1 : Int32} {post : mSt → Prop} {ex : Nat → mSt → Prop} {n : Nat} {s : mSt} {v2 : Int32} {v3 : Int32} {v4 : Int32} (h : (((400 : Int32) ≤ v4 → r_Md_findMembers_28 scr d a1 post ex n s (v2 + (1 : Int32))) ∧ (¬ (400 : Int32) ≤ v4 → ((v3 = 0 → r_Md_findMembers_28 scr d a1 post ex n s (v2 + (1 : Int32))) ∧ (¬ v3 = 0 → r_Md_findMembers_56 scr d a1 post ex n s v2 (0 : Int32) v4 (0 : Int32)))))) : r_Md_findMembers_39 scr d a1 post ex (n + 1) s v2 v3 v4 := h
set_option maxRecDepth 100000 in
theorem w_Md_findMembers_56 {scr : mSc} {d : Nat} {a1 : Int32} {post : mSt → Prop} {ex : Nat → mSt → Prop} {n : Nat} {s : mSt} {v2 : Int32} {v3 : Int32} {v4 : Int32} {v5 : Int32} (h : (((108 : Int32) ≤ v5 → r_Md_findMembers_39 scr d a1 post ex n s v2 v3 (v4 + (1 : Int32))) ∧ (¬ (108 : Int32) ≤ v5 → (¬ (9 : Int32) = 0 ∧ (¬ (9 : Int32) = 0 ∧ X_Md_isOf scr d s (v5 / (9 : Int32)) (v5 - v5 / (9 : Int32) * (9 : Int32)) (fun r2 s1 => ((r2 = 0 → r_Md_findMembers_56 scr d a1 post ex n s1 v2 v3 v4 (v5 + (1 : Int32))) ∧ (¬ r2 = 0 → (vp_in (v5 - v5 / (9 : Int32) * (9 : Int32)) 9 ∧ (((s1.1 28 0 ((v5 - v5 / (9 : Int32) * (9 : Int32))).toNatClampNeg) = v2 → (¬ (9 : Int32) = 0 ∧ X_Md_worked scr d s1 (v5 / (9 : Int32)) (v5 - v5 / (9 : Int32) * (9 : Int32)) (fun r4 s3 => ((v3 = 0 → (vp_in v5 108 ∧ ((r4 = (s3.1 33 0 (v5).toNatClampNeg) → (vp_in v5 108 ∧ ∀ s6, s6 = mx_si s3 33 0 (v5).toNatClampNeg r4 → r_Md_findMembers_56 scr d a1 post ex n s6 v2 (0 : Int32) v4 (v5 + (1 : Int32)))) ∧ (¬ r4 = (s3.1 33 0 (v5).toNatClampNeg) → (vp_in v5 108 ∧ ∀ s7, s7 = mx_si s3 33 0 (v5).toNatClampNeg r4 → r_Md_findMembers_56 scr d a1 post ex n s7 v2 (1 : Int32) v4 (v5 + (1 : Int32))))))) ∧ (¬ v3 = 0 → (vp_in v5 108 ∧ ∀ s5, s5 = mx_si s3 33 0 (v5).toNatClampNeg r4 → r_Md_findMembers_56 scr d a1 post ex n s5 v2 (1 : Int32) v4 (v5 + (1 : Int32)))))))) ∧ (¬ (s1.1 28 0 ((v5 - v5 / (9 : Int32) * (9 : Int32))).toNatClampNeg) = v2 → r_Md_findMembers_56 scr d a1 post ex n s1 v2 v3 v4 (v5 + (1 : Int32))))))))))))) : r_Md_findMembers_56 scr d a1 post ex (n + 1) s v2 v3 v4 v5 := h
set_option maxRecDepth 100000 in
theorem w_Md_worked {scr : mSc} {d : Nat} {s : mSt} {a1 : Int32} {a2 : Int32} {post : Int32 → mSt → Prop} (h : ∃ n, (vp_in a2 9 ∧ (((s.1 24 0 (a2).toNatClampNeg) = 0 → X_Md_told scr d s a1 a2 (fun r3 s2 => post r3 s2)) ∧ (¬ (s.1 24 0 (a2).toNatClampNeg) = 0 → (vp_in (0 : Int32) 7 ∧ ∀ s1, s1 = mx_si s 35 0 ((0 : Int32)).toNatClampNeg (0 : Int32) → r_Md_worked_28 scr d a1 a2 post (fun _ _ => False) n s1 (0 : Int32) (0 : Int32)))))) : X_Md_worked scr (d + 1) s a1 a2 post := h
set_option maxRecDepth 100000 in
theorem w_Md_worked_28 {scr : mSc} {d : Nat} {a1 : Int32} {a2 : Int32} {post : Int32 → mSt → Prop} {ex : Nat → mSt → Prop} {n : Nat} {s : mSt} {v3 : Int32} {v4 : Int32} (h : (vp_in a2 9 ∧ (((s.1 24 0 (a2).toNatClampNeg) ≤ v4 → (vp_in (0 : Int32) 7 ∧ post (s.1 34 0 ((0 : Int32)).toNatClampNeg) s)) ∧ (¬ (s.1 24 0 (a2).toNatClampNeg) ≤ v4 → X_Md_at scr d s a2 v4 (fun r2 s1 => ((r2 = (40 : Int32) → (vp_in (v3 + (1 : Int32)) 7 ∧ ∀ s12, s12 = mx_si s1 35 0 ((v3 + (1 : Int32))).toNatClampNeg (0 : Int32) → r_Md_worked_28 scr d a1 a2 post ex n s12 (v3 + (1 : Int32)) (v4 + (1 : Int32)))) ∧ (¬ r2 = (40 : Int32) → ((r2 = (41 : Int32) → (vp_in ((v3 + (-1 : Int32)) + (1 : Int32)) 7 ∧ X_Md_join scr d s1 (v3 + (-1 : Int32)) (s1.1 34 0 (((v3 + (-1 : Int32)) + (1 : Int32))).toNatClampNeg) (fun s11 => r_Md_worked_28 scr d a1 a2 post ex n s11 (v3 + (-1 : Int32)) (v4 + (1 : Int32))))) ∧ (¬ r2 = (41 : Int32) → X_Md_isSign scr d s1 r2 (fun r4 s3 => ((r4 = 0 → X_Md_partOf scr d s3 a1 a2 v4 (fun r6 s5 => X_Md_join scr d s5 v3 r6 (fun s7 => X_Md_partAt scr d s7 a2 v4 (fun r9 s8 => r_Md_worked_28 scr d a1 a2 post ex n s8 v3 ((v4 + (r9 - (1 : Int32))) + (1 : Int32)))))) ∧ (¬ r4 = 0 → (vp_in v3 7 ∧ ∀ s10, s10 = mx_si s3 35 0 (v3).toNatClampNeg r2 → r_Md_worked_28 scr d a1 a2 post ex n s10 v3 (v4 + (1 : Int32))))))))))))))) : r_Md_worked_28 scr d a1 a2 post ex (n + 1) s v3 v4 := h
set_option maxRecDepth 100000 in
theorem w_Md_told {scr : mSc} {d : Nat} {s : mSt} {a1 : Int32} {a2 : Int32} {post : Int32 → mSt → Prop} (h : ∃ n, r_Md_told_5 scr d a1 a2 post (fun _ _ => False) n s (0 : Int32) (0 : Int32)) : X_Md_told scr (d + 1) s a1 a2 post := h
set_option maxRecDepth 100000 in
theorem w_Md_told_5 {scr : mSc} {d : Nat} {a1 : Int32} {a2 : Int32} {post : Int32 → mSt → Prop} {ex : Nat → mSt → Prop} {n : Nat} {s : mSt} {v3 : Int32} {v4 : Int32} (h : (((s.1 18 0 21) ≤ v4 → post v3 s) ∧ (¬ (s.1 18 0 21) ≤ v4 → (vp_in v4 120 ∧ (vp_in (((6 : Int32) * (s.1 32 0 (v4).toNatClampNeg)) + (1 : Int32)) 720 ∧ (((s.1 29 0 ((((6 : Int32) * (s.1 32 0 (v4).toNatClampNeg)) + (1 : Int32))).toNatClampNeg) = a1 → (vp_in (((6 : Int32) * (s.1 32 0 (v4).toNatClampNeg)) + (2 : Int32)) 720 ∧ (((s.1 29 0 ((((6 : Int32) * (s.1 32 0 (v4).toNatClampNeg)) + (2 : Int32))).toNatClampNeg) = a2 → (vp_in (((6 : Int32) * (s.1 32 0 (v4).toNatClampNeg)) + (3 : Int32)) 720 ∧ (((s.1 29 0 ((((6 : Int32) * (s.1 32 0 (v4).toNatClampNeg)) + (3 : Int32))).toNatClampNeg) = 0 → (vp_in (((6 : Int32) * (s.1 32 0 (v4).toNatClampNeg)) + (4 : Int32)) 720 ∧ (vp_in (((6 : Int32) * (s.1 32 0 (v4).toNatClampNeg)) + (3 : Int32)) 720 ∧ (((s.1 29 0 ((((6 : Int32) * (s.1 32 0 (v4).toNatClampNeg)) + (3 : Int32))).toNatClampNeg) = (2 : Int32) → (vp_in (((6 : Int32) * (s.1 32 0 (v4).toNatClampNeg)) + (4 : Int32)) 720 ∧ (vp_in (((6 : Int32) * (s.1 32 0 (v4).toNatClampNeg)) + (5 : Int32)) 720 ∧ (vp_in (((9 : Int32) * (s.1 29 0 ((((6 : Int32) * (s.1 32 0 (v4).toNatClampNeg)) + (4 : Int32))).toNatClampNeg)) + (s.1 29 0 ((((6 : Int32) * (s.1 32 0 (v4).toNatClampNeg)) + (5 : Int32))).toNatClampNeg)) 108 ∧ r_Md_told_5 scr d a1 a2 post ex n s ((v3 ||| ((1 : Int32) <<< ((s.1 29 0 ((((6 : Int32) * (s.1 32 0 (v4).toNatClampNeg)) + (4 : Int32))).toNatClampNeg) &&& 31))) ||| (s.1 33 0 ((((9 : Int32) * (s.1 29 0 ((((6 : Int32) * (s.1 32 0 (v4).toNatClampNeg)) + (4 : Int32))).toNatClampNeg)) + (s.1 29 0 ((((6 : Int32) * (s.1 32 0 (v4).toNatClampNeg)) + (5 : Int32))).toNatClampNeg))).toNatClampNeg)) (v4 + (1 : Int32)))))) ∧ (¬ (s.1 29 0 ((((6 : Int32) * (s.1 32 0 (v4).toNatClampNeg)) + (3 : Int32))).toNatClampNeg) = (2 : Int32) → r_Md_told_5 scr d a1 a2 post ex n s (v3 ||| ((1 : Int32) <<< ((s.1 29 0 ((((6 : Int32) * (s.1 32 0 (v4).toNatClampNeg)) + (4 : Int32))).toNatClampNeg) &&& 31))) (v4 + (1 : Int32))))))) ∧ (¬ (s.1 29 0 ((((6 : Int32) * (s.1 32 0 (v4).toNatClampNeg)) + (3 : Int32))).toNatClampNeg) = 0 → (vp_in (((6 : Int32) * (s.1 32 0 (v4).toNatClampNeg)) + (3 : Int32)) 720 ∧ (((s.1 29 0 ((((6 : Int32) * (s.1 32 0 (v4).toNatClampNeg)) + (3 : Int32))).toNatClampNeg) = (2 : Int32) → (vp_in (((6 : Int32) * (s.1 32 0 (v4).toNatClampNeg)) + (4 : Int32)) 720 ∧ (vp_in (((6 : Int32) * (s.1 32 0 (v4).toNatClampNeg)) + (5 : Int32)) 720 ∧ (vp_in (((9 : Int32) * (s.1 29 0 ((((6 : Int32) * (s.1 32 0 (v4).toNatClampNeg)) + (4 : Int32))).toNatClampNeg)) + (s.1 29 0 ((((6 : Int32) * (s.1 32 0 (v4).toNatClampNeg)) + (5 : Int32))).toNatClampNeg)) 108 ∧ r_Md_told_5 scr d a1 a2 post ex n s (v3 ||| (s.1 33 0 ((((9 : Int32) * (s.1 29 0 ((((6 : Int32) * (s.1 32 0 (v4).toNatClampNeg)) + (4 : Int32))).toNatClampNeg)) + (s.1 29 0 ((((6 : Int32) * (s.1 32 0 (v4).toNatClampNeg)) + (5 : Int32))).toNatClampNeg))).toNatClampNeg)) (v4 + (1 : Int32)))))) ∧ (¬ (s.1 29 0 ((((6 : Int32) * (s.1 32 0 (v4).toNatClampNeg)) + (3 : Int32))).toNatClampNeg) = (2 : Int32) → r_Md_told_5 scr d a1 a2 post ex n s v3 (v4 + (1 : Int32))))))))) ∧ (¬ (s.1 29 0 ((((6 : Int32) * (s.1 32 0 (v4).toNatClampNeg)) + (2 : Int32))).toNatClampNeg) = a2 → r_Md_told_5 scr d a1 a2 post ex n s v3 (v4 + (1 : Int32)))))) ∧ (¬ (s.1 29 0 ((((6 : Int32) * (s.1 32 0 (v4).toNatClampNeg)) + (1 : Int32))).toNatClampNeg) = a1 → r_Md_told_5 scr d a1 a2 post ex n s v3 (v4 + (1 : Int32))))))))) : r_Md_told_5 scr d a1 a2 post ex (n + 1) s v3 v4 := h
set_option maxRecDepth 100000 in
theorem w_Md_join {scr : mSc} {d : Nat} {s : mSt} {a1 : Int32} {a2 : Int32} {post : mSt → Prop} (h : (vp_in a1 7 ∧ (vp_in a1 7 ∧ (((s.1 35 0 (a1).toNatClampNeg) = (38 : Int32) → (vp_in a1 7 ∧ ∀ s4, s4 = mx_si s 34 0 (a1).toNatClampNeg ((s.1 34 0 (a1).toNatClampNeg) &&& a2) → post s4)) ∧ (¬ (s.1 35 0 (a1).toNatClampNeg) = (38 : Int32) → (((s.1 35 0 (a1).toNatClampNeg) = (124 : Int32) → (vp_in a1 7 ∧ ∀ s3, s3 = mx_si s 34 0 (a1).toNatClampNeg ((s.1 34 0 (a1).toNatClampNeg) ||| a2) → post s3)) ∧ (¬ (s.1 35 0 (a1).toNatClampNeg) = (124 : Int32) → (((s.1 35 0 (a1).toNatClampNeg) = (45 : Int32) → (vp_in a1 7 ∧ ∀ s2, s2 = mx_si s 34 0 (a1).toNatClampNeg ((s.1 34 0 (a1).toNatClampNeg) &&& (a2 ^^^ (-1 : Int32))) → post s2)) ∧ (¬ (s.1 35 0 (a1).toNatClampNeg) = (45 : Int32) → (vp_in a1 7 ∧ ∀ s1, s1 = mx_si s 34 0 (a1).toNatClampNeg a2 → post s1)))))))))) : X_Md_join scr (d + 1) s a1 a2 post := ⟨0, h⟩
set_option maxRecDepth 100000 in
theorem w_Md_partOf {scr : mSc} {d : Nat} {s : mSt} {a1 : Int32} {a2 : Int32} {a3 : Int32} {post : Int32 → mSt → Prop} (h : X_Md_at scr d s a2 a3 (fun r2 s1 => ((r2 = (84 : Int32) → X_Md_told scr d s1 a1 a2 (fun r10 s9 => post r10 s9)) ∧ (¬ r2 = (84 : Int32) → X_Md_named scr d s1 a2 (a3 + (1 : Int32)) (fun r4 s3 => ((r2 = (99 : Int32) → (vp_in (((9 : Int32) * a1) + r4) 108 ∧ post (s3.1 33 0 ((((9 : Int32) * a1) + r4)).toNatClampNeg) s3)) ∧ (¬ r2 = (99 : Int32) → X_Md_named scr d s3 a2 (a3 + (2 : Int32)) (fun r6 s5 => X_Md_from scr d s5 a1 r4 r6 (fun r8 s7 => post r8 s7))))))))) : X_Md_partOf scr (d + 1) s a1 a2 a3 post := ⟨0, h⟩
set_option maxRecDepth 100000 in
theorem w_Md_from {scr : mSc} {d : Nat} {s : mSt} {a1 : Int32} {a2 : Int32} {a3 : Int32} {post : Int32 → mSt → Prop} (h : ∃ n, r_Md_from_6 scr d a1 a2 a3 post (fun _ _ => False) n s (0 : Int32) (0 : Int32)) : X_Md_from scr (d + 1) s a1 a2 a3 post := h
set_option maxRecDepth 100000 in
theorem w_Md_from_6 {scr : mSc} {d : Nat} {a1 : Int32} {a2 : Int32} {a3 : Int32} {post : Int32 → mSt → Prop} {ex : Nat → mSt → Prop} {n : Nat} {s : mSt} {v4 : Int32} {v5 : Int32} (h : (((s.1 18 0 21) ≤ v5 → post v4 s) ∧ (¬ (s.1 18 0 21) ≤ v5 → (vp_in v5 120 ∧ (vp_in (((6 : Int32) * (s.1 32 0 (v5).toNatClampNeg)) + (1 : Int32)) 720 ∧ (((s.1 29 0 ((((6 : Int32) * (s.1 32 0 (v5).toNatClampNeg)) + (1 : Int32))).toNatClampNeg) = a1 → (vp_in (((6 : Int32) * (s.1 32 0 (v5).toNatClampNeg)) + (2 : Int32)) 720 ∧ (((s.1 29 0 ((((6 : Int32) * (s.1 32 0 (v5).toNatClampNeg)) + (2 : Int32))).toNatClampNeg) = a2 → (vp_in (((6 : Int32) * (s.1 32 0 (v5).toNatClampNeg)) + (3 : Int32)) 720 ∧ (((s.1 29 0 ((((6 : Int32) * (s.1 32 0 (v5).toNatClampNeg)) + (3 : Int32))).toNatClampNeg) = (1 : Int32) → (vp_in (((6 : Int32) * (s.1 32 0 (v5).toNatClampNeg)) + (4 : Int32)) 720 ∧ (¬ (4 : Int32) = 0 ∧ (vp_in a3 9 ∧ ((((s.1 29 0 ((((6 : Int32) * (s.1 32 0 (v5).toNatClampNeg)) + (4 : Int32))).toNatClampNeg) / (4 : Int32)) = (s.1 19 0 (a3).toNatClampNeg) → (vp_in (((6 : Int32) * (s.1 32 0 (v5).toNatClampNeg)) + (4 : Int32)) 720 ∧ (vp_in (((9 : Int32) * (s.1 29 0 ((((6 : Int32) * (s.1 32 0 (v5).toNatClampNeg)) + (4 : Int32))).toNatClampNeg)) + a3) 108 ∧ r_Md_from_6 scr d a1 a2 a3 post ex n s (v4 ||| (s.1 33 0 ((((9 : Int32) * (s.1 29 0 ((((6 : Int32) * (s.1 32 0 (v5).toNatClampNeg)) + (4 : Int32))).toNatClampNeg)) + a3)).toNatClampNeg)) (v5 + (1 : Int32))))) ∧ (¬ ((s.1 29 0 ((((6 : Int32) * (s.1 32 0 (v5).toNatClampNeg)) + (4 : Int32))).toNatClampNeg) / (4 : Int32)) = (s.1 19 0 (a3).toNatClampNeg) → r_Md_from_6 scr d a1 a2 a3 post ex n s v4 (v5 + (1 : Int32)))))))) ∧ (¬ (s.1 29 0 ((((6 : Int32) * (s.1 32 0 (v5).toNatClampNeg)) + (3 : Int32))).toNatClampNeg) = (1 : Int32) → r_Md_from_6 scr d a1 a2 a3 post ex n s v4 (v5 + (1 : Int32)))))) ∧ (¬ (s.1 29 0 ((((6 : Int32) * (s.1 32 0 (v5).toNatClampNeg)) + (2 : Int32))).toNatClampNeg) = a2 → r_Md_from_6 scr d a1 a2 a3 post ex n s v4 (v5 + (1 : Int32)))))) ∧ (¬ (s.1 29 0 ((((6 : Int32) * (s.1 32 0 (v5).toNatClampNeg)) + (1 : Int32))).toNatClampNeg) = a1 → r_Md_from_6 scr d a1 a2 a3 post ex n s v4 (v5 + (1 : Int32))))))))) : r_Md_from_6 scr d a1 a2 a3 post ex (n + 1) s v4 v5 := h
set_option maxRecDepth 100000 in
theorem w_Md_expand {scr : mSc} {d : Nat} {s : mSt} {a1 : Int32} {a2 : Int32} {a3 : Int32} {post : Int32 → mSt → Prop} (h : (((s.1 18 0 3) = 0 → X_Md_isFine scr d s a1 (0 : Int32) (fun r2 s1 => ((r2 = 0 → post (0 : Int32) s1) ∧ (¬ r2 = 0 → X_Md_findMembers scr d s1 a1 (fun s3 => (vp_in (((9 : Int32) * a2) + a3) 108 ∧ post (s3.1 33 0 ((((9 : Int32) * a2) + a3)).toNatClampNeg) s3)))))) ∧ (¬ (s.1 18 0 3) = 0 → X_Md_isOf scr d s a2 a3 (fun r5 s4 => ((r5 = 0 → X_Md_isFine scr d s4 a1 (0 : Int32) (fun r7 s6 => ((r7 = 0 → post (0 : Int32) s6) ∧ (¬ r7 = 0 → X_Md_findMembers scr d s6 a1 (fun s8 => (vp_in (((9 : Int32) * a2) + a3) 108 ∧ post (s8.1 33 0 ((((9 : Int32) * a2) + a3)).toNatClampNeg) s8)))))) ∧ (¬ r5 = 0 → X_Md_isFine scr d s4 a1 (1 : Int32) (fun r10 s9 => ((r10 = 0 → post (0 : Int32) s9) ∧ (¬ r10 = 0 → X_Md_findMembers scr d s9 a1 (fun s11 => (vp_in (((9 : Int32) * a2) + a3) 108 ∧ post (s11.1 33 0 ((((9 : Int32) * a2) + a3)).toNatClampNeg) s11))))))))))) : X_Md_expand scr (d + 1) s a1 a2 a3 post := ⟨0, h⟩
set_option maxRecDepth 100000 in
theorem w_Md_lookup {scr : mSc} {d : Nat} {s : mSt} {a1 : Int32} {a2 : Int32} {a3 : Int32} {post : Int32 → mSt → Prop} (h : ∃ n, (((s.1 18 0 3) = 0 → X_Md_isFine scr d s a1 (0 : Int32) (fun r2 s1 => ((r2 = 0 → post (0 : Int32) s1) ∧ (¬ r2 = 0 → X_Md_findMembers scr d s1 a1 (fun s3 => r_Md_lookup_48 scr d a1 a2 a3 post (fun _ _ => False) n s3 (0 : Int32) (0 : Int32)))))) ∧ (¬ (s.1 18 0 3) = 0 → X_Md_isRelation scr d s a2 (fun r5 s4 => ((r5 = 0 → X_Md_isFine scr d s4 a1 (0 : Int32) (fun r7 s6 => ((r7 = 0 → post (0 : Int32) s6) ∧ (¬ r7 = 0 → X_Md_findMembers scr d s6 a1 (fun s8 => r_Md_lookup_48 scr d a1 a2 a3 post (fun _ _ => False) n s8 (0 : Int32) (0 : Int32)))))) ∧ (¬ r5 = 0 → X_Md_isUser scr d s4 a3 (fun r10 s9 => ((r10 = 0 → X_Md_isFine scr d s9 a1 (0 : Int32) (fun r12 s11 => ((r12 = 0 → post (0 : Int32) s11) ∧ (¬ r12 = 0 → X_Md_findMembers scr d s11 a1 (fun s13 => r_Md_lookup_48 scr d a1 a2 a3 post (fun _ _ => False) n s13 (0 : Int32) (0 : Int32)))))) ∧ (¬ r10 = 0 → X_Md_isFine scr d s9 a1 (1 : Int32) (fun r15 s14 => ((r15 = 0 → post (0 : Int32) s14) ∧ (¬ r15 = 0 → X_Md_findMembers scr d s14 a1 (fun s16 => r_Md_lookup_48 scr d a1 a2 a3 post (fun _ _ => False) n s16 (0 : Int32) (0 : Int32)))))))))))))) : X_Md_lookup scr (d + 1) s a1 a2 a3 post := h
set_option maxRecDepth 100000 in
theorem w_Md_lookup_48 {scr : mSc} {d : Nat} {a1 : Int32} {a2 : Int32} {a3 : Int32} {post : Int32 → mSt → Prop} {ex : Nat → mSt → Prop} {n : Nat} {s : mSt} {v4 : Int32} {v5 : Int32} (h : (((4 : Int32) ≤ v5 → post v4 s) ∧ (¬ (4 : Int32) ≤ v5 → (vp_in a2 9 ∧ (vp_in (((9 : Int32) * (((4 : Int32) * (s.1 19 0 (a2).toNatClampNeg)) + v5)) + a2) 108 ∧ r_Md_lookup_48 scr d a1 a2 a3 post ex n s (v4 ||| ((((s.1 33 0 ((((9 : Int32) * (((4 : Int32) * (s.1 19 0 (a2).toNatClampNeg)) + v5)) + a2)).toNatClampNeg) >>> (a3 &&& 31)) &&& (1 : Int32)) <<< (v5 &&& 31))) (v5 + (1 : Int32))))))) : r_Md_lookup_48 scr d a1 a2 a3 post ex (n + 1) s v4 v5 := h
set_option maxRecDepth 100000 in
theorem w_Md_nested {scr : mSc} {d : Nat} {s : mSt} {a1 : Int32} {a2 : Int32} {a3 : Int32} {a4 : Int32} {a5 : Int32} {post : Int32 → mSt → Prop} (h : ∃ n, (((s.1 18 0 3) = 0 → X_Md_isFine scr d s a1 (0 : Int32) (fun r2 s1 => ((r2 = 0 → (mx_nr .boolean (0 : Int32) ∧ post (0 : Int32) s1)) ∧ (¬ r2 = 0 → r_Md_nested_42 scr d a1 a2 a3 a4 a5 post (fun _ _ => False) n s1)))) ∧ (¬ (s.1 18 0 3) = 0 → X_Md_isOf scr d s a2 a3 (fun r4 s3 => ((r4 = 0 → X_Md_isFine scr d s3 a1 (0 : Int32) (fun r6 s5 => ((r6 = 0 → (mx_nr .boolean (0 : Int32) ∧ post (0 : Int32) s5)) ∧ (¬ r6 = 0 → r_Md_nested_42 scr d a1 a2 a3 a4 a5 post (fun _ _ => False) n s5)))) ∧ (¬ r4 = 0 → X_Md_isOf scr d s3 a4 a5 (fun r8 s7 => ((r8 = 0 → X_Md_isFine scr d s7 a1 (0 : Int32) (fun r10 s9 => ((r10 = 0 → (mx_nr .boolean (0 : Int32) ∧ post (0 : Int32) s9)) ∧ (¬ r10 = 0 → r_Md_nested_42 scr d a1 a2 a3 a4 a5 post (fun _ _ => False) n s9)))) ∧ (¬ r8 = 0 → X_Md_isFine scr d s7 a1 (1 : Int32) (fun r12 s11 => ((r12 = 0 → (mx_nr .boolean (0 : Int32) ∧ post (0 : Int32) s11)) ∧ (¬ r12 = 0 → r_Md_nested_42 scr d a1 a2 a3 a4 a5 post (fun _ _ => False) n s11)))))))))))) : X_Md_nested scr (d + 1) s a1 a2 a3 a4 a5 post := h
set_option maxRecDepth 100000 in
theorem w_Md_nested_42 {scr : mSc} {d : Nat} {a1 : Int32} {a2 : Int32} {a3 : Int32} {a4 : Int32} {a5 : Int32} {post : Int32 → mSt → Prop} {ex : Nat → mSt → Prop} {n : Nat} {s : mSt} (h : X_Md_play scr d s a1 (fun s1 => r_Md_nested_50 scr d a1 a2 a3 a4 a5 post ex n s1 (0 : Int32))) : r_Md_nested_42 scr d a1 a2 a3 a4 a5 post ex (n + 1) s := h
set_option maxRecDepth 100000 in
theorem w_Md_nested_50 {scr : mSc} {d : Nat} {a1 : Int32} {a2 : Int32} {a3 : Int32} {a4 : Int32} {a5 : Int32} {post : Int32 → mSt → Prop} {ex : Nat → mSt → Prop} {n : Nat} {s : mSt} {v6 : Int32} (h : (((108 : Int32) ≤ v6 → r_Md_nested_77 scr d a1 a2 a3 a4 a5 post ex n s (1 : Int32) (0 : Int32)) ∧ (¬ (108 : Int32) ≤ v6 → (vp_in v6 108 ∧ ∀ s1, s1 = mx_si s 37 0 (v6).toNatClampNeg (vp_nar .boolean (0 : Int32)) → r_Md_nested_50 scr d a1 a2 a3 a4 a5 post ex n s1 (v6 + (1 : Int32)))))) : r_Md_nested_50 scr d a1 a2 a3 a4 a5 post ex (n + 1) s v6 := h
set_option maxRecDepth 100000 in
theorem w_Md_nested_77 {scr : mSc} {d : Nat} {a1 : Int32} {a2 : Int32} {a3 : Int32} {a4 : Int32} {a5 : Int32} {post : Int32 → mSt → Prop} {ex : Nat → mSt → Prop} {n : Nat} {s : mSt} {v6 : Int32} {v7 : Int32} (h : (((120 : Int32) ≤ v7 → (vp_in (((9 : Int32) * a4) + a5) 108 ∧ (mx_nr .boolean (s.1 37 0 ((((9 : Int32) * a4) + a5)).toNatClampNeg) ∧ post (s.1 37 0 ((((9 : Int32) * a4) + a5)).toNatClampNeg) s))) ∧ (¬ (120 : Int32) ≤ v7 → ((v6 = 0 → (vp_in (((9 : Int32) * a4) + a5) 108 ∧ (mx_nr .boolean (s.1 37 0 ((((9 : Int32) * a4) + a5)).toNatClampNeg) ∧ post (s.1 37 0 ((((9 : Int32) * a4) + a5)).toNatClampNeg) s))) ∧ (¬ v6 = 0 → r_Md_nested_95 scr d a1 a2 a3 a4 a5 post ex n s (0 : Int32) v7 (0 : Int32)))))) : r_Md_nested_77 scr d a1 a2 a3 a4 a5 post ex (n + 1) s v6 v7 := h
set_option maxRecDepth 100000 in
theorem w_Md_nested_95 {scr : mSc} {d : Nat} {a1 : Int32} {a2 : Int32} {a3 : Int32} {a4 : Int32} {a5 : Int32} {post : Int32 → mSt → Prop} {ex : Nat → mSt → Prop} {n : Nat} {s : mSt} {v6 : Int32} {v7 : Int32} {v8 : Int32} (h : (((s.1 18 0 21) ≤ v8 → r_Md_nested_77 scr d a1 a2 a3 a4 a5 post ex n s v6 (v7 + (1 : Int32))) ∧ (¬ (s.1 18 0 21) ≤ v8 → (vp_in v8 120 ∧ (vp_in (((6 : Int32) * (s.1 32 0 (v8).toNatClampNeg)) + (1 : Int32)) 720 ∧ (((s.1 29 0 ((((6 : Int32) * (s.1 32 0 (v8).toNatClampNeg)) + (1 : Int32))).toNatClampNeg) = a2 → (vp_in (((6 : Int32) * (s.1 32 0 (v8).toNatClampNeg)) + (2 : Int32)) 720 ∧ (((s.1 29 0 ((((6 : Int32) * (s.1 32 0 (v8).toNatClampNeg)) + (2 : Int32))).toNatClampNeg) = a3 → r_Md_nested_172 scr d a1 a2 a3 a4 a5 post ex n s v6 v7 v8 ((6 : Int32) * (s.1 32 0 (v8).toNatClampNeg))) ∧ (¬ (s.1 29 0 ((((6 : Int32) * (s.1 32 0 (v8).toNatClampNeg)) + (2 : Int32))).toNatClampNeg) = a3 → (vp_in (((6 : Int32) * (s.1 32 0 (v8).toNatClampNeg)) + (1 : Int32)) 720 ∧ (vp_in (((6 : Int32) * (s.1 32 0 (v8).toNatClampNeg)) + (2 : Int32)) 720 ∧ (vp_in (((9 : Int32) * (s.1 29 0 ((((6 : Int32) * (s.1 32 0 (v8).toNatClampNeg)) + (1 : Int32))).toNatClampNeg)) + (s.1 29 0 ((((6 : Int32) * (s.1 32 0 (v8).toNatClampNeg)) + (2 : Int32))).toNatClampNeg)) 108 ∧ (((s.1 37 0 ((((9 : Int32) * (s.1 29 0 ((((6 : Int32) * (s.1 32 0 (v8).toNatClampNeg)) + (1 : Int32))).toNatClampNeg)) + (s.1 29 0 ((((6 : Int32) * (s.1 32 0 (v8).toNatClampNeg)) + (2 : Int32))).toNatClampNeg))).toNatClampNeg) = 0 → (vp_in (((6 : Int32) * (s.1 32 0 (v8).toNatClampNeg)) + (4 : Int32)) 720 ∧ (vp_in (((6 : Int32) * (s.1 32 0 (v8).toNatClampNeg)) + (5 : Int32)) 720 ∧ (vp_in (((6 : Int32) * (s.1 32 0 (v8).toNatClampNeg)) + (3 : Int32)) 720 ∧ (((s.1 29 0 ((((6 : Int32) * (s.1 32 0 (v8).toNatClampNeg)) + (3 : Int32))).toNatClampNeg) = (2 : Int32) → (((0 : Int32) = 0 → r_Md_nested_245 scr d a1 a2 a3 a4 a5 post ex n s v6 v7 v8 ((6 : Int32) * (s.1 32 0 (v8).toNatClampNeg)) (0 : Int32) (((9 : Int32) * (s.1 29 0 ((((6 : Int32) * (s.1 32 0 (v8).toNatClampNeg)) + (4 : Int32))).toNatClampNeg)) + (s.1 29 0 ((((6 : Int32) * (s.1 32 0 (v8).toNatClampNeg)) + (5 : Int32))).toNatClampNeg))) ∧ (¬ (0 : Int32) = 0 → (vp_in (((9 : Int32) * (s.1 29 0 ((((6 : Int32) * (s.1 32 0 (v8).toNatClampNeg)) + (4 : Int32))).toNatClampNeg)) + (s.1 29 0 ((((6 : Int32) * (s.1 32 0 (v8).toNatClampNeg)) + (5 : Int32))).toNatClampNeg)) 108 ∧ (((s.1 37 0 ((((9 : Int32) * (s.1 29 0 ((((6 : Int32) * (s.1 32 0 (v8).toNatClampNeg)) + (4 : Int32))).toNatClampNeg)) + (s.1 29 0 ((((6 : Int32) * (s.1 32 0 (v8).toNatClampNeg)) + (5 : Int32))).toNatClampNeg))).toNatClampNeg) = 0 → r_Md_nested_234 scr d a1 a2 a3 a4 a5 post ex n s v6 v7 v8 ((6 : Int32) * (s.1 32 0 (v8).toNatClampNeg)) (0 : Int32) (((9 : Int32) * (s.1 29 0 ((((6 : Int32) * (s.1 32 0 (v8).toNatClampNeg)) + (4 : Int32))).toNatClampNeg)) + (s.1 29 0 ((((6 : Int32) * (s.1 32 0 (v8).toNatClampNeg)) + (5 : Int32))).toNatClampNeg))) ∧ (¬ (s.1 37 0 ((((9 : Int32) * (s.1 29 0 ((((6 : Int32) * (s.1 32 0 (v8).toNatClampNeg)) + (4 : Int32))).toNatClampNeg)) + (s.1 29 0 ((((6 : Int32) * (s.1 32 0 (v8).toNatClampNeg)) + (5 : Int32))).toNatClampNeg))).toNatClampNeg) = 0 → r_Md_nested_245 scr d a1 a2 a3 a4 a5 post ex n s v6 v7 v8 ((6 : Int32) * (s.1 32 0 (v8).toNatClampNeg)) (0 : Int32) (((9 : Int32) * (s.1 29 0 ((((6 : Int32) * (s.1 32 0 (v8).toNatClampNeg)) + (4 : Int32))).toNatClampNeg)) + (s.1 29 0 ((((6 : Int32) * (s.1 32 0 (v8).toNatClampNeg)) + (5 : Int32))).toNatClampNeg)))))))) ∧ (¬ (s.1 29 0 ((((6 : Int32) * (s.1 32 0 (v8).toNatClampNeg)) + (3 : Int32))).toNatClampNeg) = (2 : Int32) → r_Md_nested_245 scr d a1 a2 a3 a4 a5 post ex n s v6 v7 v8 ((6 : Int32) * (s.1 32 0 (v8).toNatClampNeg)) (0 : Int32) (((9 : Int32) * (s.1 29 0 ((((6 : Int32) * (s.1 32 0 (v8).toNatClampNeg)) + (4 : Int32))).toNatClampNeg)) + (s.1 29 0 ((((6 : Int32) * (s.1 32 0 (v8).toNatClampNeg)) + (5 : Int32))).toNatClampNeg)))))))) ∧ (¬ (s.1 37 0 ((((9 : Int32) * (s.1 29 0 ((((6 : Int32) * (s.1 32 0 (v8).toNatClampNeg)) + (1 : Int32))).toNatClampNeg)) + (s.1 29 0 ((((6 : Int32) * (s.1 32 0 (v8).toNatClampNeg)) + (2 : Int32))).toNatClampNeg))).toNatClampNeg) = 0 → r_Md_nested_172 scr d a1 a2 a3 a4 a5 post ex n s v6 v7 v8 ((6 : Int32) * (s.1 32 0 (v8).toNatClampNeg))))))))))) ∧ (¬ (s.1 29 0 ((((6 : Int32) * (s.1 32 0 (v8).toNatClampNeg)) + (1 : Int32))).toNatClampNeg) = a2 → (vp_in (((6 : Int32) * (s.1 32 0 (v8).toNatClampNeg)) + (1 : Int32)) 720 ∧ (vp_in (((6 : Int32) * (s.1 32 0 (v8).toNatClampNeg)) + (2 : Int32)) 720 ∧ (vp_in (((9 : Int32) * (s.1 29 0 ((((6 : Int32) * (s.1 32 0 (v8).toNatClampNeg)) + (1 : Int32))).toNatClampNeg)) + (s.1 29 0 ((((6 : Int32) * (s.1 32 0 (v8).toNatClampNeg)) + (2 : Int32))).toNatClampNeg)) 108 ∧ (((s.1 37 0 ((((9 : Int32) * (s.1 29 0 ((((6 : Int32) * (s.1 32 0 (v8).toNatClampNeg)) + (1 : Int32))).toNatClampNeg)) + (s.1 29 0 ((((6 : Int32) * (s.1 32 0 (v8).toNatClampNeg)) + (2 : Int32))).toNatClampNeg))).toNatClampNeg) = 0 → (vp_in (((6 : Int32) * (s.1 32 0 (v8).toNatClampNeg)) + (4 : Int32)) 720 ∧ (vp_in (((6 : Int32) * (s.1 32 0 (v8).toNatClampNeg)) + (5 : Int32)) 720 ∧ (vp_in (((6 : Int32) * (s.1 32 0 (v8).toNatClampNeg)) + (3 : Int32)) 720 ∧ (((s.1 29 0 ((((6 : Int32) * (s.1 32 0 (v8).toNatClampNeg)) + (3 : Int32))).toNatClampNeg) = (2 : Int32) → (((0 : Int32) = 0 → r_Md_nested_245 scr d a1 a2 a3 a4 a5 post ex n s v6 v7 v8 ((6 : Int32) * (s.1 32 0 (v8).toNatClampNeg)) (0 : Int32) (((9 : Int32) * (s.1 29 0 ((((6 : Int32) * (s.1 32 0 (v8).toNatClampNeg)) + (4 : Int32))).toNatClampNeg)) + (s.1 29 0 ((((6 : Int32) * (s.1 32 0 (v8).toNatClampNeg)) + (5 : Int32))).toNatClampNeg))) ∧ (¬ (0 : Int32) = 0 → (vp_in (((9 : Int32) * (s.1 29 0 ((((6 : Int32) * (s.1 32 0 (v8).toNatClampNeg)) + (4 : Int32))).toNatClampNeg)) + (s.1 29 0 ((((6 : Int32) * (s.1 32 0 (v8).toNatClampNeg)) + (5 : Int32))).toNatClampNeg)) 108 ∧ (((s.1 37 0 ((((9 : Int32) * (s.1 29 0 ((((6 : Int32) * (s.1 32 0 (v8).toNatClampNeg)) + (4 : Int32))).toNatClampNeg)) + (s.1 29 0 ((((6 : Int32) * (s.1 32 0 (v8).toNatClampNeg)) + (5 : Int32))).toNatClampNeg))).toNatClampNeg) = 0 → r_Md_nested_234 scr d a1 a2 a3 a4 a5 post ex n s v6 v7 v8 ((6 : Int32) * (s.1 32 0 (v8).toNatClampNeg)) (0 : Int32) (((9 : Int32) * (s.1 29 0 ((((6 : Int32) * (s.1 32 0 (v8).toNatClampNeg)) + (4 : Int32))).toNatClampNeg)) + (s.1 29 0 ((((6 : Int32) * (s.1 32 0 (v8).toNatClampNeg)) + (5 : Int32))).toNatClampNeg))) ∧ (¬ (s.1 37 0 ((((9 : Int32) * (s.1 29 0 ((((6 : Int32) * (s.1 32 0 (v8).toNatClampNeg)) + (4 : Int32))).toNatClampNeg)) + (s.1 29 0 ((((6 : Int32) * (s.1 32 0 (v8).toNatClampNeg)) + (5 : Int32))).toNatClampNeg))).toNatClampNeg) = 0 → r_Md_nested_245 scr d a1 a2 a3 a4 a5 post ex n s v6 v7 v8 ((6 : Int32) * (s.1 32 0 (v8).toNatClampNeg)) (0 : Int32) (((9 : Int32) * (s.1 29 0 ((((6 : Int32) * (s.1 32 0 (v8).toNatClampNeg)) + (4 : Int32))).toNatClampNeg)) + (s.1 29 0 ((((6 : Int32) * (s.1 32 0 (v8).toNatClampNeg)) + (5 : Int32))).toNatClampNeg)))))))) ∧ (¬ (s.1 29 0 ((((6 : Int32) * (s.1 32 0 (v8).toNatClampNeg)) + (3 : Int32))).toNatClampNeg) = (2 : Int32) → r_Md_nested_245 scr d a1 a2 a3 a4 a5 post ex n s v6 v7 v8 ((6 : Int32) * (s.1 32 0 (v8).toNatClampNeg)) (0 : Int32) (((9 : Int32) * (s.1 29 0 ((((6 : Int32) * (s.1 32 0 (v8).toNatClampNeg)) + (4 : Int32))).toNatClampNeg)) + (s.1 29 0 ((((6 : Int32) * (s.1 32 0 (v8).toNatClampNeg)) + (5 : Int32))).toNatClampNeg)))))))) ∧ (¬ (s.1 37 0 ((((9 : Int32) * (s.1 29 0 ((((6 : Int32) * (s.1 32 0 (v8).toNatClampNeg)) + (1 : Int32))).toNatClampNeg)) + (s.1 29 0 ((((6 : Int32) * (s.1 32 0 (v8).toNatClampNeg)) + (2 : Int32))).toNatClampNeg))).toNatClampNeg) = 0 → r_Md_nested_172 scr d a1 a2 a3 a4 a5 post ex n s v6 v7 v8 ((6 : Int32) * (s.1 32 0 (v8).toNatClampNeg)))))))))))))) : r_Md_nested_95 scr d a1 a2 a3 a4 a5 post ex (n + 1) s v6 v7 v8 := h
set_option maxRecDepth 100000 in
theorem w_Md_nested_172 {scr : mSc} {d : Nat} {a1 : Int32} {a2 : Int32} {a3 : Int32} {a4 : Int32} {a5 : Int32} {post : Int32 → mSt → Prop} {ex : Nat → mSt → Prop} {n : Nat} {s : mSt} {v6 : Int32} {v7 : Int32} {v8 : Int32} {v9 : Int32} (h : (vp_in (v9 + (4 : Int32)) 720 ∧ (vp_in (v9 + (5 : Int32)) 720 ∧ (vp_in (v9 + (3 : Int32)) 720 ∧ (((s.1 29 0 ((v9 + (3 : Int32))).toNatClampNeg) = (2 : Int32) → (((1 : Int32) = 0 → r_Md_nested_245 scr d a1 a2 a3 a4 a5 post ex n s v6 v7 v8 v9 (1 : Int32) (((9 : Int32) * (s.1 29 0 ((v9 + (4 : Int32))).toNatClampNeg)) + (s.1 29 0 ((v9 + (5 : Int32))).toNatClampNeg))) ∧ (¬ (1 : Int32) = 0 → (vp_in (((9 : Int32) * (s.1 29 0 ((v9 + (4 : Int32))).toNatClampNeg)) + (s.1 29 0 ((v9 + (5 : Int32))).toNatClampNeg)) 108 ∧ (((s.1 37 0 ((((9 : Int32) * (s.1 29 0 ((v9 + (4 : Int32))).toNatClampNeg)) + (s.1 29 0 ((v9 + (5 : Int32))).toNatClampNeg))).toNatClampNeg) = 0 → r_Md_nested_234 scr d a1 a2 a3 a4 a5 post ex n s v6 v7 v8 v9 (1 : Int32) (((9 : Int32) * (s.1 29 0 ((v9 + (4 : Int32))).toNatClampNeg)) + (s.1 29 0 ((v9 + (5 : Int32))).toNatClampNeg))) ∧ (¬ (s.1 37 0 ((((9 : Int32) * (s.1 29 0 ((v9 + (4 : Int32))).toNatClampNeg)) + (s.1 29 0 ((v9 + (5 : Int32))).toNatClampNeg))).toNatClampNeg) = 0 → r_Md_nested_245 scr d a1 a2 a3 a4 a5 post ex n s v6 v7 v8 v9 (1 : Int32) (((9 : Int32) * (s.1 29 0 ((v9 + (4 : Int32))).toNatClampNeg)) + (s.1 29 0 ((v9 + (5 : Int32))).toNatClampNeg)))))))) ∧ (¬ (s.1 29 0 ((v9 + (3 : Int32))).toNatClampNeg) = (2 : Int32) → r_Md_nested_245 scr d a1 a2 a3 a4 a5 post ex n s v6 v7 v8 v9 (1 : Int32) (((9 : Int32) * (s.1 29 0 ((v9 + (4 : Int32))).toNatClampNeg)) + (s.1 29 0 ((v9 + (5 : Int32))).toNatClampNeg)))))))) : r_Md_nested_172 scr d a1 a2 a3 a4 a5 post ex (n + 1) s v6 v7 v8 v9 := h
set_option maxRecDepth 100000 in
theorem w_Md_nested_234 {scr : mSc} {d : Nat} {a1 : Int32} {a2 : Int32} {a3 : Int32} {a4 : Int32} {a5 : Int32} {post : Int32 → mSt → Prop} {ex : Nat → mSt → Prop} {n : Nat} {s : mSt} {v6 : Int32} {v7 : Int32} {v8 : Int32} {v9 : Int32} {v10 : Int32} {v11 : Int32} (h : (vp_in v11 108 ∧ ∀ s1, s1 = mx_si s 37 0 (v11).toNatClampNeg (vp_nar .boolean (1 : Int32)) → r_Md_nested_245 scr d a1 a2 a3 a4 a5 post ex n s1 (1 : Int32) v7 v8 v9 v10 v11)) : r_Md_nested_234 scr d a1 a2 a3 a4 a5 post ex (n + 1) s v6 v7 v8 v9 v10 v11 := h
set_option maxRecDepth 100000 in
theorem w_Md_nested_245 {scr : mSc} {d : Nat} {a1 : Int32} {a2 : Int32} {a3 : Int32} {a4 : Int32} {a5 : Int32} {post : Int32 → mSt → Prop} {ex : Nat → mSt → Prop} {n : Nat} {s : mSt} {v6 : Int32} {v7 : Int32} {v8 : Int32} {v9 : Int32} {v10 : Int32} {v11 : Int32} (h : r_Md_nested_95 scr d a1 a2 a3 a4 a5 post ex n s v6 v7 (v8 + (1 : Int32))) : r_Md_nested_245 scr d a1 a2 a3 a4 a5 post ex (n + 1) s v6 v7 v8 v9 v10 v11 := h
set_option maxRecDepth 100000 in
theorem w_Md_watch {scr : mSc} {d : Nat} {s : mSt} {a1 : Int32} {post : Int32 → mSt → Prop} (h : X_Md_isFine scr d s a1 (1 : Int32) (fun r2 s1 => ((r2 = 0 → post (0 : Int32) s1) ∧ (¬ r2 = 0 → X_Md_since scr d s1 a1 (fun r4 s3 => post ((s1.1 18 0 14) - r4) s3))))) : X_Md_watch scr (d + 1) s a1 post := ⟨0, h⟩
set_option maxRecDepth 100000 in
theorem w_Md_since {scr : mSc} {d : Nat} {s : mSt} {a1 : Int32} {post : Int32 → mSt → Prop} (h : ∃ n, r_Md_since_2 scr d a1 post (fun _ _ => False) n s (0 : Int32)) : X_Md_since scr (d + 1) s a1 post := h
set_option maxRecDepth 100000 in
theorem w_Md_since_2 {scr : mSc} {d : Nat} {a1 : Int32} {post : Int32 → mSt → Prop} {ex : Nat → mSt → Prop} {n : Nat} {s : mSt} {v2 : Int32} (h : (((s.1 18 0 14) ≤ v2 → post v2 s) ∧ (¬ (s.1 18 0 14) ≤ v2 → (vp_in v2 120 ∧ ((a1 < (s.1 30 0 (v2).toNatClampNeg) → post v2 s) ∧ (¬ a1 < (s.1 30 0 (v2).toNatClampNeg) → r_Md_since_2 scr d a1 post ex n s (v2 + (1 : Int32)))))))) : r_Md_since_2 scr d a1 post ex (n + 1) s v2 := h
set_option maxRecDepth 100000 in
theorem w_Md_watched {scr : mSc} {d : Nat} {s : mSt} {a1 : Int32} {a2 : Int32} {a3 : Int32} {post : Int32 → mSt → Prop} (h : X_Md_isFine scr d s a1 (1 : Int32) (fun r2 s1 => ((r2 = 0 → post (0 : Int32) s1) ∧ (¬ r2 = 0 → X_Md_since scr d s1 a1 (fun r4 s3 => ((a2 < 0 → post (-1 : Int32) s3) ∧ (¬ a2 < 0 → X_Md_since scr d s3 a1 (fun r6 s5 => ((((s3.1 18 0 14) - r6) ≤ a2 → post (-1 : Int32) s5) ∧ (¬ ((s3.1 18 0 14) - r6) ≤ a2 → ((a3 < 0 → post (-1 : Int32) s5) ∧ (¬ a3 < 0 → ((a3 ≤ (6 : Int32) → ((a3 = (6 : Int32) → (vp_in (r4 + a2) 120 ∧ post (s5.1 30 0 ((r4 + a2)).toNatClampNeg) s5)) ∧ (¬ a3 = (6 : Int32) → (vp_in (((6 : Int32) * (r4 + a2)) + a3) 720 ∧ post (s5.1 29 0 ((((6 : Int32) * (r4 + a2)) + a3)).toNatClampNeg) s5)))) ∧ (¬ a3 ≤ (6 : Int32) → post (-1 : Int32) s5)))))))))))))) : X_Md_watched scr (d + 1) s a1 a2 a3 post := ⟨0, h⟩
end
section
def lw_pq : Int32 → mSt → Prop := fun x _ => x = 1
def r_Lw_law (scr : mSc) (d n : Nat) (s : mSt) (v4 : Int32) (u1 u2 : Nat) : Prop := mx_xq true scr (mx_XW true scr d) mt_Lw_law lw_po (fun _ _ => False) n 33 [(0, .inr (.inr (.inr scr.1))), (1, .inr (.inr (.inl (0, 0)))), (2, .inr (.inr (.inl (18, 0)))), (3, .inr (.inr (.inl (38, 0)))), (4, .inl v4)] s (u1, u2)
set_option maxRecDepth 100000 in
theorem w_Lw_law {scr : mSc} {d n : Nat} {s : mSt} {v4 : Int32} {u1 u2 : Nat} (h : (scr.1 = scr.1 ∧ ((((nI scr.2.1) - (7 : Int32)) < v4 → (mx_nr .boolean (1 : Int32) ∧ lw_pq (1 : Int32) s)) ∧ (¬ ((nI scr.2.1) - (7 : Int32)) < v4 → (scr.1 = scr.1 ∧ vp_in v4 scr.2.1 ∧ ((((scr.2.2 (v4).toNatClampNeg) &&& (15 : Int32)) = nI 0 → (scr.1 = scr.1 ∧ vp_in (v4 + (1 : Int32)) scr.2.1 ∧ (scr.1 = scr.1 ∧ vp_in (v4 + (2 : Int32)) scr.2.1 ∧ (((scr.2.2 ((v4 + (2 : Int32))).toNatClampNeg) = 0 → (scr.1 = scr.1 ∧ vp_in (v4 + (3 : Int32)) scr.2.1 ∧ (scr.1 = scr.1 ∧ vp_in (v4 + (4 : Int32)) scr.2.1 ∧ X_Rs_relation scr d s (scr.2.2 ((v4 + (1 : Int32))).toNatClampNeg) (0 : Int32) (scr.2.2 ((v4 + (3 : Int32))).toNatClampNeg) (scr.2.2 ((v4 + (4 : Int32))).toNatClampNeg) (fun r94 s93 => (scr.1 = scr.1 ∧ vp_in (v4 + (1 : Int32)) scr.2.1 ∧ (scr.1 = scr.1 ∧ vp_in (v4 + (2 : Int32)) scr.2.1 ∧ (((scr.2.2 ((v4 + (2 : Int32))).toNatClampNeg) = 0 → (scr.1 = scr.1 ∧ vp_in (v4 + (3 : Int32)) scr.2.1 ∧ (scr.1 = scr.1 ∧ vp_in (v4 + (4 : Int32)) scr.2.1 ∧ X_Md_relation scr d s93 (scr.2.2 ((v4 + (1 : Int32))).toNatClampNeg) (0 : Int32) (scr.2.2 ((v4 + (3 : Int32))).toNatClampNeg) (scr.2.2 ((v4 + (4 : Int32))).toNatClampNeg) (fun r96 s95 => ((r94 = r96 → r_Lw_law scr d n s95 (v4 + (7 : Int32)) u1 u2) ∧ (¬ r94 = r96 → (mx_nr .boolean (0 : Int32) ∧ lw_pq (0 : Int32) s95))))))) ∧ (¬ (scr.2.2 ((v4 + (2 : Int32))).toNatClampNeg) = 0 → (scr.1 = scr.1 ∧ vp_in (v4 + (3 : Int32)) scr.2.1 ∧ (scr.1 = scr.1 ∧ vp_in (v4 + (4 : Int32)) scr.2.1 ∧ X_Md_relation scr d s93 (scr.2.2 ((v4 + (1 : Int32))).toNatClampNeg) (1 : Int32) (scr.2.2 ((v4 + (3 : Int32))).toNatClampNeg) (scr.2.2 ((v4 + (4 : Int32))).toNatClampNeg) (fun r98 s97 => ((r94 = r98 → r_Lw_law scr d n s97 (v4 + (7 : Int32)) u1 u2) ∧ (¬ r94 = r98 → (mx_nr .boolean (0 : Int32) ∧ lw_pq (0 : Int32) s97)))))))))))))) ∧ (¬ (scr.2.2 ((v4 + (2 : Int32))).toNatClampNeg) = 0 → (scr.1 = scr.1 ∧ vp_in (v4 + (3 : Int32)) scr.2.1 ∧ (scr.1 = scr.1 ∧ vp_in (v4 + (4 : Int32)) scr.2.1 ∧ X_Rs_relation scr d s (scr.2.2 ((v4 + (1 : Int32))).toNatClampNeg) (1 : Int32) (scr.2.2 ((v4 + (3 : Int32))).toNatClampNeg) (scr.2.2 ((v4 + (4 : Int32))).toNatClampNeg) (fun r100 s99 => (scr.1 = scr.1 ∧ vp_in (v4 + (1 : Int32)) scr.2.1 ∧ (scr.1 = scr.1 ∧ vp_in (v4 + (2 : Int32)) scr.2.1 ∧ (((scr.2.2 ((v4 + (2 : Int32))).toNatClampNeg) = 0 → (scr.1 = scr.1 ∧ vp_in (v4 + (3 : Int32)) scr.2.1 ∧ (scr.1 = scr.1 ∧ vp_in (v4 + (4 : Int32)) scr.2.1 ∧ X_Md_relation scr d s99 (scr.2.2 ((v4 + (1 : Int32))).toNatClampNeg) (0 : Int32) (scr.2.2 ((v4 + (3 : Int32))).toNatClampNeg) (scr.2.2 ((v4 + (4 : Int32))).toNatClampNeg) (fun r102 s101 => ((r100 = r102 → r_Lw_law scr d n s101 (v4 + (7 : Int32)) u1 u2) ∧ (¬ r100 = r102 → (mx_nr .boolean (0 : Int32) ∧ lw_pq (0 : Int32) s101))))))) ∧ (¬ (scr.2.2 ((v4 + (2 : Int32))).toNatClampNeg) = 0 → (scr.1 = scr.1 ∧ vp_in (v4 + (3 : Int32)) scr.2.1 ∧ (scr.1 = scr.1 ∧ vp_in (v4 + (4 : Int32)) scr.2.1 ∧ X_Md_relation scr d s99 (scr.2.2 ((v4 + (1 : Int32))).toNatClampNeg) (1 : Int32) (scr.2.2 ((v4 + (3 : Int32))).toNatClampNeg) (scr.2.2 ((v4 + (4 : Int32))).toNatClampNeg) (fun r104 s103 => ((r100 = r104 → r_Lw_law scr d n s103 (v4 + (7 : Int32)) u1 u2) ∧ (¬ r100 = r104 → (mx_nr .boolean (0 : Int32) ∧ lw_pq (0 : Int32) s103)))))))))))))))))) ∧ (¬ ((scr.2.2 (v4).toNatClampNeg) &&& (15 : Int32)) = nI 0 → ((((scr.2.2 (v4).toNatClampNeg) &&& (15 : Int32)) = nI 1 → (scr.1 = scr.1 ∧ vp_in (v4 + (1 : Int32)) scr.2.1 ∧ X_Rs_type scr d s (((scr.2.2 ((v4 + (1 : Int32))).toNatClampNeg)).toUInt32 % 65536).toInt32 (fun r90 s89 => (scr.1 = scr.1 ∧ vp_in (v4 + (1 : Int32)) scr.2.1 ∧ X_Md_type scr d s89 (((scr.2.2 ((v4 + (1 : Int32))).toNatClampNeg)).toUInt32 % 65536).toInt32 (fun r92 s91 => ((r90 = r92 → r_Lw_law scr d n s91 (v4 + (7 : Int32)) u1 u2) ∧ (¬ r90 = r92 → (mx_nr .boolean (0 : Int32) ∧ lw_pq (0 : Int32) s91)))))))) ∧ (¬ ((scr.2.2 (v4).toNatClampNeg) &&& (15 : Int32)) = nI 1 → ((((scr.2.2 (v4).toNatClampNeg) &&& (15 : Int32)) = nI 2 → (scr.1 = scr.1 ∧ vp_in (v4 + (1 : Int32)) scr.2.1 ∧ X_Rs_sound scr d s (scr.2.2 ((v4 + (1 : Int32))).toNatClampNeg) (fun r86 s85 => (scr.1 = scr.1 ∧ vp_in (v4 + (1 : Int32)) scr.2.1 ∧ X_Md_sound scr d s85 (scr.2.2 ((v4 + (1 : Int32))).toNatClampNeg) (fun r88 s87 => ((r86 = r88 → r_Lw_law scr d n s87 (v4 + (7 : Int32)) u1 u2) ∧ (¬ r86 = r88 → (mx_nr .boolean (0 : Int32) ∧ lw_pq (0 : Int32) s87)))))))) ∧ (¬ ((scr.2.2 (v4).toNatClampNeg) &&& (15 : Int32)) = nI 2 → ((((scr.2.2 (v4).toNatClampNeg) &&& (15 : Int32)) = nI 3 → mx_bg (u1 + 1) (u2 + 6) mt_Lw_law (X_Lw_accept scr d s (fun r80 s79 => X_Md_accept scr d s79 (fun r82 s81 => X_Md_thrown scr d s81 (fun r84 s83 => ((r84 = r80 → ((r80 = 0 → (vp_in (0 : Int32) 1 ∧ (((lg_cmp (s83.2.1 38 0 ((0 : Int32)).toNatClampNeg) (r82).toInt64) = 0 → r_Lw_law scr d n s83 (v4 + (7 : Int32)) (u1 + 1) (u2 + 6)) ∧ (¬ (lg_cmp (s83.2.1 38 0 ((0 : Int32)).toNatClampNeg) (r82).toInt64) = 0 → (mx_nr .boolean (0 : Int32) ∧ lw_pq (0 : Int32) s83))))) ∧ (¬ r80 = 0 → r_Lw_law scr d n s83 (v4 + (7 : Int32)) (u1 + 1) (u2 + 6)))) ∧ (¬ r84 = r80 → (mx_nr .boolean (0 : Int32) ∧ lw_pq (0 : Int32) s83)))))))) ∧ (¬ ((scr.2.2 (v4).toNatClampNeg) &&& (15 : Int32)) = nI 3 → ((((scr.2.2 (v4).toNatClampNeg) &&& (15 : Int32)) = nI 4 → (scr.1 = scr.1 ∧ vp_in (v4 + (1 : Int32)) scr.2.1 ∧ (((scr.2.2 ((v4 + (1 : Int32))).toNatClampNeg) = 0 → (scr.1 = scr.1 ∧ vp_in (v4 + (2 : Int32)) scr.2.1 ∧ (scr.1 = scr.1 ∧ vp_in (v4 + (3 : Int32)) scr.2.1 ∧ (scr.1 = scr.1 ∧ vp_in (v4 + (4 : Int32)) scr.2.1 ∧ (scr.1 = scr.1 ∧ vp_in (v4 + (5 : Int32)) scr.2.1 ∧ (scr.1 = scr.1 ∧ vp_in (v4 + (6 : Int32)) scr.2.1 ∧ mx_bg (u1 + 1) (u2 + 6) mt_Lw_law (X_Lw_change scr d s (0 : Int32) (scr.2.2 ((v4 + (2 : Int32))).toNatClampNeg) (scr.2.2 ((v4 + (3 : Int32))).toNatClampNeg) (scr.2.2 ((v4 + (4 : Int32))).toNatClampNeg) (scr.2.2 ((v4 + (5 : Int32))).toNatClampNeg) (scr.2.2 ((v4 + (6 : Int32))).toNatClampNeg) (fun r60 s59 => (scr.1 = scr.1 ∧ vp_in (v4 + (1 : Int32)) scr.2.1 ∧ (((scr.2.2 ((v4 + (1 : Int32))).toNatClampNeg) = 0 → (scr.1 = scr.1 ∧ vp_in (v4 + (2 : Int32)) scr.2.1 ∧ (scr.1 = scr.1 ∧ vp_in (v4 + (3 : Int32)) scr.2.1 ∧ (scr.1 = scr.1 ∧ vp_in (v4 + (4 : Int32)) scr.2.1 ∧ (scr.1 = scr.1 ∧ vp_in (v4 + (5 : Int32)) scr.2.1 ∧ (scr.1 = scr.1 ∧ vp_in (v4 + (6 : Int32)) scr.2.1 ∧ X_Md_change scr d s59 (0 : Int32) (scr.2.2 ((v4 + (2 : Int32))).toNatClampNeg) (scr.2.2 ((v4 + (3 : Int32))).toNatClampNeg) (scr.2.2 ((v4 + (4 : Int32))).toNatClampNeg) (scr.2.2 ((v4 + (5 : Int32))).toNatClampNeg) (scr.2.2 ((v4 + (6 : Int32))).toNatClampNeg) (fun r62 s61 => X_Md_thrown scr d s61 (fun r64 s63 => ((r64 = r60 → ((r60 = 0 → (vp_in (0 : Int32) 1 ∧ (((lg_cmp (s63.2.1 38 0 ((0 : Int32)).toNatClampNeg) (r62).toInt64) = 0 → r_Lw_law scr d n s63 (v4 + (7 : Int32)) (u1 + 1) (u2 + 6)) ∧ (¬ (lg_cmp (s63.2.1 38 0 ((0 : Int32)).toNatClampNeg) (r62).toInt64) = 0 → (mx_nr .boolean (0 : Int32) ∧ lw_pq (0 : Int32) s63))))) ∧ (¬ r60 = 0 → r_Lw_law scr d n s63 (v4 + (7 : Int32)) (u1 + 1) (u2 + 6)))) ∧ (¬ r64 = r60 → (mx_nr .boolean (0 : Int32) ∧ lw_pq (0 : Int32) s63))))))))))) ∧ (¬ (scr.2.2 ((v4 + (1 : Int32))).toNatClampNeg) = 0 → (scr.1 = scr.1 ∧ vp_in (v4 + (2 : Int32)) scr.2.1 ∧ (scr.1 = scr.1 ∧ vp_in (v4 + (3 : Int32)) scr.2.1 ∧ (scr.1 = scr.1 ∧ vp_in (v4 + (4 : Int32)) scr.2.1 ∧ (scr.1 = scr.1 ∧ vp_in (v4 + (5 : Int32)) scr.2.1 ∧ (scr.1 = scr.1 ∧ vp_in (v4 + (6 : Int32)) scr.2.1 ∧ X_Md_change scr d s59 (1 : Int32) (scr.2.2 ((v4 + (2 : Int32))).toNatClampNeg) (scr.2.2 ((v4 + (3 : Int32))).toNatClampNeg) (scr.2.2 ((v4 + (4 : Int32))).toNatClampNeg) (scr.2.2 ((v4 + (5 : Int32))).toNatClampNeg) (scr.2.2 ((v4 + (6 : Int32))).toNatClampNeg) (fun r66 s65 => X_Md_thrown scr d s65 (fun r68 s67 => ((r68 = r60 → ((r60 = 0 → (vp_in (0 : Int32) 1 ∧ (((lg_cmp (s67.2.1 38 0 ((0 : Int32)).toNatClampNeg) (r66).toInt64) = 0 → r_Lw_law scr d n s67 (v4 + (7 : Int32)) (u1 + 1) (u2 + 6)) ∧ (¬ (lg_cmp (s67.2.1 38 0 ((0 : Int32)).toNatClampNeg) (r66).toInt64) = 0 → (mx_nr .boolean (0 : Int32) ∧ lw_pq (0 : Int32) s67))))) ∧ (¬ r60 = 0 → r_Lw_law scr d n s67 (v4 + (7 : Int32)) (u1 + 1) (u2 + 6)))) ∧ (¬ r68 = r60 → (mx_nr .boolean (0 : Int32) ∧ lw_pq (0 : Int32) s67))))))))))))))))))))) ∧ (¬ (scr.2.2 ((v4 + (1 : Int32))).toNatClampNeg) = 0 → (scr.1 = scr.1 ∧ vp_in (v4 + (2 : Int32)) scr.2.1 ∧ (scr.1 = scr.1 ∧ vp_in (v4 + (3 : Int32)) scr.2.1 ∧ (scr.1 = scr.1 ∧ vp_in (v4 + (4 : Int32)) scr.2.1 ∧ (scr.1 = scr.1 ∧ vp_in (v4 + (5 : Int32)) scr.2.1 ∧ (scr.1 = scr.1 ∧ vp_in (v4 + (6 : Int32)) scr.2.1 ∧ mx_bg (u1 + 1) (u2 + 6) mt_Lw_law (X_Lw_change scr d s (1 : Int32) (scr.2.2 ((v4 + (2 : Int32))).toNatClampNeg) (scr.2.2 ((v4 + (3 : Int32))).toNatClampNeg) (scr.2.2 ((v4 + (4 : Int32))).toNatClampNeg) (scr.2.2 ((v4 + (5 : Int32))).toNatClampNeg) (scr.2.2 ((v4 + (6 : Int32))).toNatClampNeg) (fun r70 s69 => (scr.1 = scr.1 ∧ vp_in (v4 + (1 : Int32)) scr.2.1 ∧ (((scr.2.2 ((v4 + (1 : Int32))).toNatClampNeg) = 0 → (scr.1 = scr.1 ∧ vp_in (v4 + (2 : Int32)) scr.2.1 ∧ (scr.1 = scr.1 ∧ vp_in (v4 + (3 : Int32)) scr.2.1 ∧ (scr.1 = scr.1 ∧ vp_in (v4 + (4 : Int32)) scr.2.1 ∧ (scr.1 = scr.1 ∧ vp_in (v4 + (5 : Int32)) scr.2.1 ∧ (scr.1 = scr.1 ∧ vp_in (v4 + (6 : Int32)) scr.2.1 ∧ X_Md_change scr d s69 (0 : Int32) (scr.2.2 ((v4 + (2 : Int32))).toNatClampNeg) (scr.2.2 ((v4 + (3 : Int32))).toNatClampNeg) (scr.2.2 ((v4 + (4 : Int32))).toNatClampNeg) (scr.2.2 ((v4 + (5 : Int32))).toNatClampNeg) (scr.2.2 ((v4 + (6 : Int32))).toNatClampNeg) (fun r72 s71 => X_Md_thrown scr d s71 (fun r74 s73 => ((r74 = r70 → ((r70 = 0 → (vp_in (0 : Int32) 1 ∧ (((lg_cmp (s73.2.1 38 0 ((0 : Int32)).toNatClampNeg) (r72).toInt64) = 0 → r_Lw_law scr d n s73 (v4 + (7 : Int32)) (u1 + 1) (u2 + 6)) ∧ (¬ (lg_cmp (s73.2.1 38 0 ((0 : Int32)).toNatClampNeg) (r72).toInt64) = 0 → (mx_nr .boolean (0 : Int32) ∧ lw_pq (0 : Int32) s73))))) ∧ (¬ r70 = 0 → r_Lw_law scr d n s73 (v4 + (7 : Int32)) (u1 + 1) (u2 + 6)))) ∧ (¬ r74 = r70 → (mx_nr .boolean (0 : Int32) ∧ lw_pq (0 : Int32) s73))))))))))) ∧ (¬ (scr.2.2 ((v4 + (1 : Int32))).toNatClampNeg) = 0 → (scr.1 = scr.1 ∧ vp_in (v4 + (2 : Int32)) scr.2.1 ∧ (scr.1 = scr.1 ∧ vp_in (v4 + (3 : Int32)) scr.2.1 ∧ (scr.1 = scr.1 ∧ vp_in (v4 + (4 : Int32)) scr.2.1 ∧ (scr.1 = scr.1 ∧ vp_in (v4 + (5 : Int32)) scr.2.1 ∧ (scr.1 = scr.1 ∧ vp_in (v4 + (6 : Int32)) scr.2.1 ∧ X_Md_change scr d s69 (1 : Int32) (scr.2.2 ((v4 + (2 : Int32))).toNatClampNeg) (scr.2.2 ((v4 + (3 : Int32))).toNatClampNeg) (scr.2.2 ((v4 + (4 : Int32))).toNatClampNeg) (scr.2.2 ((v4 + (5 : Int32))).toNatClampNeg) (scr.2.2 ((v4 + (6 : Int32))).toNatClampNeg) (fun r76 s75 => X_Md_thrown scr d s75 (fun r78 s77 => ((r78 = r70 → ((r70 = 0 → (vp_in (0 : Int32) 1 ∧ (((lg_cmp (s77.2.1 38 0 ((0 : Int32)).toNatClampNeg) (r76).toInt64) = 0 → r_Lw_law scr d n s77 (v4 + (7 : Int32)) (u1 + 1) (u2 + 6)) ∧ (¬ (lg_cmp (s77.2.1 38 0 ((0 : Int32)).toNatClampNeg) (r76).toInt64) = 0 → (mx_nr .boolean (0 : Int32) ∧ lw_pq (0 : Int32) s77))))) ∧ (¬ r70 = 0 → r_Lw_law scr d n s77 (v4 + (7 : Int32)) (u1 + 1) (u2 + 6)))) ∧ (¬ r78 = r70 → (mx_nr .boolean (0 : Int32) ∧ lw_pq (0 : Int32) s77)))))))))))))))))))))))) ∧ (¬ ((scr.2.2 (v4).toNatClampNeg) &&& (15 : Int32)) = nI 4 → ((((scr.2.2 (v4).toNatClampNeg) &&& (15 : Int32)) = nI 5 → (scr.1 = scr.1 ∧ vp_in (v4 + (1 : Int32)) scr.2.1 ∧ mx_bg (u1 + 1) (u2 + 6) mt_Lw_law (X_Lw_commit scr d s (scr.2.2 ((v4 + (1 : Int32))).toNatClampNeg) (fun r54 s53 => (scr.1 = scr.1 ∧ vp_in (v4 + (1 : Int32)) scr.2.1 ∧ X_Md_commit scr d s53 (scr.2.2 ((v4 + (1 : Int32))).toNatClampNeg) (fun r56 s55 => X_Md_thrown scr d s55 (fun r58 s57 => ((r58 = r54 → ((r54 = 0 → (vp_in (0 : Int32) 1 ∧ (((lg_cmp (s57.2.1 38 0 ((0 : Int32)).toNatClampNeg) (r56).toInt64) = 0 → r_Lw_law scr d n s57 (v4 + (7 : Int32)) (u1 + 1) (u2 + 6)) ∧ (¬ (lg_cmp (s57.2.1 38 0 ((0 : Int32)).toNatClampNeg) (r56).toInt64) = 0 → (mx_nr .boolean (0 : Int32) ∧ lw_pq (0 : Int32) s57))))) ∧ (¬ r54 = 0 → r_Lw_law scr d n s57 (v4 + (7 : Int32)) (u1 + 1) (u2 + 6)))) ∧ (¬ r58 = r54 → (mx_nr .boolean (0 : Int32) ∧ lw_pq (0 : Int32) s57)))))))))) ∧ (¬ ((scr.2.2 (v4).toNatClampNeg) &&& (15 : Int32)) = nI 5 → ((((scr.2.2 (v4).toNatClampNeg) &&& (15 : Int32)) = nI 6 → X_Rs_crash scr d s (fun s51 => X_Md_crash scr d s51 (fun s52 => r_Lw_law scr d n s52 (v4 + (7 : Int32)) u1 u2))) ∧ (¬ ((scr.2.2 (v4).toNatClampNeg) &&& (15 : Int32)) = nI 6 → ((((scr.2.2 (v4).toNatClampNeg) &&& (15 : Int32)) = nI 7 → X_Rs_latest scr d s (fun r48 s47 => X_Md_latest scr d s47 (fun r50 s49 => ((r48 = r50 → r_Lw_law scr d n s49 (v4 + (7 : Int32)) u1 u2) ∧ (¬ r48 = r50 → (mx_nr .boolean (0 : Int32) ∧ lw_pq (0 : Int32) s49)))))) ∧ (¬ ((scr.2.2 (v4).toNatClampNeg) &&& (15 : Int32)) = nI 7 → ((((scr.2.2 (v4).toNatClampNeg) &&& (15 : Int32)) = nI 8 → X_Rs_records scr d s (fun r44 s43 => X_Md_records scr d s43 (fun r46 s45 => ((r44 = r46 → r_Lw_law scr d n s45 (v4 + (7 : Int32)) u1 u2) ∧ (¬ r44 = r46 → (mx_nr .boolean (0 : Int32) ∧ lw_pq (0 : Int32) s45)))))) ∧ (¬ ((scr.2.2 (v4).toNatClampNeg) &&& (15 : Int32)) = nI 8 → ((((scr.2.2 (v4).toNatClampNeg) &&& (15 : Int32)) = nI 9 → (scr.1 = scr.1 ∧ vp_in (v4 + (1 : Int32)) scr.2.1 ∧ mx_bg (u1 + 1) (u2 + 6) mt_Lw_law (X_Lw_tuples scr d s (scr.2.2 ((v4 + (1 : Int32))).toNatClampNeg) (fun r38 s37 => (scr.1 = scr.1 ∧ vp_in (v4 + (1 : Int32)) scr.2.1 ∧ X_Md_tuples scr d s37 (scr.2.2 ((v4 + (1 : Int32))).toNatClampNeg) (fun r40 s39 => X_Md_thrown scr d s39 (fun r42 s41 => ((r42 = r38 → ((r38 = 0 → (vp_in (0 : Int32) 1 ∧ (((lg_cmp (s41.2.1 38 0 ((0 : Int32)).toNatClampNeg) (r40).toInt64) = 0 → r_Lw_law scr d n s41 (v4 + (7 : Int32)) (u1 + 1) (u2 + 6)) ∧ (¬ (lg_cmp (s41.2.1 38 0 ((0 : Int32)).toNatClampNeg) (r40).toInt64) = 0 → (mx_nr .boolean (0 : Int32) ∧ lw_pq (0 : Int32) s41))))) ∧ (¬ r38 = 0 → r_Lw_law scr d n s41 (v4 + (7 : Int32)) (u1 + 1) (u2 + 6)))) ∧ (¬ r42 = r38 → (mx_nr .boolean (0 : Int32) ∧ lw_pq (0 : Int32) s41)))))))))) ∧ (¬ ((scr.2.2 (v4).toNatClampNeg) &&& (15 : Int32)) = nI 9 → ((((scr.2.2 (v4).toNatClampNeg) &&& (15 : Int32)) = nI 10 → (scr.1 = scr.1 ∧ vp_in (v4 + (1 : Int32)) scr.2.1 ∧ (scr.1 = scr.1 ∧ vp_in (v4 + (2 : Int32)) scr.2.1 ∧ (scr.1 = scr.1 ∧ vp_in (v4 + (3 : Int32)) scr.2.1 ∧ (scr.1 = scr.1 ∧ vp_in (v4 + (4 : Int32)) scr.2.1 ∧ mx_bg (u1 + 1) (u2 + 6) mt_Lw_law (X_Lw_check scr d s (scr.2.2 ((v4 + (1 : Int32))).toNatClampNeg) (scr.2.2 ((v4 + (2 : Int32))).toNatClampNeg) (scr.2.2 ((v4 + (3 : Int32))).toNatClampNeg) (scr.2.2 ((v4 + (4 : Int32))).toNatClampNeg) (fun r32 s31 => (scr.1 = scr.1 ∧ vp_in (v4 + (1 : Int32)) scr.2.1 ∧ (scr.1 = scr.1 ∧ vp_in (v4 + (2 : Int32)) scr.2.1 ∧ (scr.1 = scr.1 ∧ vp_in (v4 + (3 : Int32)) scr.2.1 ∧ (scr.1 = scr.1 ∧ vp_in (v4 + (4 : Int32)) scr.2.1 ∧ X_Md_check scr d s31 (scr.2.2 ((v4 + (1 : Int32))).toNatClampNeg) (scr.2.2 ((v4 + (2 : Int32))).toNatClampNeg) (scr.2.2 ((v4 + (3 : Int32))).toNatClampNeg) (scr.2.2 ((v4 + (4 : Int32))).toNatClampNeg) (fun r34 s33 => X_Md_thrown scr d s33 (fun r36 s35 => ((r36 = r32 → ((r32 = 0 → (vp_in (0 : Int32) 1 ∧ ((r34 = 0 → (((lg_cmp (s35.2.1 38 0 ((0 : Int32)).toNatClampNeg) (0 : Int64)) = 0 → r_Lw_law scr d n s35 (v4 + (7 : Int32)) (u1 + 1) (u2 + 6)) ∧ (¬ (lg_cmp (s35.2.1 38 0 ((0 : Int32)).toNatClampNeg) (0 : Int64)) = 0 → (mx_nr .boolean (0 : Int32) ∧ lw_pq (0 : Int32) s35)))) ∧ (¬ r34 = 0 → (((lg_cmp (s35.2.1 38 0 ((0 : Int32)).toNatClampNeg) (1 : Int64)) = 0 → r_Lw_law scr d n s35 (v4 + (7 : Int32)) (u1 + 1) (u2 + 6)) ∧ (¬ (lg_cmp (s35.2.1 38 0 ((0 : Int32)).toNatClampNeg) (1 : Int64)) = 0 → (mx_nr .boolean (0 : Int32) ∧ lw_pq (0 : Int32) s35))))))) ∧ (¬ r32 = 0 → r_Lw_law scr d n s35 (v4 + (7 : Int32)) (u1 + 1) (u2 + 6)))) ∧ (¬ r36 = r32 → (mx_nr .boolean (0 : Int32) ∧ lw_pq (0 : Int32) s35)))))))))))))))) ∧ (¬ ((scr.2.2 (v4).toNatClampNeg) &&& (15 : Int32)) = nI 10 → ((((scr.2.2 (v4).toNatClampNeg) &&& (15 : Int32)) = nI 11 → (scr.1 = scr.1 ∧ vp_in (v4 + (1 : Int32)) scr.2.1 ∧ (scr.1 = scr.1 ∧ vp_in (v4 + (2 : Int32)) scr.2.1 ∧ (scr.1 = scr.1 ∧ vp_in (v4 + (3 : Int32)) scr.2.1 ∧ mx_bg (u1 + 1) (u2 + 6) mt_Lw_law (X_Lw_expand scr d s (scr.2.2 ((v4 + (1 : Int32))).toNatClampNeg) (scr.2.2 ((v4 + (2 : Int32))).toNatClampNeg) (scr.2.2 ((v4 + (3 : Int32))).toNatClampNeg) (fun r26 s25 => (scr.1 = scr.1 ∧ vp_in (v4 + (1 : Int32)) scr.2.1 ∧ (scr.1 = scr.1 ∧ vp_in (v4 + (2 : Int32)) scr.2.1 ∧ (scr.1 = scr.1 ∧ vp_in (v4 + (3 : Int32)) scr.2.1 ∧ X_Md_expand scr d s25 (scr.2.2 ((v4 + (1 : Int32))).toNatClampNeg) (scr.2.2 ((v4 + (2 : Int32))).toNatClampNeg) (scr.2.2 ((v4 + (3 : Int32))).toNatClampNeg) (fun r28 s27 => X_Md_thrown scr d s27 (fun r30 s29 => ((r30 = r26 → ((r26 = 0 → (vp_in (0 : Int32) 1 ∧ (((lg_cmp (s29.2.1 38 0 ((0 : Int32)).toNatClampNeg) (r28).toInt64) = 0 → r_Lw_law scr d n s29 (v4 + (7 : Int32)) (u1 + 1) (u2 + 6)) ∧ (¬ (lg_cmp (s29.2.1 38 0 ((0 : Int32)).toNatClampNeg) (r28).toInt64) = 0 → (mx_nr .boolean (0 : Int32) ∧ lw_pq (0 : Int32) s29))))) ∧ (¬ r26 = 0 → r_Lw_law scr d n s29 (v4 + (7 : Int32)) (u1 + 1) (u2 + 6)))) ∧ (¬ r30 = r26 → (mx_nr .boolean (0 : Int32) ∧ lw_pq (0 : Int32) s29)))))))))))))) ∧ (¬ ((scr.2.2 (v4).toNatClampNeg) &&& (15 : Int32)) = nI 11 → ((((scr.2.2 (v4).toNatClampNeg) &&& (15 : Int32)) = nI 12 → (scr.1 = scr.1 ∧ vp_in (v4 + (1 : Int32)) scr.2.1 ∧ (scr.1 = scr.1 ∧ vp_in (v4 + (2 : Int32)) scr.2.1 ∧ (scr.1 = scr.1 ∧ vp_in (v4 + (3 : Int32)) scr.2.1 ∧ mx_bg (u1 + 1) (u2 + 6) mt_Lw_law (X_Lw_lookup scr d s (scr.2.2 ((v4 + (1 : Int32))).toNatClampNeg) (scr.2.2 ((v4 + (2 : Int32))).toNatClampNeg) (scr.2.2 ((v4 + (3 : Int32))).toNatClampNeg) (fun r20 s19 => (scr.1 = scr.1 ∧ vp_in (v4 + (1 : Int32)) scr.2.1 ∧ (scr.1 = scr.1 ∧ vp_in (v4 + (2 : Int32)) scr.2.1 ∧ (scr.1 = scr.1 ∧ vp_in (v4 + (3 : Int32)) scr.2.1 ∧ X_Md_lookup scr d s19 (scr.2.2 ((v4 + (1 : Int32))).toNatClampNeg) (scr.2.2 ((v4 + (2 : Int32))).toNatClampNeg) (scr.2.2 ((v4 + (3 : Int32))).toNatClampNeg) (fun r22 s21 => X_Md_thrown scr d s21 (fun r24 s23 => ((r24 = r20 → ((r20 = 0 → (vp_in (0 : Int32) 1 ∧ (((lg_cmp (s23.2.1 38 0 ((0 : Int32)).toNatClampNeg) (r22).toInt64) = 0 → r_Lw_law scr d n s23 (v4 + (7 : Int32)) (u1 + 1) (u2 + 6)) ∧ (¬ (lg_cmp (s23.2.1 38 0 ((0 : Int32)).toNatClampNeg) (r22).toInt64) = 0 → (mx_nr .boolean (0 : Int32) ∧ lw_pq (0 : Int32) s23))))) ∧ (¬ r20 = 0 → r_Lw_law scr d n s23 (v4 + (7 : Int32)) (u1 + 1) (u2 + 6)))) ∧ (¬ r24 = r20 → (mx_nr .boolean (0 : Int32) ∧ lw_pq (0 : Int32) s23)))))))))))))) ∧ (¬ ((scr.2.2 (v4).toNatClampNeg) &&& (15 : Int32)) = nI 12 → ((((scr.2.2 (v4).toNatClampNeg) &&& (15 : Int32)) = nI 13 → (scr.1 = scr.1 ∧ vp_in (v4 + (1 : Int32)) scr.2.1 ∧ (scr.1 = scr.1 ∧ vp_in (v4 + (2 : Int32)) scr.2.1 ∧ (scr.1 = scr.1 ∧ vp_in (v4 + (3 : Int32)) scr.2.1 ∧ (scr.1 = scr.1 ∧ vp_in (v4 + (4 : Int32)) scr.2.1 ∧ (scr.1 = scr.1 ∧ vp_in (v4 + (5 : Int32)) scr.2.1 ∧ mx_bg (u1 + 1) (u2 + 6) mt_Lw_law (X_Lw_nested scr d s (scr.2.2 ((v4 + (1 : Int32))).toNatClampNeg) (scr.2.2 ((v4 + (2 : Int32))).toNatClampNeg) (scr.2.2 ((v4 + (3 : Int32))).toNatClampNeg) (scr.2.2 ((v4 + (4 : Int32))).toNatClampNeg) (scr.2.2 ((v4 + (5 : Int32))).toNatClampNeg) (fun r14 s13 => (scr.1 = scr.1 ∧ vp_in (v4 + (1 : Int32)) scr.2.1 ∧ (scr.1 = scr.1 ∧ vp_in (v4 + (2 : Int32)) scr.2.1 ∧ (scr.1 = scr.1 ∧ vp_in (v4 + (3 : Int32)) scr.2.1 ∧ (scr.1 = scr.1 ∧ vp_in (v4 + (4 : Int32)) scr.2.1 ∧ (scr.1 = scr.1 ∧ vp_in (v4 + (5 : Int32)) scr.2.1 ∧ X_Md_nested scr d s13 (scr.2.2 ((v4 + (1 : Int32))).toNatClampNeg) (scr.2.2 ((v4 + (2 : Int32))).toNatClampNeg) (scr.2.2 ((v4 + (3 : Int32))).toNatClampNeg) (scr.2.2 ((v4 + (4 : Int32))).toNatClampNeg) (scr.2.2 ((v4 + (5 : Int32))).toNatClampNeg) (fun r16 s15 => X_Md_thrown scr d s15 (fun r18 s17 => ((r18 = r14 → ((r14 = 0 → (vp_in (0 : Int32) 1 ∧ ((r16 = 0 → (((lg_cmp (s17.2.1 38 0 ((0 : Int32)).toNatClampNeg) (0 : Int64)) = 0 → r_Lw_law scr d n s17 (v4 + (7 : Int32)) (u1 + 1) (u2 + 6)) ∧ (¬ (lg_cmp (s17.2.1 38 0 ((0 : Int32)).toNatClampNeg) (0 : Int64)) = 0 → (mx_nr .boolean (0 : Int32) ∧ lw_pq (0 : Int32) s17)))) ∧ (¬ r16 = 0 → (((lg_cmp (s17.2.1 38 0 ((0 : Int32)).toNatClampNeg) (1 : Int64)) = 0 → r_Lw_law scr d n s17 (v4 + (7 : Int32)) (u1 + 1) (u2 + 6)) ∧ (¬ (lg_cmp (s17.2.1 38 0 ((0 : Int32)).toNatClampNeg) (1 : Int64)) = 0 → (mx_nr .boolean (0 : Int32) ∧ lw_pq (0 : Int32) s17))))))) ∧ (¬ r14 = 0 → r_Lw_law scr d n s17 (v4 + (7 : Int32)) (u1 + 1) (u2 + 6)))) ∧ (¬ r18 = r14 → (mx_nr .boolean (0 : Int32) ∧ lw_pq (0 : Int32) s17)))))))))))))))))) ∧ (¬ ((scr.2.2 (v4).toNatClampNeg) &&& (15 : Int32)) = nI 13 → ((((scr.2.2 (v4).toNatClampNeg) &&& (15 : Int32)) = nI 14 → (scr.1 = scr.1 ∧ vp_in (v4 + (1 : Int32)) scr.2.1 ∧ mx_bg (u1 + 1) (u2 + 6) mt_Lw_law (X_Lw_watch scr d s (scr.2.2 ((v4 + (1 : Int32))).toNatClampNeg) (fun r8 s7 => (scr.1 = scr.1 ∧ vp_in (v4 + (1 : Int32)) scr.2.1 ∧ X_Md_watch scr d s7 (scr.2.2 ((v4 + (1 : Int32))).toNatClampNeg) (fun r10 s9 => X_Md_thrown scr d s9 (fun r12 s11 => ((r12 = r8 → ((r8 = 0 → (vp_in (0 : Int32) 1 ∧ (((lg_cmp (s11.2.1 38 0 ((0 : Int32)).toNatClampNeg) (r10).toInt64) = 0 → r_Lw_law scr d n s11 (v4 + (7 : Int32)) (u1 + 1) (u2 + 6)) ∧ (¬ (lg_cmp (s11.2.1 38 0 ((0 : Int32)).toNatClampNeg) (r10).toInt64) = 0 → (mx_nr .boolean (0 : Int32) ∧ lw_pq (0 : Int32) s11))))) ∧ (¬ r8 = 0 → r_Lw_law scr d n s11 (v4 + (7 : Int32)) (u1 + 1) (u2 + 6)))) ∧ (¬ r12 = r8 → (mx_nr .boolean (0 : Int32) ∧ lw_pq (0 : Int32) s11)))))))))) ∧ (¬ ((scr.2.2 (v4).toNatClampNeg) &&& (15 : Int32)) = nI 14 → ((((scr.2.2 (v4).toNatClampNeg) &&& (15 : Int32)) = nI 15 → (scr.1 = scr.1 ∧ vp_in (v4 + (1 : Int32)) scr.2.1 ∧ (scr.1 = scr.1 ∧ vp_in (v4 + (2 : Int32)) scr.2.1 ∧ (scr.1 = scr.1 ∧ vp_in (v4 + (3 : Int32)) scr.2.1 ∧ mx_bg (u1 + 1) (u2 + 6) mt_Lw_law (X_Lw_watched scr d s (scr.2.2 ((v4 + (1 : Int32))).toNatClampNeg) (scr.2.2 ((v4 + (2 : Int32))).toNatClampNeg) (scr.2.2 ((v4 + (3 : Int32))).toNatClampNeg) (fun r2 s1 => (scr.1 = scr.1 ∧ vp_in (v4 + (1 : Int32)) scr.2.1 ∧ (scr.1 = scr.1 ∧ vp_in (v4 + (2 : Int32)) scr.2.1 ∧ (scr.1 = scr.1 ∧ vp_in (v4 + (3 : Int32)) scr.2.1 ∧ X_Md_watched scr d s1 (scr.2.2 ((v4 + (1 : Int32))).toNatClampNeg) (scr.2.2 ((v4 + (2 : Int32))).toNatClampNeg) (scr.2.2 ((v4 + (3 : Int32))).toNatClampNeg) (fun r4 s3 => X_Md_thrown scr d s3 (fun r6 s5 => ((r6 = r2 → ((r2 = 0 → (vp_in (0 : Int32) 1 ∧ (((lg_cmp (s5.2.1 38 0 ((0 : Int32)).toNatClampNeg) (r4).toInt64) = 0 → r_Lw_law scr d n s5 (v4 + (7 : Int32)) (u1 + 1) (u2 + 6)) ∧ (¬ (lg_cmp (s5.2.1 38 0 ((0 : Int32)).toNatClampNeg) (r4).toInt64) = 0 → (mx_nr .boolean (0 : Int32) ∧ lw_pq (0 : Int32) s5))))) ∧ (¬ r2 = 0 → r_Lw_law scr d n s5 (v4 + (7 : Int32)) (u1 + 1) (u2 + 6)))) ∧ (¬ r6 = r2 → (mx_nr .boolean (0 : Int32) ∧ lw_pq (0 : Int32) s5)))))))))))))) ∧ (¬ ((scr.2.2 (v4).toNatClampNeg) &&& (15 : Int32)) = nI 15 → r_Lw_law scr d n s (v4 + (7 : Int32)) u1 u2))))))))))))))))))))))))))))))))))))) : r_Lw_law scr d (n + 1) s v4 u1 u2 := h
end
section
def mx_fr (P : Nat → Nat → Nat → Prop) (s t : mSt) : Prop := (∀ f i j, ¬ P f i j → t.1 f i j = s.1 f i j) ∧ (∀ f i j, ¬ P f i j → t.2.1 f i j = s.2.1 f i j) ∧ (∀ f i j, ¬ P f i j → t.2.2.1 f i j = s.2.2.1 f i j) ∧ t.2.2.2 = s.2.2.2
theorem mx_u3_s {α : Type} {F : Nat → Nat → Nat → α} {f i j : Nat} {v : α} : mx_u3 F f i j v f i j = v := if_pos ⟨rfl, rfl, rfl⟩
theorem mx_u3_n {α : Type} {F : Nat → Nat → Nat → α} {f i j f' i' j' : Nat} {v : α} (h : ¬ (f' = f ∧ i' = i ∧ j' = j)) : mx_u3 F f i j v f' i' j' = F f' i' j' := if_neg h
section
variable {P Q : Nat → Nat → Nat → Prop} {s t u : mSt} {f i j : Nat}
theorem mx_fr.rf : mx_fr P s s := ⟨fun _ _ _ _ => rfl, fun _ _ _ _ => rfl, fun _ _ _ _ => rfl, rfl⟩
theorem mx_fr.tr (h1 : mx_fr P s t) (h2 : mx_fr P t u) : mx_fr P s u := ⟨fun f i j h => (h2.1 f i j h).trans (h1.1 f i j h), fun f i j h => (h2.2.1 f i j h).trans (h1.2.1 f i j h), fun f i j h => (h2.2.2.1 f i j h).trans (h1.2.2.1 f i j h), h2.2.2.2.trans h1.2.2.2⟩
theorem mx_fr.mono (h : mx_fr P s t) (hP : ∀ f i j, P f i j → Q f i j) : mx_fr Q s t := ⟨fun f i j h9 => h.1 f i j (fun q => h9 (hP f i j q)), fun f i j h9 => h.2.1 f i j (fun q => h9 (hP f i j q)), fun f i j h9 => h.2.2.1 f i j (fun q => h9 (hP f i j q)), h.2.2.2⟩
theorem mx_fr.si {v : Int32} (h : P f i j) : mx_fr P s (mx_si s f i j v) := ⟨fun f' i' j' h9 => mx_u3_n (fun ⟨a, b, c⟩ => h9 (by rw [a, b, c]; exact h)), fun _ _ _ _ => rfl, fun _ _ _ _ => rfl, rfl⟩
theorem mx_fr.sl {v : Int64} (h : P f i j) : mx_fr P s (mx_sl s f i j v) := ⟨fun _ _ _ _ => rfl, fun f' i' j' h9 => mx_u3_n (fun ⟨a, b, c⟩ => h9 (by rw [a, b, c]; exact h)), fun _ _ _ _ => rfl, rfl⟩
theorem mx_fr.sp {v : Nat} (h : P f i j) : mx_fr P s (mx_sp s f i j v) := ⟨fun _ _ _ _ => rfl, fun _ _ _ _ => rfl, fun f' i' j' h9 => mx_u3_n (fun ⟨a, b, c⟩ => h9 (by rw [a, b, c]; exact h)), rfl⟩
theorem mx_si_s {v : Int32} : (mx_si s f i j v).1 f i j = v := mx_u3_s
theorem mx_si_n {v : Int32} {f' i' j' : Nat} (h : ¬ (f' = f ∧ i' = i ∧ j' = j)) : (mx_si s f i j v).1 f' i' j' = s.1 f' i' j' := mx_u3_n h
theorem mx_sl_s {v : Int64} : (mx_sl s f i j v).2.1 f i j = v := mx_u3_s
theorem mx_sl_n {v : Int64} {f' i' j' : Nat} (h : ¬ (f' = f ∧ i' = i ∧ j' = j)) : (mx_sl s f i j v).2.1 f' i' j' = s.2.1 f' i' j' := mx_u3_n h
end
section
variable {scr : mSc} {d : Nat} {s : mSt}
def F_forget (f i j : Nat) : Prop := (f = 0 ∧ i = 0 ∧ j = 3) ∨ (f = 14 ∧ i < 8 ∧ j = 0)
theorem S_forget_7 {post : mSt → Prop} {ex : Nat → mSt → Prop} : ∀ (m v : Nat) (s : mSt), v + m = 8 → (∀ t, mx_fr F_forget s t → (∀ w, v ≤ w → w < 8 → t.1 14 w 0 = -1) → (∀ w, w < v → t.1 14 w 0 = s.1 14 w 0) → t.1 0 0 3 = s.1 0 0 3 → post t) → r_Rs_forget_7 scr d post ex (m + 1) s (nI v) := by
  intro m
  induction m with
  | zero =>
    intro v s hv h
    obtain rfl : v = 8 := by omega
    exact w_Rs_forget_7 (pk_le 8 8 (fun _ => h s mx_fr.rf (fun w h1 h2 => by omega) (fun w _ => rfl) rfl) (fun h => by omega))
  | succ m ih =>
    intro v s hv h
    refine w_Rs_forget_7 (pk_le 8 v (fun h => by omega) (fun _ => ⟨pk_in v 8 (by omega), fun t ht => ?_⟩))
    rw [pk_cl v] at ht
    subst ht
    rw [show nI v + (1 : Int32) = nI (v + 1) from nI_1 v]
    refine ih (v + 1) _ (by omega) (fun t h1 h2 h3 h4 => h t (mx_fr.tr (mx_fr.si (Or.inr ⟨rfl, by omega, rfl⟩)) h1) (fun w g1 g2 => ?_) (fun w g => ?_) ?_)
    · by_cases hw : v + 1 ≤ w
      · exact h2 w hw g2
      · obtain rfl : w = v := by omega
        rw [h3 w (by omega)]
        exact mx_si_s
    · rw [h3 w (by omega)]
      exact mx_si_n (by omega)
    · rw [h4]
      exact mx_si_n (by omega)
theorem S_forget {post : mSt → Prop} (h : ∀ t, mx_fr F_forget s t → t.1 0 0 3 = 0 → (∀ w, w < 8 → t.1 14 w 0 = -1) → post t) : X_Rs_forget scr (d + 1) s post := by
  refine w_Rs_forget ⟨9, fun t ht => ?_⟩
  subst ht
  refine S_forget_7 8 0 _ rfl (fun t h1 h2 h3 h4 => h t (mx_fr.tr (mx_fr.si (Or.inl ⟨rfl, rfl, rfl⟩)) h1) ?_ (fun w hw => h2 w (Nat.zero_le _) hw))
  rw [h4]
  exact mx_si_s
theorem S_crash {post : mSt → Prop} (h : ∀ t, mx_fr F_forget s t → t.1 0 0 3 = 0 → (∀ w, w < 8 → t.1 14 w 0 = -1) → post t) : X_Rs_crash scr (d + 2) s post := w_Rs_crash (S_forget h)
def lg_mk (R : Nat → Int32) : Nat → Nat
  | 0 => 0
  | p + 1 => lg_mk R p + (if R p = -1 then 1 else 0)
theorem lg_mk_le {R : Nat → Int32} : ∀ p, lg_mk R p ≤ p
  | 0 => Nat.le_refl _
  | p + 1 => by
    have := lg_mk_le (R := R) p
    unfold lg_mk
    split <;> omega
def lg_at (R : Nat → Int32) (len tok p : Nat) : Prop := p ≤ len ∧ (p = len ∨ tok ≤ lg_mk R p) ∧ ∀ q, q < p → lg_mk R q < tok
theorem S_lengthAt_4 {post : Int32 → mSt → Prop} {ex : Nat → mSt → Prop} {len tok : Nat} (hl : s.1 11 0 1 = nI len) (hlen : len ≤ 120) (htok : tok < 2 ^ 30) : ∀ (m p : Nat), p + m = len → (∀ q, q < p → lg_mk (s.1 12 0) q < tok) → (∀ p, lg_at (s.1 12 0) len tok p → post (nI p) s) → r_Lg_lengthAt_4 scr d (nI tok) post ex (m + 1) s (nI (lg_mk (s.1 12 0) p)) (nI p) := by
  intro m
  induction m with
  | zero =>
    intro p hp hq h
    exact w_Lg_lengthAt_4 (pk_le len p (fun _ => h p ⟨by omega, Or.inl (by omega), hq⟩) (fun h => by omega) hl)
  | succ m ih =>
    intro p hp hq h
    have hm := lg_mk_le (R := s.1 12 0) p
    refine w_Lg_lengthAt_4 (pk_le len p (fun h => by omega) (fun _ => pk_le tok (lg_mk (s.1 12 0) p) (fun h9 => h p ⟨by omega, Or.inr h9, hq⟩) (fun h9 => ⟨pk_in p 120 (by omega), ?_⟩)) hl)
    rw [pk_cl p, show nI p + (1 : Int32) = nI (p + 1) from nI_1 p]
    have hq2 : ∀ q, q < p + 1 → lg_mk (s.1 12 0) q < tok := fun q hqp => by
      by_cases e : q = p
      · subst e
        exact h9
      · exact hq q (by omega)
    have ih := ih (p + 1) (by omega) hq2 h
    refine ⟨fun hR => ?_, fun hR => ?_⟩
    · have e : lg_mk (s.1 12 0) (p + 1) = lg_mk (s.1 12 0) p + 1 := by
        show _ + (if _ then 1 else 0) = _
        rw [if_pos hR]
      rw [e] at ih
      rw [show nI (lg_mk (s.1 12 0) p) + (1 : Int32) = nI (lg_mk (s.1 12 0) p + 1) from nI_1 _]
      exact ih
    · have e : lg_mk (s.1 12 0) (p + 1) = lg_mk (s.1 12 0) p := by
        show _ + (if _ then 1 else 0) = _
        rw [if_neg hR]
        rfl
      rw [e] at ih
      exact ih
theorem S_lengthAt {post : Int32 → mSt → Prop} {len tok : Nat} (hl : s.1 11 0 1 = nI len) (hlen : len ≤ 120) (htok : tok < 2 ^ 30) (h : ∀ p, lg_at (s.1 12 0) len tok p → post (nI p) s) : X_Lg_lengthAt scr (d + 1) s (nI tok) post := w_Lg_lengthAt ⟨len + 1, S_lengthAt_4 hl hlen htok len 0 (by omega) (fun q hq => by omega) h⟩
theorem S_write {post : mSt → Prop} {len k : Nat} {x : Int32} (hl : s.1 11 0 1 = nI len) (hk : len + k < 120) (h : post (mx_si s 12 0 (len + k) x)) : X_Lg_write scr (d + 1) s (nI k) x post := by
  refine w_Lg_write ?_
  rw [hl, nI_add len k]
  refine pk_le 120 (len + k) (fun h => by omega) (fun _ => ⟨pk_in (len + k) 120 hk, fun t ht => ?_⟩)
  rw [pk_cl (len + k)] at ht
  subst ht
  exact h
end
end
section
def lg_cn (R : Nat → Int32) : Nat → Nat
  | 0 => 0
  | p + 1 => lg_cn R p + (if R p = -1 then 0 else 1)
theorem lg_mk_c {R : Nat → Int32} : ∀ p, lg_mk R p + lg_cn R p = p
  | 0 => rfl
  | p + 1 => by
    have := lg_mk_c (R := R) p
    unfold lg_mk lg_cn
    split <;> omega
theorem lg_mk_mono {R : Nat → Int32} {p q : Nat} (h : p ≤ q) : lg_mk R p ≤ lg_mk R q := by
  induction h with
  | refl => exact Nat.le_refl _
  | step _ ih => exact Nat.le_trans ih (Nat.le_add_right _ _)
theorem lg_cn_mono {R : Nat → Int32} {p q : Nat} (h : p ≤ q) : lg_cn R p ≤ lg_cn R q := by
  induction h with
  | refl => exact Nat.le_refl _
  | step _ ih => exact Nat.le_trans ih (Nat.le_add_right _ _)
theorem lg_mk_1 {R : Nat → Int32} {p : Nat} (h : R p = -1) : lg_mk R (p + 1) = lg_mk R p + 1 := by
  show _ + (if _ then 1 else 0) = _
  rw [if_pos h]
theorem lg_mk_0 {R : Nat → Int32} {p : Nat} (h : ¬ R p = -1) : lg_mk R (p + 1) = lg_mk R p := by
  show _ + (if _ then 1 else 0) = _
  rw [if_neg h]
  rfl
theorem lg_cn_1 {R : Nat → Int32} {p : Nat} (h : R p = -1) : lg_cn R (p + 1) = lg_cn R p := by
  show _ + (if _ then 0 else 1) = _
  rw [if_pos h]
  rfl
theorem lg_cn_0 {R : Nat → Int32} {p : Nat} (h : ¬ R p = -1) : lg_cn R (p + 1) = lg_cn R p + 1 := by
  show _ + (if _ then 0 else 1) = _
  rw [if_neg h]
section
variable {scr : mSc} {d : Nat} {s : mSt}
theorem S_hasRoomFor {post : Int32 → mSt → Prop} {len m : Nat} (hl : s.1 11 0 1 = nI len) (hlen : len ≤ 120) (hm : m < 2 ^ 30) (h0 : 120 < len + m → post 0 s) (h1 : len + m ≤ 120 → post 1 s) : X_Lg_hasRoomFor scr (d + 1) s (nI m) post := by
  refine w_Lg_hasRoomFor ?_
  rw [hl, show (120 : Int32) - nI len = nI (120 - len) from pk_sub hlen]
  exact pk_lt (120 - len) m (fun h => ⟨rfl, h0 (by omega)⟩) (fun h => ⟨rfl, h1 (by omega)⟩)
theorem S_mark {post : mSt → Prop} {len k : Nat} (hl : s.1 11 0 1 = nI len) (hk : len + k < 120) (h : post (mx_si (mx_si (mx_si s 12 0 (len + k) (-1)) 11 0 1 (nI (len + k + 1))) 11 0 2 (s.1 11 0 2 + 1))) : X_Lg_mark scr (d + 2) s (nI k) post := by
  refine w_Lg_mark (S_write hl hk (fun t ht t' ht' => ?_))
  subst ht
  subst ht'
  rw [mx_si_n (show ¬ (11 = 12 ∧ 0 = 0 ∧ 1 = len + k) by omega), hl, mx_si_n (show ¬ (11 = 11 ∧ 0 = 0 ∧ 2 = 1) by omega), mx_si_n (show ¬ (11 = 12 ∧ 0 = 0 ∧ 2 = len + k) by omega), show nI k + (1 : Int32) = nI (k + 1) from nI_1 k, nI_add]
  exact h
theorem S_marksBefore_4 {post : Int32 → mSt → Prop} {ex : Nat → mSt → Prop} {p : Nat} (hp : p ≤ 120) (h : post (nI (lg_mk (s.1 12 0) p)) s) : ∀ (m x : Nat), x + m = p → r_Lg_marksBefore_4 scr d (nI p) post ex (m + 1) s (nI (lg_mk (s.1 12 0) x)) (nI x) := by
  intro m
  induction m with
  | zero =>
    intro x hx
    obtain rfl : x = p := by omega
    exact w_Lg_marksBefore_4 (pk_le x x (fun _ => h) (fun h => by omega))
  | succ m ih =>
    intro x hx
    refine w_Lg_marksBefore_4 (pk_le p x (fun h => by omega) (fun _ => ⟨pk_in x 120 (by omega), ?_⟩))
    have ih := ih (x + 1) (by omega)
    rw [pk_cl x, show nI x + (1 : Int32) = nI (x + 1) from nI_1 x]
    refine ⟨fun hR => ?_, fun hR => ?_⟩
    · rw [lg_mk_1 hR] at ih
      rw [show nI (lg_mk (s.1 12 0) x) + (1 : Int32) = nI (lg_mk (s.1 12 0) x + 1) from nI_1 _]
      exact ih
    · rw [lg_mk_0 hR] at ih
      exact ih
theorem S_marksBefore {post : Int32 → mSt → Prop} {p : Nat} (hp : p ≤ 120) (h : post (nI (lg_mk (s.1 12 0) p)) s) : X_Lg_marksBefore scr (d + 1) s (nI p) post := w_Lg_marksBefore ⟨p + 1, S_marksBefore_4 hp h p 0 (by omega)⟩
theorem S_placeOf_f {post : Int32 → mSt → Prop} {ex : Nat → mSt → Prop} {a1 a2 : Int32} {len q : Nat} (hl : s.1 11 0 1 = nI len) (hlen : len ≤ 120) (hq : q < len) (hR : ¬ s.1 12 0 q = -1) (h : post (nI q) s) : ∀ (m x k : Nat), q ≤ x + m → x ≤ q → lg_cn (s.1 12 0) x + k = lg_cn (s.1 12 0) q → r_Lg_placeOf_9 scr d a1 a2 post ex (m + 1) s (nI k) (nI x) := by
  have hl1 : s.1 11 0 1 - (1 : Int32) = nI (len - 1) := by
    rw [hl]
    exact pk_sub (b := 1) (by omega)
  have hk30 : ∀ x k, lg_cn (s.1 12 0) x + k = lg_cn (s.1 12 0) q → k < 2 ^ 30 := fun x k hk => by
    have := lg_mk_c (R := s.1 12 0) q
    omega
  have fin : ∀ (n k : Nat), lg_cn (s.1 12 0) q + k = lg_cn (s.1 12 0) q → r_Lg_placeOf_9 scr d a1 a2 post ex (n + 1) s (nI k) (nI q) := by
    intro n k hk
    obtain rfl : k = 0 := by omega
    refine w_Lg_placeOf_9 ?_
    rw [hl1, pk_cl q]
    exact pk_le (len - 1) q (fun _ => h) (fun _ => pk_lt 0 0 (fun h => by omega) (fun _ => ⟨pk_in q 120 (by omega), fun h9 => absurd h9 hR, fun _ => h⟩))
  intro m
  induction m with
  | zero =>
    intro x k hx hxq hk
    obtain rfl : x = q := by omega
    exact fin 0 k hk
  | succ m ih =>
    intro x k hx hxq hk
    by_cases e : x = q
    · subst e
      exact fin (m + 1) k hk
    have hkk := hk30 x k hk
    refine w_Lg_placeOf_9 ?_
    rw [hl1, pk_cl x, show nI x + (1 : Int32) = nI (x + 1) from nI_1 x]
    have go1 : s.1 12 0 x = -1 → r_Lg_placeOf_9 scr d a1 a2 post ex (m + 1) s (nI k) (nI (x + 1)) := fun h9 => ih (x + 1) k (by omega) (by omega) (by rw [lg_cn_1 h9]; exact hk)
    refine pk_le (len - 1) x (fun h => by omega) (fun _ => pk_lt 0 k (fun h0 => ⟨pk_in x 120 (by omega), go1, fun h9 => ?_⟩) (fun h0 => ⟨pk_in x 120 (by omega), fun h9 => ⟨pk_in x 120 (by omega), fun h8 => go1 h8, fun h8 => absurd h9 h8⟩, fun h9 => ?_⟩))
    · obtain ⟨k, rfl⟩ : ∃ j, k = j + 1 := ⟨k - 1, by omega⟩
      rw [pk_m1]
      exact ih (x + 1) k (by omega) (by omega) (by rw [lg_cn_0 h9]; omega)
    · have h1 := lg_cn_mono (R := s.1 12 0) (show x + 1 ≤ q by omega)
      rw [lg_cn_0 h9] at h1
      omega
theorem S_placeOf {post : Int32 → mSt → Prop} {len tok k : Nat} (hl : s.1 11 0 1 = nI len) (hlen : len ≤ 120) (htok : tok < 2 ^ 30) (h : ∀ p, lg_at (s.1 12 0) len tok p → ∃ q, p ≤ q ∧ q < len ∧ (¬ s.1 12 0 q = -1) ∧ lg_cn (s.1 12 0) p + k = lg_cn (s.1 12 0) q ∧ post (nI q) s) : X_Lg_placeOf scr (d + 2) s (nI tok) (nI k) post := by
  refine w_Lg_placeOf ⟨121, S_lengthAt hl hlen htok (fun p hp => ?_)⟩
  obtain ⟨q, h1, h2, h3, h4, h5⟩ := h p hp
  exact S_placeOf_f hl hlen h2 h3 h5 120 p k (by omega) h1 h4
end
end
section
abbrev gCh : Type := Nat × Nat × Nat × Nat × Nat × Nat
abbrev gRl : Type := Nat × Int32 × Int32 × Int32 × List Int32
abbrev gSt : Type := Nat × List gRl × Bool × List gCh × List (List gCh)
def g_rs (G : gSt) : List gRl := G.2.1
def g_ac (G : gSt) : Bool := G.2.2.1
def g_wR (G : gSt) (l : List gRl) : gSt := (G.1, l, G.2.2)
def RC_r (s : mSt) (i : Nat) (r : gRl) : Prop := s.1 5 i 0 = nI r.1 ∧ s.1 5 i 1 = r.2.1 ∧ s.1 5 i 2 = r.2.2.1 ∧ s.1 5 i 3 = r.2.2.2.1 ∧ s.1 5 i 5 = nI r.2.2.2.2.length ∧ ∀ j c, r.2.2.2.2[j]? = some c → s.1 6 i j = c
def g_okR (r : gRl) : Prop := r.1 < 3 ∧ (r.2.1 = 0 ∨ r.2.1 = 1) ∧ r.2.2.2.2.length ≤ 24 ∧ ∀ c ∈ r.2.2.2.2, vp_nar .char c = c
def RC_cf (G : gSt) (s : mSt) : Prop := ((g_rs G).length ≤ 9 ∧ ∀ r ∈ g_rs G, g_okR r) ∧ s.1 1 0 1 = nI (g_rs G).length ∧ s.1 1 0 2 = (if g_ac G = true then 1 else 0) ∧ (∀ i r, (g_rs G)[i]? = some r → RC_r s i r) ∧ ∀ i, (g_rs G).length ≤ i → i < 9 → s.1 5 i 5 = 0
def F_cf (f _ _ : Nat) : Prop := f = 1 ∨ f = 5 ∨ f = 6
theorem g_ac0 {G : gSt} {x : Int32} {A B : Prop} (hx : x = (if g_ac G = true then 1 else 0)) (f : g_ac G = false → A) (g : g_ac G = true → B) : (x = 0 → A) ∧ (¬ x = 0 → B) := by
  cases h : g_ac G with
  | true =>
    rw [h, if_pos rfl] at hx
    subst hx
    exact ⟨fun h => absurd h (by decide), fun _ => g h⟩
  | false =>
    rw [h, if_neg (by decide)] at hx
    subst hx
    exact ⟨fun _ => f h, fun h => absurd rfl h⟩
theorem g_bn {x : Int32} (h : x = 0 ∨ x = 1) : narrow .boolean (.int x) = .int x := by
  rcases h with rfl | rfl <;> rfl
theorem g_len_get {α : Type} {l : List α} {i : Nat} {a : α} (h : l[i]? = some a) : i < l.length := (List.getElem?_eq_some_iff.mp h).1
theorem g_app_get {α : Type} {l : List α} {x a : α} {i : Nat} (h : (l ++ [x])[i]? = some a) : (i < l.length ∧ l[i]? = some a) ∨ (i = l.length ∧ a = x) := by
  have h1 := g_len_get h
  rw [List.length_append] at h1
  by_cases hi : i < l.length
  · rw [List.getElem?_append_left hi] at h
    exact Or.inl ⟨hi, h⟩
  · obtain rfl : i = l.length := by
      simp at h1
      omega
    rw [List.getElem?_append_right (Nat.le_refl _), Nat.sub_self] at h
    cases h
    exact Or.inr ⟨rfl, rfl⟩
section
variable {scr : mSc} {d : Nat} {s : mSt} {G : gSt}
set_option maxHeartbeats 4000000 in
theorem S_Cf_add {post : Int32 → mSt → Prop} {a1 a2 a3 a4 : Int32} (h : RC_cf G s) (ha2 : a2 = 0 ∨ a2 = 1) (hn : g_ac G = true ∨ 9 ≤ (g_rs G).length ∨ a1 < 0 ∨ ¬ a1 < 3 → post (-1) s)
    (hy : ∀ n t, g_ac G = false → (g_rs G).length < 9 → n < 3 → a1 = nI n → RC_cf (g_wR G (g_rs G ++ [(n, a2, a3, a4, [])])) t → mx_fr F_cf s t → post (nI (g_rs G).length) t) : X_Cf_add scr (d + 1) s a1 a2 a3 a4 post := by
  obtain ⟨⟨hl, hk⟩, hc, ha, hr, hz⟩ := h
  refine w_Cf_add (g_ac0 ha (fun hac => pk_le 9 (g_rs G).length (fun h9 => hn (Or.inr (Or.inl h9))) (fun h9 => ⟨fun h0 => hn (Or.inr (Or.inr (Or.inl h0))), fun h0 => ⟨fun h3 => ?_, fun h3 => hn (Or.inr (Or.inr (Or.inr h3)))⟩⟩) rfl hc) (fun hac => hn (Or.inl hac)))
  obtain ⟨n, hn2, rfl⟩ := nI_of h0
  have hn3 : n < 3 := by
    refine Nat.lt_of_not_le fun h8 => ?_
    exact nI_nlt h8 hn2 h3
  rw [hc]
  refine ⟨pk_in (g_rs G).length 9 h9, ?_⟩
  rw [pk_cl (g_rs G).length]
  intro s1 e1
  refine ⟨g_bn ha2, ?_⟩
  intro s2 e2 s3 e3 s4 e4 s5 e5
  have hc4 : s4.1 1 0 1 = nI (g_rs G).length := by
    rw [e4, e3, e2, e1]
    simp [mx_si, mx_u3, hc]
  have hc5 : s5.1 1 0 1 = nI ((g_rs G).length + 1) := by
    rw [e5, hc4]
    exact mx_si_s.trans (nI_1 _)
  rw [hc5, nI_pred]
  have hv : ∀ f i j, s5.1 f i j = if f = 1 ∧ i = 0 ∧ j = 1 then s4.1 1 0 1 + 1 else if f = 5 ∧ i = (g_rs G).length ∧ j = 3 then a4 else if f = 5 ∧ i = (g_rs G).length ∧ j = 2 then a3 else if f = 5 ∧ i = (g_rs G).length ∧ j = 1 then a2 else if f = 5 ∧ i = (g_rs G).length ∧ j = 0 then nI n else s.1 f i j := fun f i j => by
    rw [e5, e4, e3, e2, e1]
    rfl
  refine hy n s5 hac h9 hn3 rfl ⟨⟨?_, ?_⟩, ?_, ?_, ?_, ?_⟩ ?_
  · show (g_rs G ++ [_]).length ≤ 9
    simp
    omega
  · intro r hr9
    rcases List.mem_append.mp (show r ∈ g_rs G ++ [_] from hr9) with h | h
    · exact hk r h
    · obtain rfl := List.mem_singleton.mp h
      exact ⟨hn3, ha2, Nat.zero_le _, fun c h => by cases h⟩
  · rw [hc5]
    show _ = nI (g_rs G ++ [_]).length
    simp
  · rw [hv, if_neg (by omega), if_neg (by omega), if_neg (by omega), if_neg (by omega), if_neg (by omega)]
    exact ha
  · intro i r hir
    rcases g_app_get (show (g_rs G ++ [_])[i]? = some r from hir) with ⟨hi, hir⟩ | ⟨rfl, rfl⟩
    · obtain ⟨q0, q1, q2, q3, q5, q6⟩ := hr i r hir
      have hv5 : ∀ j, s5.1 5 i j = s.1 5 i j := fun j => by rw [hv, if_neg (by omega), if_neg (by omega), if_neg (by omega), if_neg (by omega), if_neg (by omega)]
      have hv6 : ∀ j, s5.1 6 i j = s.1 6 i j := fun j => by rw [hv, if_neg (by omega), if_neg (by omega), if_neg (by omega), if_neg (by omega), if_neg (by omega)]
      exact ⟨by rw [hv5]; exact q0, by rw [hv5]; exact q1, by rw [hv5]; exact q2, by rw [hv5]; exact q3, by rw [hv5]; exact q5, fun j c h => by rw [hv6]; exact q6 j c h⟩
    · refine ⟨?_, ?_, ?_, ?_, ?_, fun j c h => by cases h⟩
      · rw [hv]
        simp
      · rw [hv]
        simp
      · rw [hv]
        simp
      · rw [hv]
        simp
      · rw [hv, if_neg (by omega), if_neg (by omega), if_neg (by omega), if_neg (by omega), if_neg (by omega)]
        exact hz _ (Nat.le_refl _) h9
  · intro i hi h99
    have hi : (g_rs G).length + 1 ≤ i := by
      have h8 : (g_rs G ++ [_]).length ≤ i := hi
      simp at h8
      omega
    rw [hv, if_neg (by omega), if_neg (by omega), if_neg (by omega), if_neg (by omega), if_neg (by omega)]
    exact hz i (by omega) h99
  · rw [e5, e4, e3, e2, e1]
    exact mx_fr.tr (mx_fr.tr (mx_fr.tr (mx_fr.tr (mx_fr.si (Or.inr (Or.inl rfl))) (mx_fr.si (Or.inr (Or.inl rfl)))) (mx_fr.si (Or.inr (Or.inl rfl)))) (mx_fr.si (Or.inr (Or.inl rfl)))) (mx_fr.si (Or.inl rfl))
theorem S_Rs_relation {post : Int32 → mSt → Prop} {a1 a2 a3 a4 : Int32} (h : RC_cf G s) (ha2 : a2 = 0 ∨ a2 = 1) (hn : g_ac G = true ∨ 9 ≤ (g_rs G).length ∨ a1 < 0 ∨ ¬ a1 < 3 → post (-1) s)
    (hy : ∀ n t, g_ac G = false → (g_rs G).length < 9 → n < 3 → a1 = nI n → RC_cf (g_wR G (g_rs G ++ [(n, a2, a3, a4, [])])) t → mx_fr F_cf s t → post (nI (g_rs G).length) t) : X_Rs_relation scr (d + 2) s a1 a2 a3 a4 post := w_Rs_relation (S_Cf_add h ha2 hn hy)
end
end
section
def RM_r (s : mSt) (i : Nat) (r : gRl) : Prop := s.1 19 0 i = nI r.1 ∧ s.1 20 0 i = r.2.1 ∧ s.1 21 0 i = r.2.2.1 ∧ s.1 22 0 i = r.2.2.2.1 ∧ s.1 24 0 i = nI r.2.2.2.2.length ∧ ∀ j c, r.2.2.2.2[j]? = some c → s.1 23 0 (24 * i + j) = c
def RM_cf (G : gSt) (s : mSt) : Prop := ((g_rs G).length ≤ 9 ∧ ∀ r ∈ g_rs G, g_okR r) ∧ s.1 18 0 2 = nI (g_rs G).length ∧ s.1 18 0 3 = (if g_ac G = true then 1 else 0) ∧ ∀ i r, (g_rs G)[i]? = some r → RM_r s i r
def F_mc (f _ j : Nat) : Prop := (f = 18 ∧ (j = 1 ∨ j = 2 ∨ j = 3)) ∨ (19 ≤ f ∧ f ≤ 24)
theorem g_lt3 {x : Int32} (h : ¬ x ≤ 2) : ¬ x < 3 := by
  intro h9
  apply h
  have h1 := Int32.lt_iff_toInt_lt.mp h9
  apply Int32.le_iff_toInt_le.mpr
  have e3 : (3 : Int32).toInt = 3 := by decide
  have e2 : (2 : Int32).toInt = 2 := by decide
  omega
theorem g_bnar {x : Int32} (h : x = 0 ∨ x = 1) : vp_nar .boolean x = x := by
  rcases h with rfl | rfl <;> rfl
section
variable {scr : mSc} {d : Nat} {s : mSt} {G : gSt}
theorem RM_code {v : Int32} (h : RM_cf G s) : RM_cf G (mx_si s 18 0 1 v) := by
  obtain ⟨hk, hc, ha, hr⟩ := h
  refine ⟨hk, (mx_si_n (by omega)).trans hc, (mx_si_n (by omega)).trans ha, fun i r hi => ?_⟩
  obtain ⟨q0, q1, q2, q3, q4, q5⟩ := hr i r hi
  exact ⟨(mx_si_n (by omega)).trans q0, (mx_si_n (by omega)).trans q1, (mx_si_n (by omega)).trans q2, (mx_si_n (by omega)).trans q3, (mx_si_n (by omega)).trans q4, fun j c h => (mx_si_n (by omega)).trans (q5 j c h)⟩
set_option maxHeartbeats 4000000 in
theorem S_Md_relation {post : Int32 → mSt → Prop} {a1 a2 a3 a4 : Int32} (h : RM_cf G s) (ha2 : a2 = 0 ∨ a2 = 1) (hn : ∀ t, g_ac G = true ∨ 9 ≤ (g_rs G).length ∨ a1 < 0 ∨ ¬ a1 < 3 → RM_cf G t → t.1 18 0 1 = 0 → mx_fr F_mc s t → post (-1) t)
    (hy : ∀ n t, g_ac G = false → (g_rs G).length < 9 → n < 3 → a1 = nI n → RM_cf (g_wR G (g_rs G ++ [(n, a2, a3, a4, [])])) t → t.1 18 0 1 = 0 → mx_fr F_mc s t → post (nI (g_rs G).length) t) : X_Md_relation scr (d + 1) s a1 a2 a3 a4 post := by
  refine w_Md_relation (fun s1 e1 => ?_)
  have h1 : RM_cf G s1 := by
    rw [e1]
    exact RM_code h
  have f1 : mx_fr F_mc s s1 := by
    rw [e1]
    exact mx_fr.si (Or.inl ⟨rfl, Or.inl rfl⟩)
  have z1 : s1.1 18 0 1 = 0 := by
    rw [e1]
    exact mx_si_s
  have hn := fun hc => hn s1 hc h1 z1 f1
  clear h
  obtain ⟨⟨hl, hk⟩, hc, ha, hr⟩ := h1
  refine g_ac0 ha (fun hac => pk_eq (g_rs G).length 9 (fun h9 => hn (Or.inr (Or.inl (by omega)))) (fun h9 => ⟨fun h0 => hn (Or.inr (Or.inr (Or.inl h0))), fun h0 => ⟨fun h3 => ?_, fun h3 => hn (Or.inr (Or.inr (Or.inr (g_lt3 h3))))⟩⟩) hc rfl) (fun hac => hn (Or.inl hac))
  have h9 : (g_rs G).length < 9 := by omega
  obtain ⟨n, hn2, rfl⟩ := nI_of h0
  have hn3 : n < 3 := by
    refine Nat.lt_of_not_le fun h8 => ?_
    exact nI_ge (a := 2) (b := n) (by omega) hn2 h3
  rw [hc]
  refine ⟨pk_in (g_rs G).length 9 h9, ?_⟩
  rw [pk_cl (g_rs G).length]
  intro s2 e2
  have c2 : s2.1 18 0 2 = nI (g_rs G).length := by rw [e2, mx_si_n (by omega)]; exact hc
  rw [c2]
  refine ⟨pk_in (g_rs G).length 9 h9, ?_⟩
  rw [pk_cl (g_rs G).length]
  intro s3 e3
  have c3 : s3.1 18 0 2 = nI (g_rs G).length := by rw [e3, mx_si_n (by omega)]; exact c2
  rw [c3]
  refine ⟨pk_in (g_rs G).length 9 h9, ?_⟩
  rw [pk_cl (g_rs G).length]
  intro s4 e4
  have c4 : s4.1 18 0 2 = nI (g_rs G).length := by rw [e4, mx_si_n (by omega)]; exact c3
  rw [c4]
  refine ⟨pk_in (g_rs G).length 9 h9, ?_⟩
  rw [pk_cl (g_rs G).length]
  intro s5 e5
  have c5 : s5.1 18 0 2 = nI (g_rs G).length := by rw [e5, mx_si_n (by omega)]; exact c4
  rw [c5]
  refine ⟨pk_in (g_rs G).length 9 h9, ?_⟩
  rw [pk_cl (g_rs G).length]
  intro s6 e6 s7 e7
  have c6 : s6.1 18 0 2 = nI (g_rs G).length := by rw [e6, mx_si_n (by omega)]; exact c5
  have c7 : s7.1 18 0 2 = nI ((g_rs G).length + 1) := by
    rw [e7, c6]
    exact mx_si_s.trans (nI_1 _)
  rw [c7, nI_pred]
  have hv : ∀ f i j, s7.1 f i j = if f = 18 ∧ i = 0 ∧ j = 2 then s6.1 18 0 2 + 1 else if f = 24 ∧ i = 0 ∧ j = (g_rs G).length then 0 else if f = 22 ∧ i = 0 ∧ j = (g_rs G).length then a4 else if f = 21 ∧ i = 0 ∧ j = (g_rs G).length then a3 else if f = 20 ∧ i = 0 ∧ j = (g_rs G).length then vp_nar .boolean a2 else if f = 19 ∧ i = 0 ∧ j = (g_rs G).length then nI n else s1.1 f i j := fun f i j => by
    rw [e7, e6, e5, e4, e3, e2]
    rfl
  have hv0 : ∀ f i j, ¬ (f = 18 ∧ j = 2) → (19 ≤ f → ¬ j = (g_rs G).length ∨ f = 23 ∨ 25 ≤ f) → s7.1 f i j = s1.1 f i j := fun f i j g1 g2 => by
    rw [hv, if_neg (by omega), if_neg (by omega), if_neg (by omega), if_neg (by omega), if_neg (by omega), if_neg (by omega)]
  refine hy n s7 hac h9 hn3 rfl ⟨⟨?_, ?_⟩, ?_, ?_, ?_⟩ ?_ ?_
  · show (g_rs G ++ [_]).length ≤ 9
    simp
    omega
  · intro r hr9
    rcases List.mem_append.mp (show r ∈ g_rs G ++ [_] from hr9) with h | h
    · exact hk r h
    · obtain rfl := List.mem_singleton.mp h
      exact ⟨hn3, ha2, Nat.zero_le _, fun c h => by cases h⟩
  · rw [c7]
    show _ = nI (g_rs G ++ [_]).length
    simp
  · rw [hv0 18 0 3 (by omega) (by omega)]
    exact ha
  · intro i r hir
    rcases g_app_get (show (g_rs G ++ [_])[i]? = some r from hir) with ⟨hi, hir⟩ | ⟨rfl, rfl⟩
    · obtain ⟨q0, q1, q2, q3, q4, q5⟩ := hr i r hir
      exact ⟨by rw [hv0 _ _ _ (by omega) (by omega)]; exact q0, by rw [hv0 _ _ _ (by omega) (by omega)]; exact q1, by rw [hv0 _ _ _ (by omega) (by omega)]; exact q2, by rw [hv0 _ _ _ (by omega) (by omega)]; exact q3, by rw [hv0 _ _ _ (by omega) (by omega)]; exact q4, fun j c h => by rw [hv0 _ _ _ (by omega) (by omega)]; exact q5 j c h⟩
    · refine ⟨?_, ?_, ?_, ?_, ?_, fun j c h => by cases h⟩
      · rw [hv]
        simp
      · rw [hv]
        simp [g_bnar ha2]
      · rw [hv]
        simp
      · rw [hv]
        simp
      · rw [hv]
        simp
        rfl
  · rw [hv0 18 0 1 (by omega) (by omega)]
    exact z1
  · refine mx_fr.tr f1 ?_
    rw [e7, e6, e5, e4, e3, e2]
    exact mx_fr.tr (mx_fr.tr (mx_fr.tr (mx_fr.tr (mx_fr.tr (mx_fr.si (Or.inr ⟨by omega, by omega⟩)) (mx_fr.si (Or.inr ⟨by omega, by omega⟩))) (mx_fr.si (Or.inr ⟨by omega, by omega⟩))) (mx_fr.si (Or.inr ⟨by omega, by omega⟩))) (mx_fr.si (Or.inr ⟨by omega, by omega⟩))) (mx_fr.si (Or.inl ⟨rfl, Or.inr (Or.inl rfl)⟩))
end
end
section
def g_typ (r : gRl) (c : Int32) : gRl := (r.1, r.2.1, r.2.2.1, r.2.2.2.1, r.2.2.2.2 ++ [c])
theorem g_snoc {α : Type} : ∀ l : List α, l = [] ∨ ∃ L b, l = L ++ [b]
  | [] => Or.inl rfl
  | a :: l => by
    rcases g_snoc l with rfl | ⟨L, b, rfl⟩
    · exact Or.inr ⟨[], a, rfl⟩
    · exact Or.inr ⟨a :: L, b, rfl⟩
theorem g_typ_ok {r : gRl} {c : Int32} (h : g_okR r) (hl : r.2.2.2.2.length < 24) (hc : vp_nar .char c = c) : g_okR (g_typ r c) := by
  refine ⟨h.1, h.2.1, ?_, fun x hx => ?_⟩
  · show (r.2.2.2.2 ++ [c]).length ≤ 24
    simp
    omega
  · rcases List.mem_append.mp (show x ∈ r.2.2.2.2 ++ [c] from hx) with h9 | h9
    · exact h.2.2.2 x h9
    · obtain rfl := List.mem_singleton.mp h9
      exact hc
theorem g_len1 {α : Type} {l : List α} {b : α} : (l ++ [b]).length = l.length + 1 := by simp
theorem g_last {α : Type} {l : List α} {b : α} : (l ++ [b])[l.length]? = some b := by simp
section
variable {scr : mSc} {d : Nat} {s : mSt} {G : gSt}
set_option maxHeartbeats 4000000 in
theorem S_Cf_append {post : Int32 → mSt → Prop} {a1 : Int32} (h : RC_cf G s) (hch : vp_nar .char a1 = a1) (hn : g_ac G = true ∨ g_rs G = [] ∨ (∃ l r, g_rs G = l ++ [r] ∧ 24 ≤ r.2.2.2.2.length) → mx_nr .boolean 0 ∧ post 0 s)
    (hy : ∀ l r t, g_ac G = false → g_rs G = l ++ [r] → r.2.2.2.2.length < 24 → RC_cf (g_wR G (l ++ [g_typ r a1])) t → mx_fr F_cf s t → mx_nr .boolean 1 ∧ post 1 t) : X_Cf_append scr (d + 1) s a1 post := by
  obtain ⟨⟨hl, hk⟩, hc, ha, hr, hz⟩ := h
  refine w_Cf_append (g_ac0 ha (fun hac => ?_) (fun hac => hn (Or.inl hac)))
  rcases g_snoc (g_rs G) with he | ⟨l, r, he⟩
  · rw [he] at hc
    exact pk_eq 0 0 (fun _ => hn (Or.inr (Or.inl he))) (fun h => absurd rfl h) hc rfl
  rw [he] at hc hl hk hr hz
  rw [g_len1] at hc hl
  have hn1 : s.1 1 0 1 - (1 : Int32) = nI l.length := by
    rw [hc]
    exact nI_pred _
  refine pk_eq (l.length + 1) 0 (fun h => by omega) (fun _ => ?_) hc rfl
  rw [hn1]
  refine ⟨pk_in l.length 9 (by omega), ?_⟩
  rw [pk_cl l.length]
  obtain ⟨q0, q1, q2, q3, q5, q6⟩ := hr l.length r g_last
  have hok := hk r (List.mem_append_right _ List.mem_cons_self)
  have hlen := hok.2.2.1
  refine pk_lt r.2.2.2.2.length 24 (fun h24 => ?_) (fun h24 => hn (Or.inr (Or.inr ⟨l, r, he, h24⟩))) q5 rfl
  rw [q5]
  refine ⟨pk_in r.2.2.2.2.length 24 h24, ?_⟩
  rw [pk_cl r.2.2.2.2.length]
  intro s1 e1 s2 e2
  have c1 : s1.1 5 l.length 5 = nI r.2.2.2.2.length := by rw [e1, mx_si_n (by omega)]; exact q5
  rw [c1] at e2
  have hv : ∀ f i j, s2.1 f i j = if f = 5 ∧ i = l.length ∧ j = 5 then nI r.2.2.2.2.length + 1 else if f = 6 ∧ i = l.length ∧ j = r.2.2.2.2.length then vp_nar .char a1 else s.1 f i j := fun f i j => by
    rw [e2, e1]
    rfl
  refine hy l r s2 hac he h24 ⟨⟨?_, ?_⟩, ?_, ?_, ?_, ?_⟩ ?_
  · show (l ++ [_]).length ≤ 9
    rw [g_len1]
    omega
  · intro r' hr9
    rcases List.mem_append.mp (show r' ∈ l ++ [_] from hr9) with h | h
    · exact hk r' (List.mem_append_left _ h)
    · obtain rfl := List.mem_singleton.mp h
      exact g_typ_ok hok h24 hch
  · show _ = nI (l ++ [_]).length
    rw [hv, if_neg (by omega), if_neg (by omega), g_len1]
    exact hc
  · rw [hv, if_neg (by omega), if_neg (by omega)]
    exact ha
  · intro i r' hir
    rcases g_app_get (show (l ++ [_])[i]? = some r' from hir) with ⟨hi, hir⟩ | ⟨rfl, rfl⟩
    · obtain ⟨p0, p1, p2, p3, p5, p6⟩ := hr i r' (by rw [List.getElem?_append_left hi]; exact hir)
      have hv5 : ∀ f j, s2.1 f i j = s.1 f i j := fun f j => by rw [hv, if_neg (by omega), if_neg (by omega)]
      exact ⟨by rw [hv5]; exact p0, by rw [hv5]; exact p1, by rw [hv5]; exact p2, by rw [hv5]; exact p3, by rw [hv5]; exact p5, fun j c h => by rw [hv5]; exact p6 j c h⟩
    · refine ⟨?_, ?_, ?_, ?_, ?_, fun j c h => ?_⟩
      · rw [hv, if_neg (by omega), if_neg (by omega)]
        exact q0
      · rw [hv, if_neg (by omega), if_neg (by omega)]
        exact q1
      · rw [hv, if_neg (by omega), if_neg (by omega)]
        exact q2
      · rw [hv, if_neg (by omega), if_neg (by omega)]
        exact q3
      · show _ = nI (r.2.2.2.2 ++ [a1]).length
        rw [hv, if_pos ⟨rfl, rfl, rfl⟩, g_len1]
        exact nI_1 _
      · rcases g_app_get (show (r.2.2.2.2 ++ [a1])[j]? = some c from h) with ⟨hj, hjc⟩ | ⟨rfl, rfl⟩
        · rw [hv, if_neg (by omega), if_neg (by omega)]
          exact q6 j c hjc
        · rw [hv, if_neg (by omega), if_pos ⟨rfl, rfl, rfl⟩]
          exact hch
  · intro i hi h99
    have hi : l.length + 1 ≤ i := by
      have h8 : (l ++ [_]).length ≤ i := hi
      rw [g_len1] at h8
      exact h8
    rw [hv, if_neg (by omega), if_neg (by omega)]
    exact hz i (by rw [g_len1]; omega) h99
  · rw [e2, e1]
    exact mx_fr.tr (mx_fr.si (Or.inr (Or.inr rfl))) (mx_fr.si (Or.inr (Or.inl rfl)))
theorem S_Rs_type {post : Int32 → mSt → Prop} {a1 : Int32} (h : RC_cf G s) (hch : vp_nar .char a1 = a1) (hn : g_ac G = true ∨ g_rs G = [] ∨ (∃ l r, g_rs G = l ++ [r] ∧ 24 ≤ r.2.2.2.2.length) → post 0 s)
    (hy : ∀ l r t, g_ac G = false → g_rs G = l ++ [r] → r.2.2.2.2.length < 24 → RC_cf (g_wR G (l ++ [g_typ r a1])) t → mx_fr F_cf s t → post 1 t) : X_Rs_type scr (d + 2) s a1 post := w_Rs_type (S_Cf_append h hch (fun h => ⟨rfl, rfl, hn h⟩) (fun l r t h1 h2 h3 h4 h5 => ⟨rfl, rfl, hy l r t h1 h2 h3 h4 h5⟩))
set_option maxHeartbeats 4000000 in
theorem S_Md_type {post : Int32 → mSt → Prop} {a1 : Int32} (h : RM_cf G s) (hch : vp_nar .char a1 = a1) (hn : ∀ t, g_ac G = true ∨ g_rs G = [] ∨ (∃ l r, g_rs G = l ++ [r] ∧ 24 ≤ r.2.2.2.2.length) → RM_cf G t → t.1 18 0 1 = 0 → mx_fr F_mc s t → post 0 t)
    (hy : ∀ l r t, g_ac G = false → g_rs G = l ++ [r] → r.2.2.2.2.length < 24 → RM_cf (g_wR G (l ++ [g_typ r a1])) t → t.1 18 0 1 = 0 → mx_fr F_mc s t → post 1 t) : X_Md_type scr (d + 1) s a1 post := by
  refine w_Md_type (fun s1 e1 => ?_)
  have h1 : RM_cf G s1 := by
    rw [e1]
    exact RM_code h
  have f1 : mx_fr F_mc s s1 := by
    rw [e1]
    exact mx_fr.si (Or.inl ⟨rfl, Or.inl rfl⟩)
  have z1 : s1.1 18 0 1 = 0 := by
    rw [e1]
    exact mx_si_s
  have hn := fun hc => hn s1 hc h1 z1 f1
  clear h
  obtain ⟨⟨hl, hk⟩, hc, ha, hr⟩ := h1
  rcases g_snoc (g_rs G) with he | ⟨l, r, he⟩
  · rw [he] at hc
    rw [hc]
    exact ⟨fun _ => ⟨rfl, hn (Or.inr (Or.inl he))⟩, fun h => absurd (by decide) h⟩
  rw [he] at hc hl hk hr
  rw [g_len1] at hc hl
  have hn1 : s1.1 18 0 2 - (1 : Int32) = nI l.length := by
    rw [hc]
    exact nI_pred _
  rw [hn1]
  refine ⟨fun h => absurd h (nI_pos (by omega)), fun _ => g_ac0 ha (fun hac => ?_) (fun hac => ⟨rfl, hn (Or.inl hac)⟩)⟩
  refine ⟨pk_in l.length 9 (by omega), ?_⟩
  rw [pk_cl l.length]
  obtain ⟨q0, q1, q2, q3, q4, q5⟩ := hr l.length r g_last
  have hok := hk r (List.mem_append_right _ List.mem_cons_self)
  have hlen := hok.2.2.1
  refine pk_eq r.2.2.2.2.length 24 (fun h24 => ⟨rfl, hn (Or.inr (Or.inr ⟨l, r, he, by omega⟩))⟩) (fun h24 => ?_) q4 rfl
  rw [q4, show (24 : Int32) * nI l.length = nI (24 * l.length) from pk_mul 24 _, nI_add]
  refine ⟨pk_in l.length 9 (by omega), pk_in (24 * l.length + r.2.2.2.2.length) 216 (by omega), ?_⟩
  rw [pk_cl (24 * l.length + r.2.2.2.2.length)]
  intro s2 e2
  refine ⟨pk_in l.length 9 (by omega), pk_in l.length 9 (by omega), ?_⟩
  intro s3 e3
  have c2 : s2.1 24 0 l.length = nI r.2.2.2.2.length := by rw [e2, mx_si_n (by omega)]; exact q4
  rw [c2] at e3
  have hv : ∀ f i j, s3.1 f i j = if f = 24 ∧ i = 0 ∧ j = l.length then nI r.2.2.2.2.length + 1 else if f = 23 ∧ i = 0 ∧ j = 24 * l.length + r.2.2.2.2.length then a1 else s1.1 f i j := fun f i j => by
    rw [e3, e2]
    rfl
  have h24 : r.2.2.2.2.length < 24 := by omega
  refine ⟨rfl, hy l r s3 hac he h24 ⟨⟨?_, ?_⟩, ?_, ?_, ?_⟩ ?_ ?_⟩
  · show (l ++ [_]).length ≤ 9
    rw [g_len1]
    omega
  · intro r' hr9
    rcases List.mem_append.mp (show r' ∈ l ++ [_] from hr9) with h | h
    · exact hk r' (List.mem_append_left _ h)
    · obtain rfl := List.mem_singleton.mp h
      exact g_typ_ok hok h24 hch
  · show _ = nI (l ++ [_]).length
    rw [hv, if_neg (by omega), if_neg (by omega), g_len1]
    exact hc
  · rw [hv, if_neg (by omega), if_neg (by omega)]
    exact ha
  · intro i r' hir
    rcases g_app_get (show (l ++ [_])[i]? = some r' from hir) with ⟨hi, hir⟩ | ⟨rfl, rfl⟩
    · obtain ⟨p0, p1, p2, p3, p4, p5⟩ := hr i r' (by rw [List.getElem?_append_left hi]; exact hir)
      have hlr := (hk r' (List.mem_append_left _ (List.mem_of_getElem? hir))).2.2.1
      have hv5 : ∀ f, ¬ f = 23 → s3.1 f 0 i = s1.1 f 0 i := fun f hf => by rw [hv, if_neg (by omega), if_neg (by omega)]
      exact ⟨by rw [hv5 _ (by omega)]; exact p0, by rw [hv5 _ (by omega)]; exact p1, by rw [hv5 _ (by omega)]; exact p2, by rw [hv5 _ (by omega)]; exact p3, by rw [hv5 _ (by omega)]; exact p4, fun j c h => by
        have hj := g_len_get h
        rw [hv, if_neg (by omega), if_neg (by omega)]
        exact p5 j c h⟩
    · refine ⟨?_, ?_, ?_, ?_, ?_, fun j c h => ?_⟩
      · rw [hv, if_neg (by omega), if_neg (by omega)]
        exact q0
      · rw [hv, if_neg (by omega), if_neg (by omega)]
        exact q1
      · rw [hv, if_neg (by omega), if_neg (by omega)]
        exact q2
      · rw [hv, if_neg (by omega), if_neg (by omega)]
        exact q3
      · show _ = nI (r.2.2.2.2 ++ [a1]).length
        rw [hv, if_pos ⟨rfl, rfl, rfl⟩, g_len1]
        exact nI_1 _
      · rcases g_app_get (show (r.2.2.2.2 ++ [a1])[j]? = some c from h) with ⟨hj, hjc⟩ | ⟨rfl, rfl⟩
        · rw [hv, if_neg (by omega), if_neg (by omega)]
          exact q5 j c hjc
        · rw [hv, if_neg (by omega), if_pos ⟨rfl, rfl, rfl⟩]
  · rw [hv, if_neg (by omega), if_neg (by omega)]
    exact z1
  · refine mx_fr.tr f1 ?_
    rw [e3, e2]
    exact mx_fr.tr (mx_fr.si (Or.inr ⟨by omega, by omega⟩)) (mx_fr.si (Or.inr ⟨by omega, by omega⟩))
end
end
section
theorem q_or (a b : Nat) : nI a ||| nI b = nI (a ||| b) := Int32.toBitVec_inj.mp (by
  rw [Int32.toBitVec_or]
  show BitVec.ofNat 32 a ||| BitVec.ofNat 32 b = BitVec.ofNat 32 (a ||| b)
  rw [BitVec.ofNat_or])
theorem q_pk {x y : Nat} (hx : x < 2 ^ 28) (hy : y < 16) : (nI x <<< ((4 : Int32) &&& 31)) ||| nI y = nI (16 * x + y) := by
  rw [pk_shlN (n := x) ((4 : Int32) &&& 31) 4 (by decide) (by omega), q_or]
  congr 1
  have h := Nat.two_pow_add_eq_or_of_lt (i := 4) (b := y) hy x
  rw [Nat.mul_comm x]
  exact h.symm
def g_bt (G : gSt) : List gCh := G.2.2.2.1
def g_lg (G : gSt) : List (List gCh) := G.2.2.2.2
def g_okC (c : gCh) : Prop := c.1 < 2 ∧ c.2.1 < 12 ∧ c.2.2.1 < 9 ∧ c.2.2.2.1 < 3 ∧ c.2.2.2.2.1 < 12 ∧ c.2.2.2.2.2 < 9
def g_pn (c : gCh) : Nat := 16 * (16 * (16 * (16 * (16 * c.2.2.2.2.2 + c.2.2.2.2.1) + c.2.2.2.1) + c.2.2.1) + c.2.1) + c.1
def g_pk (c : gCh) : Int32 := nI (g_pn c)
theorem g_pn_lt {c : gCh} (h : g_okC c) : g_pn c < 2 ^ 24 := by
  obtain ⟨h1, h2, h3, h4, h5, h6⟩ := h
  unfold g_pn
  omega
theorem g_pk_ne {c : gCh} (h : g_okC c) : ¬ g_pk c = -1 := by
  intro h9
  have h1 := nI_pos (n := g_pn c) (by have := g_pn_lt h; omega)
  rw [show nI (g_pn c) = -1 from h9] at h1
  exact h1 (by decide)
def g_fb (b : List gCh) : List Int32 := b.map g_pk ++ [-1]
def g_fl (l : List (List gCh)) : List Int32 := l.flatMap g_fb
theorem g_fl_a {l : List (List gCh)} {b : List gCh} : g_fl (l ++ [b]) = g_fl l ++ g_fb b := by
  unfold g_fl
  simp
def RC_bt (G : gSt) (s : mSt) : Prop := ((g_bt G).length ≤ 5 ∧ ∀ c ∈ g_bt G, g_okC c) ∧ s.1 0 0 3 = nI (g_bt G).length ∧ ∀ i c, (g_bt G)[i]? = some c → s.1 10 0 i = g_pk c
def RC_lg (G : gSt) (s : mSt) : Prop := ((g_fl (g_lg G)).length ≤ 120 ∧ (∀ b ∈ g_lg G, ¬ b = [] ∧ ∀ c ∈ b, g_okC c)) ∧ s.1 11 0 1 = nI (g_fl (g_lg G)).length ∧ s.1 11 0 2 = nI (g_lg G).length ∧ ∀ j x, (g_fl (g_lg G))[j]? = some x → s.1 12 0 j = x
section
variable {scr : mSc} {d : Nat} {s : mSt} {G : gSt}
theorem S_packed {post : Int32 → mSt → Prop} {a0 : Int32} {c : gCh} (hc : g_okC c) (h0 : a0 = nI c.1) (h : post (g_pk c) s) : X_Rs_packed scr (d + 1) s a0 (nI c.2.1) (nI c.2.2.1) (nI c.2.2.2.1) (nI c.2.2.2.2.1) (nI c.2.2.2.2.2) post := by
  obtain ⟨h1, h2, h3, h4, h5, h6⟩ := hc
  refine w_Rs_packed ?_
  rw [q_pk (by omega) (by omega), q_pk (by omega) (by omega), q_pk (by omega) (by omega), q_pk (by omega) (by omega)]
  have e0 : ∀ y, y < 2 → (nI (16 * (16 * (16 * (16 * c.2.2.2.2.2 + c.2.2.2.2.1) + c.2.2.2.1) + c.2.2.1) + c.2.1) <<< ((4 : Int32) &&& 31)) ||| nI y = nI (16 * (16 * (16 * (16 * (16 * c.2.2.2.2.2 + c.2.2.2.2.1) + c.2.2.2.1) + c.2.2.1) + c.2.1) + y) := fun y hy => q_pk (by omega) (by omega)
  have e1 := e0 0 (by omega)
  have e2 := e0 1 (by omega)
  rw [show (0 : Int32) = nI 0 from rfl, show (1 : Int32) = nI 1 from rfl, e1, e2]
  unfold g_pk g_pn at h
  refine pk_eq c.1 0 (fun h9 => ?_) (fun h9 => ?_) h0 rfl
  · rw [h9] at h
    exact h
  · rw [show c.1 = 1 by omega] at h
    exact h
def F_lg (f _ _ : Nat) : Prop := f = 12
theorem S_commit_w {post : Int32 → mSt → Prop} {ex : Nat → mSt → Prop} {a1 v2 v3 : Int32} {len w : Nat} (hw : w ≤ 5) (hlen : len + w < 120) : ∀ (m i : Nat) (s : mSt), i + m = w → s.1 11 0 1 = nI len → (∀ t, mx_fr F_lg s t → (∀ q, i ≤ q → q < w → t.1 12 0 (len + q) = s.1 10 0 q) → (∀ q, q < len + i → t.1 12 0 q = s.1 12 0 q) → r_Rs_commit_65 scr (d + 1) a1 post ex 1 t v2 v3 (nI w) (nI w)) → r_Rs_commit_65 scr (d + 1) a1 post ex (m + 1) s v2 v3 (nI w) (nI i) := by
  intro m
  induction m with
  | zero =>
    intro i s hi hl h
    obtain rfl : i = w := by omega
    exact h s mx_fr.rf (fun q h1 h2 => by omega) (fun q _ => rfl)
  | succ m ih =>
    intro i s hi hl h
    refine w_Rs_commit_65 (pk_le w i (fun h => by omega) (fun _ => ⟨pk_in i 5 (by omega), ?_⟩))
    rw [pk_cl i]
    refine S_write hl (by omega) ?_
    show r_Rs_commit_65 scr (d + 1) a1 post ex (m + 1) _ v2 v3 (nI w) (nI i + 1)
    rw [show nI i + (1 : Int32) = nI (i + 1) from nI_1 i]
    refine ih (i + 1) _ (by omega) ((mx_si_n (by omega)).trans hl) (fun t h1 h2 h3 => h t (mx_fr.tr (mx_fr.si rfl) h1) (fun q g1 g2 => ?_) (fun q g => ?_))
    · by_cases hq : i + 1 ≤ q
      · rw [h2 q hq g2]
        exact mx_si_n (by omega)
      · obtain rfl : q = i := by omega
        rw [h3 (len + q) (by omega)]
        exact mx_si_s
    · rw [h3 q (by omega)]
      exact mx_si_n (by omega)
end
end
section
def g_wB (G : gSt) (l : List gCh) : gSt := (G.1, G.2.1, G.2.2.1, l, G.2.2.2.2)
def g_cm (G : gSt) : gSt := (G.1, G.2.1, G.2.2.1, [], G.2.2.2.2 ++ [g_bt G])
def F_cm (f _ j : Nat) : Prop := (f = 0 ∧ j = 3) ∨ f = 11 ∨ f = 12 ∨ (f = 14 ∧ j = 0)
theorem F_cm_f {f i j : Nat} (h : F_forget f i j) : F_cm f i j := by
  rcases h with ⟨h1, -, h2⟩ | ⟨h1, -, h2⟩
  · exact Or.inl ⟨h1, h2⟩
  · exact Or.inr (Or.inr (Or.inr ⟨h1, h2⟩))
theorem g_fb_len {b : List gCh} : (g_fb b).length = b.length + 1 := by simp [g_fb]
section
variable {scr : mSc} {d : Nat} {s t : mSt} {G : gSt}
theorem RC_lg_fr {P : Nat → Nat → Nat → Prop} (h : RC_lg G s) (hf : mx_fr P s t) (h1 : ∀ i j, ¬ P 11 i j) (h2 : ∀ q, q < (g_fl (g_lg G)).length → t.1 12 0 q = s.1 12 0 q) : RC_lg G t := by
  obtain ⟨hk, hl, hm, hr⟩ := h
  exact ⟨hk, (hf.1 _ _ _ (h1 _ _)).trans hl, (hf.1 _ _ _ (h1 _ _)).trans hm, fun j x hj => (h2 j (g_len_get hj)).trans (hr j x hj)⟩
theorem RC_bt_nil (h : t.1 0 0 3 = 0) (hG : g_bt G = []) : RC_bt G t := by
  unfold RC_bt
  rw [hG]
  exact ⟨⟨Nat.zero_le _, fun c h => by cases h⟩, h, fun i c h => by cases h⟩
theorem RC_lg_cm {b : Nat} (hb : RC_bt G s) (hl : RC_lg G s) (hbn : ¬ g_bt G = []) (hroom : (g_fl (g_lg G)).length + (g_bt G).length + 1 ≤ 120) (eb : b = (g_bt G).length) (h11 : t.1 11 0 1 = nI ((g_fl (g_lg G)).length + b + 1)) (h112 : t.1 11 0 2 = nI ((g_lg G).length + 1)) (h3 : ∀ q, q < (g_fl (g_lg G)).length → t.1 12 0 q = s.1 12 0 q) (h2 : ∀ q, q < b → t.1 12 0 ((g_fl (g_lg G)).length + q) = s.1 10 0 q) (h4 : t.1 12 0 ((g_fl (g_lg G)).length + b) = -1) : RC_lg (g_cm G) t := by
  subst eb
  have e : g_fl (g_lg (g_cm G)) = g_fl (g_lg G) ++ g_fb (g_bt G) := g_fl_a
  have el : (g_fl (g_lg (g_cm G))).length = (g_fl (g_lg G)).length + (g_bt G).length + 1 := by
    rw [e, List.length_append, g_fb_len]
    omega
  refine ⟨⟨by rw [el]; exact hroom, fun b hb9 => ?_⟩, by rw [el]; exact h11, ?_, fun j x hj => ?_⟩
  · rcases List.mem_append.mp (show b ∈ g_lg G ++ [g_bt G] from hb9) with h | h
    · exact hl.1.2 b h
    · obtain rfl := List.mem_singleton.mp h
      exact ⟨hbn, hb.1.2⟩
  · show _ = nI (g_lg G ++ [g_bt G]).length
    rw [g_len1]
    exact h112
  · rw [e] at hj
    by_cases hjl : j < (g_fl (g_lg G)).length
    · rw [List.getElem?_append_left hjl] at hj
      rw [h3 j hjl]
      exact hl.2.2.2 j x hj
    · rw [List.getElem?_append_right (by omega)] at hj
      obtain ⟨q, rfl⟩ : ∃ q, j = (g_fl (g_lg G)).length + q := ⟨j - (g_fl (g_lg G)).length, by omega⟩
      rw [show (g_fl (g_lg G)).length + q - (g_fl (g_lg G)).length = q by omega] at hj
      have hq := g_len_get hj
      rw [g_fb_len] at hq
      rcases g_app_get (show ((g_bt G).map g_pk ++ [-1])[q]? = some x from hj) with ⟨h9, h8⟩ | ⟨h9, rfl⟩
      · rw [List.length_map] at h9
        rw [List.getElem?_map] at h8
        cases h7 : (g_bt G)[q]? with
        | none =>
          rw [h7] at h8
          cases h8
        | some c =>
          rw [h7] at h8
          cases h8
          rw [h2 q h9]
          exact hb.2.2 q c h7
      · rw [List.length_map] at h9
        rw [h9]
        exact h4
set_option maxHeartbeats 4000000 in
theorem S_Rs_commit {post : Int32 → mSt → Prop} {ex : Nat → mSt → Prop} {a1 : Int32} (hb : RC_bt G s) (hl : RC_lg G s) (hno : g_bt G = [] ∨ 120 < (g_fl (g_lg G)).length + (g_bt G).length + 1 → ex 3 s)
    (hcut : ∀ w t, w < (g_bt G).length + 1 → a1 = nI w → ¬ g_bt G = [] → (g_fl (g_lg G)).length + (g_bt G).length + 1 ≤ 120 → RC_bt (g_wB G []) t → RC_lg (g_wB G []) t → mx_fr F_cm s t → (∀ v, v < 8 → t.1 14 v 0 = -1) → post (-1) t)
    (hyes : ∀ t, (a1 < 0 ∨ nI ((g_bt G).length + 1) ≤ a1) → ¬ g_bt G = [] → (g_fl (g_lg G)).length + (g_bt G).length + 1 ≤ 120 → RC_bt (g_cm G) t → RC_lg (g_cm G) t → mx_fr F_cm s t → ((∀ v, v < 8 → t.1 14 v 0 = -1) ∨ ∀ v, t.1 14 v 0 = s.1 14 v 0) → post (nI ((g_lg G).length + 1)) t) : X_Rs_commit scr (d + 3) s a1 ex post := by
  have hb0 := hb
  have hl0 := hl
  obtain ⟨⟨hb5, hbk⟩, hbc, hbr⟩ := hb
  obtain ⟨⟨hll, hlk⟩, hlc, hlm, hlr⟩ := hl
  have hlm9 : (g_lg G).length ≤ 120 := by
    have go : ∀ l : List (List gCh), l.length ≤ (g_fl l).length := fun l => by
      induction l with
      | nil => exact Nat.le_refl _
      | cons b l ih =>
        show l.length + 1 ≤ (g_fb b ++ g_fl l).length
        rw [List.length_append, g_fb_len]
        omega
    exact Nat.le_trans (go _) hll
  have hdue : s.1 0 0 3 + (1 : Int32) = nI ((g_bt G).length + 1) := by
    rw [hbc]
    exact nI_1 _
  have hnil : (g_bt G).length = 0 → g_bt G = [] := List.eq_nil_of_length_eq_zero
  by_cases hc : a1 < 0 ∨ nI ((g_bt G).length + 1) ≤ a1
  · refine w_Rs_commit ⟨(g_bt G).length + 1, pk_eq (g_bt G).length 0 (fun h0 => hno (Or.inl (hnil h0))) (fun h0 => ?_) hbc rfl⟩
    have hbn : ¬ g_bt G = [] := fun h => h0 (by rw [h]; rfl)
    rw [hdue]
    refine S_hasRoomFor hlc hll (by omega) (fun hr => ⟨fun _ => hno (Or.inr (by omega)), fun h => absurd rfl h⟩) (fun hr => ⟨fun h => absurd h (by decide), fun _ => ?_⟩)
    have hroom : (g_fl (g_lg G)).length + (g_bt G).length + 1 ≤ 120 := by omega
    have main : r_Rs_commit_65 scr (d + 2) a1 post ex ((g_bt G).length + 1) s (nI ((g_bt G).length + 1)) 0 (s.1 0 0 3) 0 := by
      rw [hbc]
      refine S_commit_w (len := (g_fl (g_lg G)).length) hb5 (by omega) (g_bt G).length 0 s (by omega) hlc (fun t h1 h2 h3 => ?_)
      refine w_Rs_commit_65 (pk_le (g_bt G).length (g_bt G).length (fun _ => ⟨fun _ => ?_, fun h => absurd rfl h⟩) (fun h => by omega))
      have t0 : t.1 0 0 3 = nI (g_bt G).length := (h1.1 0 0 3 (fun h => by cases h)).trans hbc
      have t11 : t.1 11 0 1 = nI (g_fl (g_lg G)).length := (h1.1 11 0 1 (fun h => by cases h)).trans hlc
      have t112 : t.1 11 0 2 = nI (g_lg G).length := (h1.1 11 0 2 (fun h => by cases h)).trans hlm
      rw [t0]
      refine S_mark t11 (by omega) (fun s4 e4 => ?_)
      have hv : ∀ f i j, s4.1 f i j = if f = 0 ∧ i = 0 ∧ j = 3 then 0 else if f = 11 ∧ i = 0 ∧ j = 2 then t.1 11 0 2 + 1 else if f = 11 ∧ i = 0 ∧ j = 1 then nI ((g_fl (g_lg G)).length + (g_bt G).length + 1) else if f = 12 ∧ i = 0 ∧ j = (g_fl (g_lg G)).length + (g_bt G).length then -1 else t.1 f i j := fun f i j => by
        rw [e4]
        rfl
      have c112 : s4.1 11 0 2 = nI ((g_lg G).length + 1) := by
        rw [hv, if_neg (by omega), if_pos ⟨rfl, rfl, rfl⟩, t112]
        exact nI_1 _
      have c11 : s4.1 11 0 1 = nI ((g_fl (g_lg G)).length + (g_bt G).length + 1) := by rw [hv, if_neg (by omega), if_neg (by omega), if_pos ⟨rfl, rfl, rfl⟩]
      have c0 : s4.1 0 0 3 = 0 := by rw [hv, if_pos ⟨rfl, rfl, rfl⟩]
      have c12 : ∀ q, ¬ q = (g_fl (g_lg G)).length + (g_bt G).length → s4.1 12 0 q = t.1 12 0 q := fun q hq => by rw [hv, if_neg (by omega), if_neg (by omega), if_neg (by omega), if_neg (by omega)]
      have c12m : s4.1 12 0 ((g_fl (g_lg G)).length + (g_bt G).length) = -1 := by rw [hv, if_neg (by omega), if_neg (by omega), if_neg (by omega), if_pos ⟨rfl, rfl, rfl⟩]
      have c14 : ∀ v, s4.1 14 v 0 = s.1 14 v 0 := fun v => by
        rw [hv, if_neg (by omega), if_neg (by omega), if_neg (by omega), if_neg (by omega)]
        exact h1.1 14 v 0 (fun h => by cases h)
      have hf : mx_fr F_cm s s4 := by
        refine mx_fr.tr (h1.mono (fun f i j h => Or.inr (Or.inr (Or.inl h)))) ?_
        rw [e4]
        exact mx_fr.tr (mx_fr.tr (mx_fr.tr (mx_fr.si (Or.inr (Or.inr (Or.inl rfl)))) (mx_fr.si (Or.inr (Or.inl rfl)))) (mx_fr.si (Or.inr (Or.inl rfl)))) (mx_fr.si (Or.inl ⟨rfl, rfl⟩))
      have hRl : RC_lg (g_cm G) s4 := RC_lg_cm hb0 hl0 hbn hroom rfl c11 c112 (fun q hq => by rw [c12 q (by omega)]; exact h3 q (by omega)) (fun q hq => by rw [c12 _ (by omega)]; exact h2 q (by omega) hq) c12m
      have stay : post (s4.1 11 0 2) s4 := by
        rw [c112]
        exact hyes s4 hc hbn hroom (RC_bt_nil c0 rfl) hRl hf (Or.inr c14)
      refine ⟨fun _ => ⟨fun _ => stay, fun h => absurd rfl h⟩, fun _ => ⟨fun _ => ⟨fun _ => stay, fun h => absurd rfl h⟩, fun _ => S_forget (fun s5 g1 g2 g3 => ⟨fun _ => ?_, fun h => absurd rfl h⟩)⟩⟩
      have d11 : ∀ j, s5.1 11 0 j = s4.1 11 0 j := fun j => g1.1 11 0 j (fun h => by rcases h with ⟨h, -⟩ | ⟨h, -⟩ <;> cases h)
      rw [d11, c112]
      exact hyes s5 hc hbn hroom (RC_bt_nil g2 rfl) (RC_lg_fr hRl g1 (fun i j h => by rcases h with ⟨h, -⟩ | ⟨h, -⟩ <;> cases h) (fun q _ => g1.1 12 0 q (fun h => by rcases h with ⟨h, -⟩ | ⟨h, -⟩ <;> cases h))) (hf.tr (g1.mono (fun f i j h => F_cm_f h))) (Or.inl g3)
    refine ⟨fun _ => ⟨fun _ => main, fun h => absurd rfl h⟩, fun h0 => ⟨fun _ => ⟨fun _ => main, fun h => absurd rfl h⟩, fun h9 => absurd (hc.resolve_left h0) h9⟩⟩
  · have hc0 : ¬ a1 < 0 := fun h => hc (Or.inl h)
    have hc1 : ¬ nI ((g_bt G).length + 1) ≤ a1 := fun h => hc (Or.inr h)
    obtain ⟨w, hw, rfl⟩ := nI_of hc0
    have hwd : w < (g_bt G).length + 1 := Nat.lt_of_not_le fun h => hc1 (nI_le h hw)
    refine w_Rs_commit ⟨w + 1, pk_eq (g_bt G).length 0 (fun h0 => hno (Or.inl (hnil h0))) (fun h0 => ?_) hbc rfl⟩
    have hbn : ¬ g_bt G = [] := fun h => h0 (by rw [h]; rfl)
    rw [hdue]
    refine S_hasRoomFor hlc hll (by omega) (fun hr => ⟨fun _ => hno (Or.inr (by omega)), fun h => absurd rfl h⟩) (fun hr => ⟨fun h => absurd h (by decide), fun _ => ⟨fun h => absurd h hc0, fun _ => ⟨fun h => absurd h hc1, fun _ => ⟨fun h => absurd h (by decide), fun _ => ?_⟩⟩⟩⟩)
    refine S_commit_w (len := (g_fl (g_lg G)).length) (by omega) (by omega) w 0 s (by omega) hlc (fun t h1 h2 h3 => ?_)
    refine w_Rs_commit_65 (pk_le w w (fun _ => ⟨fun h => absurd h (by decide), fun _ s4 e4 => ?_⟩) (fun h => by omega))
    have hf : mx_fr F_cm s s4 := by
      refine mx_fr.tr (h1.mono (fun f i j h => Or.inr (Or.inr (Or.inl h)))) ?_
      rw [e4]
      exact mx_fr.si (Or.inl ⟨rfl, rfl⟩)
    have hf2 : mx_fr (fun f i j => f = 12 ∨ f = 0) s s4 := by
      refine mx_fr.tr (h1.mono (fun f i j h => Or.inl h)) ?_
      rw [e4]
      exact mx_fr.si (Or.inr rfl)
    have hRl : RC_lg (g_wB G []) s4 := RC_lg_fr (G := g_wB G []) hl0 hf2 (fun i j h => by rcases h with h | h <;> cases h) (fun q hq => by
      rw [e4, mx_si_n (by omega)]
      exact h3 q (Nat.lt_of_lt_of_le hq (Nat.le_add_right _ _)))
    refine ⟨fun h => absurd h hc0, fun _ => ⟨fun h => absurd h (nI_nlt (by omega) (by omega)), fun _ => S_forget (fun s5 g1 g2 g3 => ⟨fun h => absurd h (by decide), fun _ => ?_⟩)⟩⟩
    exact hcut w s5 hwd rfl hbn (by omega) (RC_bt_nil g2 rfl) (RC_lg_fr hRl g1 (fun i j h => by rcases h with ⟨h, -⟩ | ⟨h, -⟩ <;> cases h) (fun q _ => g1.1 12 0 q (fun h => by rcases h with ⟨h, -⟩ | ⟨h, -⟩ <;> cases h))) (hf.tr (g1.mono (fun f i j h => F_cm_f h))) g3
end
end
section
def g_fd (c : gCh) (q : Nat) : Nat := match q with
  | 0 => c.1
  | 1 => c.2.1
  | 2 => c.2.2.1
  | 3 => c.2.2.2.1
  | 4 => c.2.2.2.2.1
  | _ => c.2.2.2.2.2
def g_ev : Nat → List (List gCh) → List (gCh × Nat)
  | _, [] => []
  | n, b :: l => b.map (fun c => (c, n + 1)) ++ g_ev (n + 1) l
theorem g_ev_a {b : List gCh} : ∀ {l : List (List gCh)} {n : Nat}, g_ev n (l ++ [b]) = g_ev n l ++ b.map (fun c => (c, n + l.length + 1))
  | [], n => by
    show b.map _ ++ [] = [] ++ b.map _
    simp
  | a :: l, n => by
    show a.map _ ++ g_ev (n + 1) (l ++ [b]) = (a.map _ ++ g_ev (n + 1) l) ++ b.map _
    rw [g_ev_a, List.append_assoc]
    congr 2
    apply List.map_congr_left
    intro c _
    show (c, n + 1 + l.length + 1) = (c, n + (l.length + 1) + 1)
    congr 1
    omega
theorem g_ev_len : ∀ {l : List (List gCh)} {n : Nat}, (g_ev n l).length + l.length = (g_fl l).length
  | [], _ => rfl
  | b :: l, n => by
    have ih := g_ev_len (l := l) (n := n + 1)
    show (b.map _ ++ g_ev (n + 1) l).length + (l.length + 1) = (g_fb b ++ g_fl l).length
    rw [List.length_append, List.length_append, List.length_map, g_fb_len]
    omega
def RM_bt (G : gSt) (s : mSt) : Prop := ((g_bt G).length ≤ 5 ∧ ∀ c ∈ g_bt G, g_okC c) ∧ s.1 18 0 19 = nI (g_bt G).length ∧ ∀ i c, (g_bt G)[i]? = some c → ∀ q, q < 6 → s.1 31 0 (6 * i + q) = nI (g_fd c q)
def RM_e (s : mSt) (k : Nat) (e : gCh × Nat) : Prop := s.1 30 0 k = nI e.2 ∧ ∀ q, q < 6 → s.1 29 0 (6 * k + q) = nI (g_fd e.1 q)
def RM_lg (G : gSt) (s : mSt) : Prop := (g_fl (g_lg G)).length ≤ 120 ∧ s.1 18 0 14 = nI (g_ev 0 (g_lg G)).length ∧ s.1 18 0 17 = nI (g_fl (g_lg G)).length ∧ s.1 18 0 18 = nI (g_lg G).length ∧ ∀ k e, (g_ev 0 (g_lg G))[k]? = some e → RM_e s k e
def F_mm (f _ j : Nat) : Prop := (f = 18 ∧ (j = 1 ∨ j = 14 ∨ j = 17 ∨ j = 18 ∨ j = 19)) ∨ f = 29 ∨ f = 30
section
variable {scr : mSc} {d : Nat} {s : mSt} {G : gSt}
theorem S_Mcommit_104 {post : Int32 → mSt → Prop} {ex : Nat → mSt → Prop} {a1 v2 : Int32} {b ch : Nat} (hb : b ≤ 5) (hch : ch + b ≤ 120) : ∀ (m x : Nat) (s : mSt), x + m = b → s.1 18 0 19 = nI b → s.1 18 0 14 = nI ch → (∀ t, mx_fr (fun f _ _ => f = 30) s t → (∀ q, x ≤ q → q < b → t.1 30 0 (ch + q) = s.1 18 0 18) → (∀ q, q < ch + x → t.1 30 0 q = s.1 30 0 q) → r_Md_commit_104 scr d a1 post ex 1 t v2 (nI b)) → r_Md_commit_104 scr d a1 post ex (m + 1) s v2 (nI x) := by
  intro m
  induction m with
  | zero =>
    intro x s hx h1 h2 h
    obtain rfl : x = b := by omega
    exact h s mx_fr.rf (fun q h1 h2 => by omega) (fun q _ => rfl)
  | succ m ih =>
    intro x s hx h1 h2 h
    refine w_Md_commit_104 (pk_le b x (fun h => by omega) (fun _ => ?_) h1)
    rw [h2, nI_add]
    refine ⟨pk_in (ch + x) 120 (by omega), ?_⟩
    rw [pk_cl (ch + x)]
    intro t e
    subst e
    rw [show nI x + (1 : Int32) = nI (x + 1) from nI_1 x]
    refine ih (x + 1) _ (by omega) ((mx_si_n (by omega)).trans h1) ((mx_si_n (by omega)).trans h2) (fun t g1 g2 g3 => h t (mx_fr.tr (mx_fr.si rfl) g1) (fun q p1 p2 => ?_) (fun q p => ?_))
    · by_cases hq : x + 1 ≤ q
      · rw [g2 q hq p2]
        exact mx_si_n (by omega)
      · obtain rfl : q = x := by omega
        rw [g3 (ch + q) (by omega)]
        exact mx_si_s
    · rw [g3 q (by omega)]
      exact mx_si_n (by omega)
theorem S_Mcommit_65 {post : Int32 → mSt → Prop} {ex : Nat → mSt → Prop} {a1 v2 : Int32} {b ch k : Nat} (hb : b ≤ 5) (hch : ch + b ≤ 120) : ∀ (m x : Nat) (s : mSt), x + m = 6 * b → s.1 18 0 19 = nI b → s.1 18 0 14 = nI ch → (∀ t, mx_fr (fun f _ _ => f = 29) s t → (∀ q, x ≤ q → q < 6 * b → t.1 29 0 (6 * ch + q) = s.1 31 0 q) → (∀ q, q < 6 * ch + x → t.1 29 0 q = s.1 29 0 q) → r_Md_commit_104 scr d a1 post ex k t v2 0) → r_Md_commit_65 scr d a1 post ex (k + m + 1) s v2 (nI x) := by
  intro m
  induction m with
  | zero =>
    intro x s hx h1 h2 h
    obtain rfl : x = 6 * b := by omega
    refine w_Md_commit_65 ?_
    rw [h1, show (6 : Int32) * nI b = nI (6 * b) from pk_mul 6 b]
    exact pk_le (6 * b) (6 * b) (fun _ => h s mx_fr.rf (fun q h1 h2 => by omega) (fun q _ => rfl)) (fun h => by omega)
  | succ m ih =>
    intro x s hx h1 h2 h
    refine w_Md_commit_65 ?_
    rw [h1, h2, show (6 : Int32) * nI b = nI (6 * b) from pk_mul 6 b, show (6 : Int32) * nI ch = nI (6 * ch) from pk_mul 6 ch, nI_add]
    refine pk_le (6 * b) x (fun h => by omega) (fun _ => ⟨pk_in x 30 (by omega), pk_in (6 * ch + x) 720 (by omega), ?_⟩)
    rw [pk_cl (6 * ch + x), pk_cl x]
    intro t e
    subst e
    rw [show nI x + (1 : Int32) = nI (x + 1) from nI_1 x]
    refine ih (x + 1) _ (by omega) ((mx_si_n (by omega)).trans h1) ((mx_si_n (by omega)).trans h2) (fun t g1 g2 g3 => h t (mx_fr.tr (mx_fr.si rfl) g1) (fun q p1 p2 => ?_) (fun q p => ?_))
    · by_cases hq : x + 1 ≤ q
      · rw [g2 q hq p2]
        exact mx_si_n (by omega)
      · obtain rfl : q = x := by omega
        rw [g3 (6 * ch + q) (by omega)]
        exact mx_si_s
    · rw [g3 q (by omega)]
      exact mx_si_n (by omega)
theorem RM_bt_nil {t : mSt} (h : t.1 18 0 19 = 0) (hG : g_bt G = []) : RM_bt G t := by
  unfold RM_bt
  rw [hG]
  exact ⟨⟨Nat.zero_le _, fun c h => by cases h⟩, h, fun i c h => by cases h⟩
theorem RM_lg_fr {P : Nat → Nat → Nat → Prop} {t : mSt} (h : RM_lg G s) (hf : mx_fr P s t) (h1 : ¬ P 18 0 14) (h2 : ¬ P 18 0 17) (h3 : ¬ P 18 0 18) (h4 : ∀ j, ¬ P 29 0 j) (h5 : ∀ j, ¬ P 30 0 j) : RM_lg G t := by
  obtain ⟨hk, ha, hb, hc, hr⟩ := h
  exact ⟨hk, (hf.1 _ _ _ h1).trans ha, (hf.1 _ _ _ h2).trans hb, (hf.1 _ _ _ h3).trans hc, fun k e he => ⟨(hf.1 _ _ _ (h5 _)).trans (hr k e he).1, fun q hq => (hf.1 _ _ _ (h4 _)).trans ((hr k e he).2 q hq)⟩⟩
end
end
section
section
variable {scr : mSc} {d : Nat} {s t : mSt} {G : gSt}
theorem RM_bt_fr {P : Nat → Nat → Nat → Prop} (h : RM_bt G s) (hf : mx_fr P s t) (h1 : ¬ P 18 0 19) (h2 : ∀ j, ¬ P 31 0 j) : RM_bt G t := by
  obtain ⟨hk, ha, hr⟩ := h
  exact ⟨hk, (hf.1 _ _ _ h1).trans ha, fun i c hi q hq => (hf.1 _ _ _ (h2 _)).trans (hr i c hi q hq)⟩
theorem RM_lg_cm (hb : RM_bt G s) (hl : RM_lg G s) (hroom : (g_fl (g_lg G)).length + (g_bt G).length + 1 ≤ 120) (h14 : t.1 18 0 14 = nI ((g_ev 0 (g_lg G)).length + (g_bt G).length)) (h17 : t.1 18 0 17 = nI ((g_fl (g_lg G)).length + (g_bt G).length + 1)) (h18 : t.1 18 0 18 = nI ((g_lg G).length + 1)) (h29 : ∀ q, q < 6 * (g_ev 0 (g_lg G)).length → t.1 29 0 q = s.1 29 0 q) (h29b : ∀ q, q < 6 * (g_bt G).length → t.1 29 0 (6 * (g_ev 0 (g_lg G)).length + q) = s.1 31 0 q) (h30 : ∀ q, q < (g_ev 0 (g_lg G)).length → t.1 30 0 q = s.1 30 0 q) (h30b : ∀ q, q < (g_bt G).length → t.1 30 0 ((g_ev 0 (g_lg G)).length + q) = nI ((g_lg G).length + 1)) : RM_lg (g_cm G) t := by
  have e1 : g_fl (g_lg (g_cm G)) = g_fl (g_lg G) ++ g_fb (g_bt G) := g_fl_a
  have e2 : g_ev 0 (g_lg (g_cm G)) = g_ev 0 (g_lg G) ++ (g_bt G).map (fun c => (c, 0 + (g_lg G).length + 1)) := g_ev_a
  refine ⟨by rw [e1, List.length_append, g_fb_len]; omega, by rw [e2, List.length_append, List.length_map]; exact h14, by rw [e1, List.length_append, g_fb_len]; exact h17, ?_, fun k e he => ?_⟩
  · show _ = nI (g_lg G ++ [g_bt G]).length
    rw [g_len1]
    exact h18
  · rw [e2] at he
    by_cases hk : k < (g_ev 0 (g_lg G)).length
    · rw [List.getElem?_append_left hk] at he
      obtain ⟨q1, q2⟩ := hl.2.2.2.2 k e he
      exact ⟨by rw [h30 k hk]; exact q1, fun q hq => by rw [h29 _ (by omega)]; exact q2 q hq⟩
    · rw [List.getElem?_append_right (by omega)] at he
      obtain ⟨i, rfl⟩ : ∃ i, k = (g_ev 0 (g_lg G)).length + i := ⟨k - (g_ev 0 (g_lg G)).length, by omega⟩
      rw [show (g_ev 0 (g_lg G)).length + i - (g_ev 0 (g_lg G)).length = i by omega, List.getElem?_map] at he
      cases h7 : (g_bt G)[i]? with
      | none =>
        rw [h7] at he
        cases he
      | some c =>
        rw [h7] at he
        cases he
        have hi := g_len_get h7
        refine ⟨?_, fun q hq => ?_⟩
        · show _ = nI (0 + (g_lg G).length + 1)
          rw [h30b i hi, Nat.zero_add]
        · rw [show 6 * ((g_ev 0 (g_lg G)).length + i) + q = 6 * (g_ev 0 (g_lg G)).length + (6 * i + q) by omega, h29b _ (by omega)]
          exact hb.2.2 i c h7 q hq
set_option maxHeartbeats 4000000 in
theorem S_Md_commit {post : Int32 → mSt → Prop} {a1 : Int32} (hb : RM_bt G s) (hl : RM_lg G s)
    (hno : ∀ t, g_bt G = [] ∨ 120 < (g_fl (g_lg G)).length + (g_bt G).length + 1 → RM_bt G t → RM_lg G t → t.1 18 0 1 = 1 → mx_fr F_mm s t → post 0 t)
    (hcut : ∀ w t, w < (g_bt G).length + 1 → a1 = nI w → ¬ g_bt G = [] → (g_fl (g_lg G)).length + (g_bt G).length + 1 ≤ 120 → RM_bt (g_wB G []) t → RM_lg (g_wB G []) t → t.1 18 0 1 = 0 → mx_fr F_mm s t → post (-1) t)
    (hyes : ∀ t, (a1 < 0 ∨ nI ((g_bt G).length + 1) ≤ a1) → ¬ g_bt G = [] → (g_fl (g_lg G)).length + (g_bt G).length + 1 ≤ 120 → RM_bt (g_cm G) t → RM_lg (g_cm G) t → t.1 18 0 1 = 0 → mx_fr F_mm s t → post (nI ((g_lg G).length + 1)) t) : X_Md_commit scr (d + 1) s a1 post := by
  have hnil : (g_bt G).length = 0 → g_bt G = [] := List.eq_nil_of_length_eq_zero
  refine w_Md_commit ⟨(g_bt G).length + 1 + 6 * (g_bt G).length + 1, fun s1 e1 => ?_⟩
  have f1 : mx_fr (fun f _ j => f = 18 ∧ j = 1) s s1 := by
    rw [e1]
    exact mx_fr.si ⟨rfl, rfl⟩
  have f1m : mx_fr F_mm s s1 := f1.mono (fun f i j h => Or.inl ⟨h.1, Or.inl h.2⟩)
  have z1 : s1.1 18 0 1 = 0 := by
    rw [e1]
    exact mx_si_s
  have hb1 : RM_bt G s1 := RM_bt_fr hb f1 (by omega) (fun j => by omega)
  have hl1 : RM_lg G s1 := RM_lg_fr hl f1 (by omega) (by omega) (by omega) (fun j => by omega) (fun j => by omega)
  have no : ∀ s2, s2 = mx_si s1 18 0 1 1 → g_bt G = [] ∨ 120 < (g_fl (g_lg G)).length + (g_bt G).length + 1 → post 0 s2 := fun s2 e2 hc => by
    have f2 : mx_fr (fun f _ j => f = 18 ∧ j = 1) s1 s2 := by
      rw [e2]
      exact mx_fr.si ⟨rfl, rfl⟩
    exact hno s2 hc (RM_bt_fr hb1 f2 (by omega) (fun j => by omega)) (RM_lg_fr hl1 f2 (by omega) (by omega) (by omega) (fun j => by omega) (fun j => by omega)) (by rw [e2]; exact mx_si_s) (f1m.tr (f2.mono (fun f i j h => Or.inl ⟨h.1, Or.inl h.2⟩)))
  have hb1' := hb1
  have hl1' := hl1
  obtain ⟨⟨hb5, hbk⟩, hbc, hbr⟩ := hb1
  obtain ⟨hk, h14, h17, h18, hr⟩ := hl1
  have hel := g_ev_len (l := g_lg G) (n := 0)
  have hdue : s1.1 18 0 19 + (1 : Int32) = nI ((g_bt G).length + 1) := by
    rw [hbc]
    exact nI_1 _
  refine pk_eq (g_bt G).length 0 (fun h0 s2 e2 => no s2 e2 (Or.inl (hnil h0))) (fun h0 => ?_) hbc rfl
  have hbn : ¬ g_bt G = [] := fun h => h0 (by rw [h]; rfl)
  rw [hdue, h17, nI_add]
  refine pk_le ((g_fl (g_lg G)).length + ((g_bt G).length + 1)) 120 (fun hroom => ?_) (fun hroom s2 e2 => no s2 e2 (Or.inr (by omega)))
  have hroom : (g_fl (g_lg G)).length + (g_bt G).length + 1 ≤ 120 := by omega
  have main : (a1 < 0 ∨ nI ((g_bt G).length + 1) ≤ a1) → ∀ s3, s3 = mx_si s1 18 0 18 (s1.1 18 0 18 + 1) → r_Md_commit_65 scr d a1 post (fun _ _ => False) ((g_bt G).length + 1 + 6 * (g_bt G).length + 1) s3 (nI ((g_bt G).length + 1)) 0 := by
    intro hc s3 e3
    have v3 : ∀ f i j, s3.1 f i j = if f = 18 ∧ i = 0 ∧ j = 18 then s1.1 18 0 18 + 1 else s1.1 f i j := fun f i j => by
      rw [e3]
      rfl
    have c19 : s3.1 18 0 19 = nI (g_bt G).length := by
      rw [v3, if_neg (by omega)]
      exact hbc
    have c14 : s3.1 18 0 14 = nI (g_ev 0 (g_lg G)).length := by
      rw [v3, if_neg (by omega)]
      exact h14
    have c18 : s3.1 18 0 18 = nI ((g_lg G).length + 1) := by
      rw [v3, if_pos ⟨rfl, rfl, rfl⟩, h18]
      exact nI_1 _
    refine S_Mcommit_65 (ch := (g_ev 0 (g_lg G)).length) hb5 (by omega) (6 * (g_bt G).length) 0 s3 (by omega) c19 c14 (fun t4 g1 g2 g3 => ?_)
    have t19 : t4.1 18 0 19 = nI (g_bt G).length := (g1.1 _ _ _ (by omega)).trans c19
    have t14 : t4.1 18 0 14 = nI (g_ev 0 (g_lg G)).length := (g1.1 _ _ _ (by omega)).trans c14
    refine S_Mcommit_104 hb5 (by omega) (g_bt G).length 0 t4 (by omega) t19 t14 (fun t5 p1 p2 p3 => ?_)
    have u : ∀ j, t5.1 18 0 j = s3.1 18 0 j := fun j => (p1.1 _ _ _ (by omega)).trans (g1.1 _ _ _ (by omega))
    refine w_Md_commit_104 (pk_le (g_bt G).length (g_bt G).length (fun _ t6 e6 t7 e7 t8 e8 => ?_) (fun h => by omega) ((u 19).trans c19))
    have v8 : ∀ f i j, t8.1 f i j = if f = 18 ∧ i = 0 ∧ j = 19 then 0 else if f = 18 ∧ i = 0 ∧ j = 17 then t6.1 18 0 17 + nI ((g_bt G).length + 1) else if f = 18 ∧ i = 0 ∧ j = 14 then t5.1 18 0 14 + t5.1 18 0 19 else t5.1 f i j := fun f i j => by
      rw [e8, e7, e6]
      rfl
    have w17 : t6.1 18 0 17 = nI (g_fl (g_lg G)).length := by
      rw [e6, mx_si_n (by omega), u, v3, if_neg (by omega)]
      exact h17
    have w18 : t8.1 18 0 18 = nI ((g_lg G).length + 1) := by
      rw [v8, if_neg (by omega), if_neg (by omega), if_neg (by omega), u]
      exact c18
    rw [w18]
    refine hyes t8 hc hbn hroom (RM_bt_nil (by rw [v8, if_pos ⟨rfl, rfl, rfl⟩]) rfl) (RM_lg_cm (s := s1) hb1' hl1' hroom ?_ ?_ w18 (fun q hq => ?_) (fun q hq => ?_) (fun q hq => ?_) (fun q hq => ?_)) ?_ ?_
    · rw [v8, if_neg (by omega), if_neg (by omega), if_pos ⟨rfl, rfl, rfl⟩, u, u, c14, c19, nI_add]
    · rw [v8, if_neg (by omega), if_pos ⟨rfl, rfl, rfl⟩, w17, nI_add]
      rfl
    · rw [v8, if_neg (by omega), if_neg (by omega), if_neg (by omega), p1.1 29 0 q (by omega), g3 q (by omega), v3, if_neg (by omega)]
    · rw [v8, if_neg (by omega), if_neg (by omega), if_neg (by omega), p1.1 29 0 _ (by omega), g2 q (by omega) hq, v3, if_neg (by omega)]
    · rw [v8, if_neg (by omega), if_neg (by omega), if_neg (by omega), p3 q (by omega), g1.1 30 0 q (by omega), v3, if_neg (by omega)]
    · rw [v8, if_neg (by omega), if_neg (by omega), if_neg (by omega), p2 q (by omega) hq, g1.1 18 0 18 (by omega)]
      exact c18
    · rw [v8, if_neg (by omega), if_neg (by omega), if_neg (by omega), u, v3, if_neg (by omega)]
      exact z1
    · refine f1m.tr (mx_fr.tr (t := s3) ?_ (mx_fr.tr (g1.mono (fun f i j h => Or.inr (Or.inl h))) (mx_fr.tr (p1.mono (fun f i j h => Or.inr (Or.inr h))) ?_)))
      · rw [e3]
        exact mx_fr.si (Or.inl ⟨rfl, by omega⟩)
      · rw [e8, e7, e6]
        exact mx_fr.tr (mx_fr.tr (mx_fr.si (Or.inl ⟨rfl, by omega⟩)) (mx_fr.si (Or.inl ⟨rfl, by omega⟩))) (mx_fr.si (Or.inl ⟨rfl, by omega⟩))
  refine ⟨fun h => main (Or.inl h), fun hc0 => ⟨fun h => main (Or.inr h), fun hc1 s5 e5 => ?_⟩⟩
  obtain ⟨w, hw, rfl⟩ := nI_of hc0
  have hwd : w < (g_bt G).length + 1 := Nat.lt_of_not_le fun h => hc1 (nI_le h hw)
  have f5 : mx_fr (fun f _ j => f = 18 ∧ j = 19) s1 s5 := by
    rw [e5]
    exact mx_fr.si ⟨rfl, rfl⟩
  exact hcut w s5 hwd rfl hbn hroom (RM_bt_nil (by rw [e5]; exact mx_si_s) rfl) (RM_lg_fr (G := g_wB G []) hl1' f5 (by omega) (by omega) (by omega) (fun j => by omega) (fun j => by omega)) ((f5.1 _ _ _ (by omega)).trans z1) (f1m.tr (f5.mono (fun f i j h => Or.inl ⟨h.1, by omega⟩)))
end
end
section
def g_node (G : gSt) (a1 a2 : Int32) (o r : Nat) (rl : gRl) : Prop := o < 12 ∧ a1 = nI o ∧ (g_rs G)[r]? = some rl ∧ a2 = nI r ∧ rl.1 = o / 4
theorem g_rng {x : Int32} {n : Nat} {A B : Prop} {N : Int32} (hN : N = nI n) (hn : n < 2 ^ 30) (f : (∀ j, j < n → ¬ x = nI j) → A) (g : ∀ j, j < n → x = nI j → B) : (x < 0 → A) ∧ (¬ x < 0 → ((N ≤ x → A) ∧ (¬ N ≤ x → B))) := by
  subst hN
  refine ⟨fun h => f (fun j hj e => ?_), fun h0 => ?_⟩
  · rw [e] at h
    exact nI_pos (by omega) h
  obtain ⟨j, hj, rfl⟩ := nI_of h0
  refine pk_le n j (fun h => f (fun i hi e => ?_)) (fun h => g j h rfl)
  have := (nI_eq (by omega) (by omega)).mp e
  omega
section
variable {scr : mSc} {d : Nat} {s : mSt} {G : gSt}
theorem S_isObject {post : Int32 → mSt → Prop} {a0 : Int32} (hn : (∀ j, j < 12 → ¬ a0 = nI j) → post 0 s) (hy : ∀ j, j < 12 → a0 = nI j → post 1 s) : X_Rs_isObject scr (d + 1) s a0 post := w_Rs_isObject (g_rng (n := 12) rfl (by omega) (fun h => ⟨rfl, hn h⟩) (fun j hj e => ⟨rfl, hy j hj e⟩))
theorem S_isUser {post : Int32 → mSt → Prop} {a0 : Int32} (hn : (∀ j, j < 8 → ¬ a0 = nI j) → post 0 s) (hy : ∀ j, j < 8 → a0 = nI j → post 1 s) : X_Rs_isUser scr (d + 1) s a0 post := w_Rs_isUser (g_rng (n := 8) rfl (by omega) (fun h => ⟨rfl, hn h⟩) (fun j hj e => ⟨rfl, hy j hj e⟩))
theorem S_isRelation {post : Int32 → mSt → Prop} {a1 : Int32} (h : RC_cf G s) (hn : (∀ j, j < (g_rs G).length → ¬ a1 = nI j) → post 0 s) (hy : ∀ j, j < (g_rs G).length → a1 = nI j → post 1 s) : X_Cf_isRelation scr (d + 1) s a1 post := w_Cf_isRelation (g_rng h.2.1 (by have := h.1.1; omega) (fun h => ⟨rfl, hn h⟩) (fun j hj e => ⟨rfl, hy j hj e⟩))
theorem S_MisRelation {post : Int32 → mSt → Prop} {a1 : Int32} (h : RM_cf G s) (hn : (∀ j, j < (g_rs G).length → ¬ a1 = nI j) → post 0 s) (hy : ∀ j, j < (g_rs G).length → a1 = nI j → post 1 s) : X_Md_isRelation scr (d + 1) s a1 post := w_Md_isRelation (g_rng h.2.1 (by have := h.1.1; omega) (fun h => ⟨rfl, hn h⟩) (fun j hj e => ⟨rfl, hy j hj e⟩))
theorem g_div4 {o : Nat} (h : o < 12) : nI o / (4 : Int32) = nI (o / 4) := pk_div (d := 4) (by omega) (by omega) (by omega)
theorem g_nodeN1 {a1 a2 : Int32} (h : ∀ j, j < 12 → ¬ a1 = nI j) : ∀ o r rl, ¬ g_node G a1 a2 o r rl := fun o r rl h9 => h o h9.1 h9.2.1
theorem g_nodeN2 {a1 a2 : Int32} (h : ∀ j, j < (g_rs G).length → ¬ a2 = nI j) : ∀ o r rl, ¬ g_node G a1 a2 o r rl := fun o r rl h9 => h r (g_len_get h9.2.2.1) h9.2.2.2.1
theorem g_nodeN3 {o r : Nat} {rl : gRl} (hl : (g_rs G).length ≤ 9) (ho : o < 12) (hr : (g_rs G)[r]? = some rl) (h : ¬ rl.1 = o / 4) : ∀ o' r' rl', ¬ g_node G (nI o) (nI r) o' r' rl' := fun o' r' rl' h9 => by
  obtain ⟨h1, h2, h3, h4, h5⟩ := h9
  have hr1 := g_len_get hr
  have hr2 := g_len_get h3
  obtain rfl := (nI_eq (by omega) (by omega)).mp h2
  obtain rfl := (nI_eq (by omega) (by omega)).mp h4
  rw [hr] at h3
  cases h3
  exact h h5
theorem S_isNode {post : Int32 → mSt → Prop} {a1 a2 : Int32} (h : RC_cf G s) (hn : (∀ o r rl, ¬ g_node G a1 a2 o r rl) → post 0 s) (hy : ∀ o r rl, g_node G a1 a2 o r rl → post 1 s) : X_Cf_isNode scr (d + 2) s a1 a2 post := by
  refine w_Cf_isNode (S_isObject (fun h1 => ⟨fun _ => ⟨rfl, hn (g_nodeN1 h1)⟩, fun h => absurd rfl h⟩) (fun o ho e1 => ⟨fun h => absurd h (by decide), fun _ => S_isRelation h (fun h1 => ⟨fun _ => ⟨rfl, hn (g_nodeN2 h1)⟩, fun h => absurd rfl h⟩) (fun r hr e2 => ⟨fun h => absurd h (by decide), fun _ => ?_⟩)⟩))
  subst e1
  subst e2
  have hl := h.1.1
  refine ⟨pk_in r 9 (by omega), by decide, ?_⟩
  rw [pk_cl r, g_div4 ho]
  cases hrl : (g_rs G)[r]? with
  | none =>
    have := List.getElem?_eq_none_iff.mp hrl
    omega
  | some rl =>
    have hok := h.1.2 rl (List.mem_of_getElem? hrl)
    refine pk_eq rl.1 (o / 4) (fun e => ⟨rfl, hy o r rl ⟨ho, rfl, hrl, rfl, e⟩⟩) (fun e => ⟨rfl, hn (g_nodeN3 hl ho hrl e)⟩) (h.2.2.2.1 r rl hrl).1 rfl (by have := hok.1; omega) (by omega)
theorem S_isOf {post : Int32 → mSt → Prop} {a1 a2 : Int32} (h : RM_cf G s) (hn : (∀ o r rl, ¬ g_node G a1 a2 o r rl) → post 0 s) (hy : ∀ o r rl, g_node G a1 a2 o r rl → post 1 s) : X_Md_isOf scr (d + 2) s a1 a2 post := by
  refine w_Md_isOf (g_rng (n := 12) rfl (by omega) (fun h1 => ⟨rfl, hn (g_nodeN1 h1)⟩) (fun o ho e1 => S_MisRelation h (fun h1 => ⟨fun _ => ⟨rfl, hn (g_nodeN2 h1)⟩, fun h => absurd rfl h⟩) (fun r hr e2 => ⟨fun h => absurd h (by decide), fun _ => ?_⟩)))
  subst e1
  subst e2
  have hl := h.1.1
  refine ⟨pk_in r 9 (by omega), by decide, ?_⟩
  rw [pk_cl r, g_div4 ho]
  cases hrl : (g_rs G)[r]? with
  | none =>
    have := List.getElem?_eq_none_iff.mp hrl
    omega
  | some rl =>
    have hok := h.1.2 rl (List.mem_of_getElem? hrl)
    refine pk_eq rl.1 (o / 4) (fun e => ⟨rfl, hy o r rl ⟨ho, rfl, hrl, rfl, e⟩⟩) (fun e => ⟨rfl, hn (g_nodeN3 hl ho hrl e)⟩) (h.2.2.2 r rl hrl).1 rfl (by have := hok.1; omega) (by omega)
def g_bit (x : Int32) (j : Nat) : Prop := ¬ (x >>> (nI j &&& 31)) &&& (1 : Int32) = 0
theorem S_hasBit {post : Int32 → mSt → Prop} {a0 : Int32} {j : Nat} (hn : ¬ g_bit a0 j → post 0 s) (hy : g_bit a0 j → post 1 s) : X_Rs_hasBit scr (d + 1) s a0 (nI j) post := w_Rs_hasBit ⟨fun h => ⟨rfl, hn (fun h9 => h9 h)⟩, fun h => ⟨rfl, hy h⟩⟩
theorem g_b01 (x : Int32) : x &&& (1 : Int32) = 0 ∨ x &&& (1 : Int32) = 1 := by
  have h1 : (x &&& (1 : Int32)).toBitVec = x.toBitVec &&& 1#32 := rfl
  have h2 : x.toBitVec &&& 1#32 = 0#32 ∨ x.toBitVec &&& 1#32 = 1#32 := by
    have h3 : (x.toBitVec &&& 1#32).toNat = x.toBitVec.toNat % 2 := by
      rw [BitVec.toNat_and]
      exact Nat.and_two_pow_sub_one_eq_mod _ 1
    have h4 := Nat.mod_lt x.toBitVec.toNat (show 0 < 2 by omega)
    rcases Nat.lt_or_ge (x.toBitVec.toNat % 2) 1 with h5 | h5
    · exact Or.inl (BitVec.eq_of_toNat_eq (by rw [h3]; show _ = 0; omega))
    · exact Or.inr (BitVec.eq_of_toNat_eq (by rw [h3]; show _ = 1; omega))
  rcases h2 with h2 | h2
  · exact Or.inl (Int32.toBitVec_inj.mp (h1.trans h2))
  · exact Or.inr (Int32.toBitVec_inj.mp (h1.trans h2))
theorem g_bit1 {x : Int32} {j : Nat} {A B : Prop} (f : g_bit x j → A) (g : ¬ g_bit x j → B) : ((x >>> (nI j &&& 31)) &&& (1 : Int32) = 1 → A) ∧ (¬ (x >>> (nI j &&& 31)) &&& (1 : Int32) = 1 → B) := by
  refine ⟨fun h => f (fun h9 => ?_), fun h => g (fun h9 => ?_)⟩
  · rw [h] at h9
    exact absurd h9 (by decide)
  · rcases g_b01 (x >>> (nI j &&& 31)) with h1 | h1
    · exact h9 h1
    · exact h h1
end
end
section
def g_lst (G : gSt) (rl : gRl) (a3 a4 a5 : Int32) (st a s' : Nat) : Prop :=
  (a3 = nI 0 ∧ st = 0 ∧ ¬ rl.2.1 = 0 ∧ a < 8 ∧ a4 = nI a ∧ s' = 0) ∨ (a3 = nI 1 ∧ st = 1 ∧ a < 12 ∧ a4 = nI a ∧ g_bit rl.2.2.1 (a / 4) ∧ s' = 0) ∨ (a3 = nI 2 ∧ st = 2 ∧ (∃ rl2, g_node G a4 a5 a s' rl2) ∧ g_bit rl.2.2.2.1 s')
theorem g_d01 : ¬ nI 0 = nI 1 := by decide
theorem g_d02 : ¬ nI 0 = nI 2 := by decide
theorem g_d12 : ¬ nI 1 = nI 2 := by decide
section
variable {scr : mSc} {d : Nat} {s : mSt} {G : gSt} {rl : gRl} {a3 a4 a5 : Int32}
theorem g_lst0 (e : a3 = nI 0) (h : ∀ a, a < 8 → a4 = nI a → rl.2.1 = 0) : ∀ st a s', ¬ g_lst G rl a3 a4 a5 st a s' := fun st a s' h9 => by
  rcases h9 with ⟨-, -, h1, h2, h3, -⟩ | ⟨e1, -⟩ | ⟨e1, -⟩
  · exact h1 (h a h2 h3)
  · exact g_d01 (e.symm.trans e1)
  · exact g_d02 (e.symm.trans e1)
theorem g_lst1 (e : a3 = nI 1) (h : ∀ a, a < 12 → a4 = nI a → ¬ g_bit rl.2.2.1 (a / 4)) : ∀ st a s', ¬ g_lst G rl a3 a4 a5 st a s' := fun st a s' h9 => by
  rcases h9 with ⟨e1, -⟩ | ⟨-, -, h2, h3, h4, -⟩ | ⟨e1, -⟩
  · exact g_d01 (e1.symm.trans e)
  · exact h a h2 h3 h4
  · exact g_d12 (e.symm.trans e1)
theorem g_lst2 (e : a3 = nI 2) (h : ∀ a s' rl2, g_node G a4 a5 a s' rl2 → ¬ g_bit rl.2.2.2.1 s') : ∀ st a s', ¬ g_lst G rl a3 a4 a5 st a s' := fun st a s' h9 => by
  rcases h9 with ⟨e1, -⟩ | ⟨e1, -⟩ | ⟨-, -, ⟨rl2, h2⟩, h3⟩
  · exact g_d02 (e1.symm.trans e)
  · exact g_d12 (e1.symm.trans e)
  · exact h a s' rl2 h2 h3
theorem g_node_u {a1 a2 : Int32} {o r o' r' : Nat} {rl rl' : gRl} (hl : (g_rs G).length ≤ 9) (h : g_node G a1 a2 o r rl) (h' : g_node G a1 a2 o' r' rl') : o = o' ∧ r = r' ∧ rl = rl' := by
  obtain ⟨h1, h2, h3, h4, h5⟩ := h
  obtain ⟨g1, g2, g3, g4, g5⟩ := h'
  have hr := g_len_get h3
  have hr' := g_len_get g3
  obtain rfl := (nI_eq (by omega) (by omega)).mp (h2.symm.trans g2)
  obtain rfl := (nI_eq (by omega) (by omega)).mp (h4.symm.trans g4)
  rw [h3] at g3
  cases g3
  exact ⟨rfl, rfl, rfl⟩
theorem g_eqI {a b : Nat} (ha : a < 2 ^ 30) (hb : b < 2 ^ 30) (h : nI a = nI b) : a = b := (nI_eq (by omega) (by omega)).mp h
theorem S_isListed {post : Int32 → mSt → Prop} {i1 : Nat} (h : RC_cf G s) (hrl : (g_rs G)[i1]? = some rl) (hn : (∀ st a s', ¬ g_lst G rl a3 a4 a5 st a s') → post 0 s) (hy : ∀ st a s', g_lst G rl a3 a4 a5 st a s' → post 1 s) : X_Cf_isListed scr (d + 3) s i1 a3 a4 a5 post := by
  have hl := h.1.1
  obtain ⟨q0, q1, q2, q3, q5, q6⟩ := h.2.2.2.1 i1 rl hrl
  refine w_Cf_isListed ⟨fun e0 => ?_, fun n0 => ⟨fun e1 => ?_, fun n1 => ⟨fun e2 => ?_, fun n2 => ⟨rfl, hn (fun st a s' h9 => ?_)⟩⟩⟩⟩
  · rw [q1]
    refine ⟨fun hu => ⟨rfl, hn (g_lst0 e0 (fun _ _ _ => hu))⟩, fun hu => S_isUser (fun h1 => ⟨fun _ => ⟨rfl, hn (g_lst0 e0 (fun a ha e => absurd e (h1 a ha)))⟩, fun h => absurd rfl h⟩) (fun j hj e => ⟨fun h => absurd h (by decide), fun _ => ⟨rfl, hy 0 j 0 (Or.inl ⟨e0, rfl, hu, hj, e, rfl⟩)⟩⟩)⟩
  · refine S_isObject (fun h1 => ⟨fun _ => ⟨rfl, hn (g_lst1 e1 (fun a ha e => absurd e (h1 a ha)))⟩, fun h => absurd rfl h⟩) (fun j hj e => ⟨fun h => absurd h (by decide), fun _ => ⟨by decide, ?_⟩⟩)
    subst e
    rw [q2, g_div4 hj]
    exact S_hasBit (fun hb => ⟨fun _ => ⟨rfl, hn (g_lst1 e1 (fun a ha e => by obtain rfl := g_eqI (by omega) (by omega) e; exact hb))⟩, fun h => absurd rfl h⟩) (fun hb => ⟨fun h => absurd h (by decide), fun _ => ⟨rfl, hy 1 j 0 (Or.inr (Or.inl ⟨e1, rfl, hj, rfl, hb, rfl⟩))⟩⟩)
  · refine S_isNode h (fun h1 => ⟨fun _ => ⟨rfl, hn (g_lst2 e2 (fun a s' rl2 h9 => absurd h9 (h1 a s' rl2)))⟩, fun h => absurd rfl h⟩) (fun o r rl2 hnd => ⟨fun h => absurd h (by decide), fun _ => ?_⟩)
    rw [q3, hnd.2.2.2.1]
    refine S_hasBit (fun hb => ⟨fun _ => ⟨rfl, hn (g_lst2 e2 (fun a s' rl3 h9 => by rw [← (g_node_u hl hnd h9).2.1]; exact hb))⟩, fun h => absurd rfl h⟩) (fun hb => ⟨fun h => absurd h (by decide), fun _ => ⟨rfl, hy 2 o r (Or.inr (Or.inr ⟨e2, rfl, ⟨rl2, hnd⟩, hb⟩))⟩⟩)
  · rcases h9 with ⟨e1, -⟩ | ⟨e1, -⟩ | ⟨e1, -⟩
    · exact n0 e1
    · exact n1 e1
    · exact n2 e1
theorem S_isTuple {post : Int32 → mSt → Prop} {a1 a2 : Int32} (h : RC_cf G s) (hn : (∀ o r rl st a s', ¬ (g_node G a1 a2 o r rl ∧ g_lst G rl a3 a4 a5 st a s')) → post 0 s) (hy : ∀ o r rl st a s', g_node G a1 a2 o r rl → g_lst G rl a3 a4 a5 st a s' → post 1 s) : X_Cf_isTuple scr (d + 4) s a1 a2 a3 a4 a5 post := by
  have hl := h.1.1
  refine w_Cf_isTuple (S_isNode h (fun h1 => ⟨fun _ => ⟨rfl, hn (fun o r rl st a s' h9 => h1 o r rl h9.1)⟩, fun h => absurd rfl h⟩) (fun o r rl hnd => ⟨fun h => absurd h (by decide), fun _ => ?_⟩))
  have hr := g_len_get hnd.2.2.1
  have e2 := hnd.2.2.2.1
  refine ⟨pk_in r 9 (by omega) e2, ?_⟩
  rw [pk_cl r e2]
  exact S_isListed h hnd.2.2.1 (fun h1 => ⟨fun _ => ⟨rfl, hn (fun o' r' rl' st a s' h9 => by
    rw [← (g_node_u hl hnd h9.1).2.2] at h9
    exact h1 st a s' h9.2)⟩, fun h => absurd rfl h⟩) (fun st a s' hls => ⟨fun h => absurd h (by decide), fun _ => ⟨rfl, hy o r rl st a s' hnd hls⟩⟩)
end
end
section
def F_ch (f _ j : Nat) : Prop := (f = 0 ∧ j = 3) ∨ f = 10
def g_chg (G : gSt) (a2 a3 a4 a5 a6 : Int32) (c : gCh) : Prop := c.1 < 2 ∧ ∃ rl, g_node G a2 a3 c.2.1 c.2.2.1 rl ∧ g_lst G rl a4 a5 a6 c.2.2.2.1 c.2.2.2.2.1 c.2.2.2.2.2
section
variable {scr : mSc} {d : Nat} {s : mSt} {G : gSt} {rl : gRl}
theorem g_chg_ok {a2 a3 a4 a5 a6 : Int32} {c : gCh} (hl : (g_rs G).length ≤ 9) (h : g_chg G a2 a3 a4 a5 a6 c) : g_okC c := by
  obtain ⟨h0, rl, h1, h2⟩ := h
  have hr := g_len_get h1.2.2.1
  rcases h2 with ⟨-, e1, -, e2, -, e3⟩ | ⟨-, e1, e2, -, -, e3⟩ | ⟨-, e1, ⟨rl2, e2⟩, -⟩
  · exact ⟨h0, h1.1, by omega, by omega, by omega, by omega⟩
  · exact ⟨h0, h1.1, by omega, by omega, by omega, by omega⟩
  · have := g_len_get e2.2.2.1
    exact ⟨h0, h1.1, by omega, by omega, e2.1, by omega⟩
theorem S_MisTuple {post : Int32 → mSt → Prop} {a1 a2 a3 a4 a5 : Int32} (h : RM_cf G s) (hn : (∀ o r rl st a s', ¬ (g_node G a1 a2 o r rl ∧ g_lst G rl a3 a4 a5 st a s')) → post 0 s) (hy : ∀ o r rl st a s', g_node G a1 a2 o r rl → g_lst G rl a3 a4 a5 st a s' → post 1 s) : X_Md_isTuple scr (d + 3) s a1 a2 a3 a4 a5 post := by
  have hl := h.1.1
  refine w_Md_isTuple (S_isOf h (fun h1 => ⟨fun _ => ⟨rfl, hn (fun o r rl st a s' h9 => h1 o r rl h9.1)⟩, fun h => absurd rfl h⟩) (fun o r rl hnd => ⟨fun h => absurd h (by decide), fun _ => ?_⟩))
  have hr := g_len_get hnd.2.2.1
  have e2 := hnd.2.2.2.1
  obtain ⟨q0, q1, q2, q3, q4, q5⟩ := h.2.2.2 r rl hnd.2.2.1
  have hn : (∀ st a s', ¬ g_lst G rl a3 a4 a5 st a s') → post 0 s := fun h1 => hn (fun o' r' rl' st a s' h9 => by
    rw [← (g_node_u hl hnd h9.1).2.2] at h9
    exact h1 st a s' h9.2)
  have hy := fun st a s' => hy o r rl st a s' hnd
  have hin : vp_in a2 9 := pk_in r 9 (by omega) e2
  rw [pk_cl r e2]
  refine ⟨fun hneg => ⟨rfl, hn (fun st a s' h9 => ?_)⟩, fun hpos => ⟨fun h2 => ⟨fun e0 => ?_, fun n0 => ⟨fun e1 => ?_, fun n1 => ?_⟩⟩, fun h2 => ⟨rfl, hn (fun st a s' h9 => ?_)⟩⟩⟩
  · rcases h9 with ⟨e1, -⟩ | ⟨e1, -⟩ | ⟨e1, -⟩ <;> rw [e1] at hneg <;> exact absurd hneg (by decide)
  · have e0 : a3 = nI 0 := e0
    refine g_rng (n := 8) rfl (by omega) (fun h1 => ⟨rfl, hn (g_lst0 e0 (fun a ha e => absurd e (h1 a ha)))⟩) (fun j hj e => ⟨hin, ?_⟩)
    rw [q1]
    exact ⟨fun hu => ⟨rfl, hn (g_lst0 e0 (fun _ _ _ => hu))⟩, fun hu => ⟨rfl, hy 0 j 0 (Or.inl ⟨e0, rfl, hu, hj, e, rfl⟩)⟩⟩
  · have e1 : a3 = nI 1 := e1
    refine g_rng (n := 12) rfl (by omega) (fun h1 => ⟨rfl, hn (g_lst1 e1 (fun a ha e => absurd e (h1 a ha)))⟩) (fun j hj e => ⟨hin, by decide, ?_⟩)
    subst e
    rw [q2, g_div4 hj]
    exact g_bit1 (fun hb => ⟨rfl, hy 1 j 0 (Or.inr (Or.inl ⟨e1, rfl, hj, rfl, hb, rfl⟩))⟩) (fun hb => ⟨rfl, hn (g_lst1 e1 (fun a ha e => by obtain rfl := g_eqI (by omega) (by omega) e; exact hb))⟩)
  · have e2' : a3 = nI 2 := by
      obtain ⟨j, hj, rfl⟩ := nI_of hpos
      have hj2 : j ≤ 2 := Nat.le_of_not_lt fun h9 => nI_ge (a := 2) (b := j) h9 hj h2
      rcases (show j = 0 ∨ j = 1 ∨ j = 2 by omega) with rfl | rfl | rfl
      · exact absurd rfl n0
      · exact absurd rfl n1
      · rfl
    refine S_isOf h (fun h1 => ⟨fun _ => ⟨rfl, hn (g_lst2 e2' (fun a s' rl2 h9 => absurd h9 (h1 a s' rl2)))⟩, fun h => absurd rfl h⟩) (fun o2 r2 rl2 hnd2 => ⟨fun h => absurd h (by decide), fun _ => ⟨hin, ?_⟩⟩)
    rw [q3, hnd2.2.2.2.1]
    exact g_bit1 (fun hb => ⟨rfl, hy 2 o2 r2 (Or.inr (Or.inr ⟨e2', rfl, ⟨rl2, hnd2⟩, hb⟩))⟩) (fun hb => ⟨rfl, hn (g_lst2 e2' (fun a s' rl3 h9 => by rw [← (g_node_u hl hnd2 h9).2.1]; exact hb))⟩)
  · rcases h9 with ⟨e1, -⟩ | ⟨e1, -⟩ | ⟨e1, -⟩ <;> rw [e1] at h2 <;> exact absurd (by decide) h2
theorem RC_bt_add {t : mSt} {c : gCh} (hb : RC_bt G s) (h5 : (g_bt G).length < 5) (hc : g_okC c) (h0 : t.1 0 0 3 = nI ((g_bt G).length + 1)) (h1 : ∀ i, i < (g_bt G).length → t.1 10 0 i = s.1 10 0 i) (h2 : t.1 10 0 (g_bt G).length = g_pk c) : RC_bt (g_wB G (g_bt G ++ [c])) t := by
  refine ⟨⟨?_, fun c' hc' => ?_⟩, ?_, fun i c' hi => ?_⟩
  · show (g_bt G ++ [c]).length ≤ 5
    rw [g_len1]
    omega
  · rcases List.mem_append.mp (show c' ∈ g_bt G ++ [c] from hc') with h | h
    · exact hb.1.2 c' h
    · obtain rfl := List.mem_singleton.mp h
      exact hc
  · show _ = nI (g_bt G ++ [c]).length
    rw [g_len1]
    exact h0
  · rcases g_app_get (show (g_bt G ++ [c])[i]? = some c' from hi) with ⟨hi, hic⟩ | ⟨rfl, rfl⟩
    · rw [h1 i hi]
      exact hb.2.2 i c' hic
    · exact h2
set_option maxHeartbeats 4000000 in
theorem S_Rs_change {post : Int32 → mSt → Prop} {ex : Nat → mSt → Prop} {a1 a2 a3 a4 a5 a6 : Int32} {cm : Nat} (h1 : a1 = nI cm) (hcm : cm < 2) (h : RC_cf G s) (hb : RC_bt G s) (hno : g_ac G = false → ex 1 s) (hbad : g_ac G = true → (∀ c, ¬ g_chg G a2 a3 a4 a5 a6 c) → ex 2 s)
    (hfull : ∀ c, g_ac G = true → c.1 = cm → g_chg G a2 a3 a4 a5 a6 c → 5 ≤ (g_bt G).length → ex 3 s)
    (hy : ∀ c t, g_ac G = true → c.1 = cm → g_chg G a2 a3 a4 a5 a6 c → (g_bt G).length < 5 → RC_bt (g_wB G (g_bt G ++ [c])) t → mx_fr F_ch s t → post (nI ((g_bt G).length + 1)) t) : X_Rs_change scr (d + 5) s a1 a2 a3 a4 a5 a6 ex post := by
  have hl := h.1.1
  have hb5 := hb.1.1
  have hbc := hb.2.1
  refine w_Rs_change (g_ac0 h.2.2.1 hno (fun hac => S_isTuple h (fun h9 => ⟨fun _ => hbad hac (fun c hc => ?_), fun h => absurd rfl h⟩) (fun o r rl st a s' hnd hls => ⟨fun h => absurd h (by decide), fun _ => ?_⟩)))
  · obtain ⟨-, rl, g1, g2⟩ := hc
    exact h9 _ _ rl _ _ _ ⟨g1, g2⟩
  have hch : g_chg G a2 a3 a4 a5 a6 (cm, o, r, st, a, s') := ⟨hcm, rl, hnd, hls⟩
  have hok := g_chg_ok hl hch
  refine pk_lt (g_bt G).length 5 (fun h5 => ?_) (fun h5 => hfull (cm, o, r, st, a, s') hac rfl hch h5) hbc rfl
  have fin : ∀ s9, s9 = mx_si s 10 0 ((s.1 0 0 3)).toNatClampNeg (g_pk (cm, o, r, st, a, s')) → ∀ s10, s10 = mx_si s9 0 0 3 ((s9.1 0 0 3) + (1 : Int32)) → post (s10.1 0 0 3) s10 := by
    intro s9 e9 s10 e10
    rw [pk_cl (g_bt G).length hbc] at e9
    have c9 : s9.1 0 0 3 = nI (g_bt G).length := by
      rw [e9, mx_si_n (by omega)]
      exact hbc
    have c10 : s10.1 0 0 3 = nI ((g_bt G).length + 1) := by
      rw [e10, c9]
      exact mx_si_s.trans (nI_1 _)
    rw [c10]
    refine hy _ s10 hac rfl hch h5 (RC_bt_add hb h5 hok c10 (fun i hi => ?_) ?_) ?_
    · rw [e10, mx_si_n (by omega), e9, mx_si_n (by omega)]
    · rw [e10, mx_si_n (by omega), e9, mx_si_s]
    · rw [e10, e9]
      exact mx_fr.tr (mx_fr.si (Or.inr rfl)) (mx_fr.si (Or.inl ⟨rfl, rfl⟩))
  have hin : vp_in (s.1 0 0 3) 5 := pk_in (g_bt G).length 5 h5 hbc
  have hpk : ∀ x6 : Int32, x6 = nI s' → a4 = nI st → a5 = nI a → X_Rs_packed scr (d + 4) s a1 a2 a3 a4 a5 x6 (fun r8 s7 => (vp_in (s.1 0 0 3) 5 ∧ ∀ s9, s9 = mx_si s7 10 0 ((s.1 0 0 3)).toNatClampNeg r8 → (∀ s10, s10 = mx_si s9 0 0 3 ((s9.1 0 0 3) + (1 : Int32)) → post (s10.1 0 0 3) s10))) := by
    intro x6 g6 g4 g5
    rw [g6, g4, g5, hnd.2.1, hnd.2.2.2.1]
    exact S_packed (c := (cm, o, r, st, a, s')) hok h1 ⟨hin, fin⟩
  rcases hls with ⟨e1, e2, -, e3, e4, e5⟩ | ⟨e1, e2, e3, e4, -, e5⟩ | ⟨e1, e2, ⟨rl2, e3⟩, -⟩
  · refine ⟨fun h9 => absurd (e1.symm.trans h9) g_d02, fun _ => hpk 0 (by rw [e5]; rfl) (by rw [e2]; exact e1) e4⟩
  · refine ⟨fun h9 => absurd (e1.symm.trans h9) g_d12, fun _ => hpk 0 (by rw [e5]; rfl) (by rw [e2]; exact e1) e4⟩
  · refine ⟨fun _ => hpk a6 e3.2.2.2.1 (by rw [e2]; exact e1) e3.2.1, fun h9 => absurd e1 h9⟩
end
end
section
def F_mb (f _ j : Nat) : Prop := (f = 18 ∧ (j = 1 ∨ j = 19)) ∨ f = 31
section
variable {scr : mSc} {d : Nat} {s t : mSt} {G : gSt}
theorem RM_cf_fr {P : Nat → Nat → Nat → Prop} (h : RM_cf G s) (hf : mx_fr P s t) (h2 : ¬ P 18 0 2) (h3 : ¬ P 18 0 3) (h4 : ∀ f j, 19 ≤ f → f ≤ 24 → ¬ P f 0 j) : RM_cf G t := by
  obtain ⟨hk, hc, ha, hr⟩ := h
  refine ⟨hk, (hf.1 _ _ _ h2).trans hc, (hf.1 _ _ _ h3).trans ha, fun i r hi => ?_⟩
  obtain ⟨q0, q1, q2, q3, q4, q5⟩ := hr i r hi
  exact ⟨(hf.1 _ _ _ (h4 _ _ (by omega) (by omega))).trans q0, (hf.1 _ _ _ (h4 _ _ (by omega) (by omega))).trans q1, (hf.1 _ _ _ (h4 _ _ (by omega) (by omega))).trans q2, (hf.1 _ _ _ (h4 _ _ (by omega) (by omega))).trans q3, (hf.1 _ _ _ (h4 _ _ (by omega) (by omega))).trans q4, fun j c h => (hf.1 _ _ _ (h4 _ _ (by omega) (by omega))).trans (q5 j c h)⟩
set_option maxHeartbeats 4000000 in
theorem S_Md_change {post : Int32 → mSt → Prop} {a1 a2 a3 a4 a5 a6 : Int32} {cm : Nat} (h1 : a1 = nI cm) (hcm : cm < 2) (h : RM_cf G s) (hb : RM_bt G s) (hno : ∀ t, g_ac G = false → t.1 18 0 1 = 1 → mx_fr F_mb s t → RM_bt G t → post 0 t)
    (hbad : ∀ t, g_ac G = true → (∀ c, ¬ g_chg G a2 a3 a4 a5 a6 c) → t.1 18 0 1 = 2 → mx_fr F_mb s t → RM_bt G t → post 0 t)
    (hfull : ∀ c t, g_ac G = true → c.1 = cm → g_chg G a2 a3 a4 a5 a6 c → 5 ≤ (g_bt G).length → t.1 18 0 1 = 3 → mx_fr F_mb s t → RM_bt G t → post 0 t)
    (hy : ∀ c t, g_ac G = true → c.1 = cm → g_chg G a2 a3 a4 a5 a6 c → (g_bt G).length < 5 → RM_bt (g_wB G (g_bt G ++ [c])) t → t.1 18 0 1 = 0 → mx_fr F_mb s t → post (nI ((g_bt G).length + 1)) t) : X_Md_change scr (d + 4) s a1 a2 a3 a4 a5 a6 post := by
  have code : ∀ (s t : mSt) (v : Int32), t = mx_si s 18 0 1 v → RM_bt G s → RM_bt G t ∧ t.1 18 0 1 = v ∧ mx_fr F_mb s t := fun s t v e hb => by
    have f : mx_fr (fun f _ j => f = 18 ∧ j = 1) s t := by
      rw [e]
      exact mx_fr.si ⟨rfl, rfl⟩
    exact ⟨RM_bt_fr hb f (by omega) (fun j => by omega), by rw [e]; exact mx_si_s, f.mono (fun f i j h => Or.inl ⟨h.1, Or.inl h.2⟩)⟩
  refine w_Md_change (fun s1 e1 => ?_)
  obtain ⟨hb1, z1, f1⟩ := code s s1 0 e1 hb
  have hc1 : RM_cf G s1 := by
    rw [e1]
    exact RM_code h
  have hl := h.1.1
  refine g_ac0 hc1.2.2.1 (fun hac s2 e2 => ?_) (fun hac => S_MisTuple hc1 (fun h9 => ⟨fun _ s2 e2 => ?_, fun h => absurd rfl h⟩) (fun o r rl st a s' hnd hls => ⟨fun h => absurd h (by decide), fun _ => ?_⟩))
  · obtain ⟨hb2, z2, f2⟩ := code s1 s2 1 e2 hb1
    rw [z2]
    exact ⟨fun h => absurd h (by decide), fun _ => hno s2 hac z2 (f1.tr f2) hb2⟩
  · obtain ⟨hb2, z2, f2⟩ := code s1 s2 2 e2 hb1
    rw [z2]
    exact ⟨fun h => absurd h (by decide), fun _ => hbad s2 hac (fun c hc => by
      obtain ⟨-, rl, g1, g2⟩ := hc
      exact h9 _ _ rl _ _ _ ⟨g1, g2⟩) z2 (f1.tr f2) hb2⟩
  have hch : g_chg G a2 a3 a4 a5 a6 (cm, o, r, st, a, s') := ⟨hcm, rl, hnd, hls⟩
  have hok := g_chg_ok hl hch
  have hb5 := hb.1.1
  refine pk_eq (g_bt G).length 5 (fun h5 s2 e2 => ?_) (fun h5 s4 e4 => ?_) hb1.2.1 rfl
  · obtain ⟨hb2, z2, f2⟩ := code s1 s2 3 e2 hb1
    rw [z2]
    exact ⟨fun h => absurd h (by decide), fun _ => hfull _ s2 hac rfl hch (by omega) z2 (f1.tr f2) hb2⟩
  obtain ⟨hb4, z4, f4⟩ := code s1 s4 0 e4 hb1
  have h5 : (g_bt G).length < 5 := by omega
  rw [z4]
  refine ⟨fun _ => ?_, fun h => absurd (by decide) h⟩
  have k0 : (6 : Int32) * s4.1 18 0 19 = nI (6 * (g_bt G).length) := by
    rw [hb4.2.1]
    exact pk_mul 6 _
  have fin : ∀ x0 x5 : Int32, x0 = nI cm → x5 = nI s' → a4 = nI st → a5 = nI a → ∀ t0, t0 = mx_si s4 31 0 (6 * (g_bt G).length) x0 → ∀ t1, t1 = mx_si t0 31 0 (6 * (g_bt G).length + 1) a2 → ∀ t2, t2 = mx_si t1 31 0 (6 * (g_bt G).length + 2) a3 → ∀ t3, t3 = mx_si t2 31 0 (6 * (g_bt G).length + 3) a4 → ∀ t4, t4 = mx_si t3 31 0 (6 * (g_bt G).length + 4) a5 → ∀ t5, t5 = mx_si t4 31 0 (6 * (g_bt G).length + 5) x5 → ∀ t6, t6 = mx_si t5 18 0 19 ((t5.1 18 0 19) + (1 : Int32)) → post (t6.1 18 0 19) t6 := by
    intro x0 x5 g0 g5 g3 g4 t0 i0 t1 i1 t2 i2 t3 i3 t4 i4 t5 i5 t6 i6
    have v5 : ∀ f i j, t5.1 f i j = if f = 31 ∧ i = 0 ∧ j = 6 * (g_bt G).length + 5 then x5 else if f = 31 ∧ i = 0 ∧ j = 6 * (g_bt G).length + 4 then a5 else if f = 31 ∧ i = 0 ∧ j = 6 * (g_bt G).length + 3 then a4 else if f = 31 ∧ i = 0 ∧ j = 6 * (g_bt G).length + 2 then a3 else if f = 31 ∧ i = 0 ∧ j = 6 * (g_bt G).length + 1 then a2 else if f = 31 ∧ i = 0 ∧ j = 6 * (g_bt G).length then x0 else s4.1 f i j := fun f i j => by
      rw [i5, i4, i3, i2, i1, i0]
      rfl
    have c5 : t5.1 18 0 19 = nI (g_bt G).length := by
      rw [v5, if_neg (by omega), if_neg (by omega), if_neg (by omega), if_neg (by omega), if_neg (by omega), if_neg (by omega)]
      exact hb4.2.1
    have c6 : t6.1 18 0 19 = nI ((g_bt G).length + 1) := by
      rw [i6, c5]
      exact mx_si_s.trans (nI_1 _)
    have c31 : ∀ j, t6.1 31 0 j = t5.1 31 0 j := fun j => by rw [i6, mx_si_n (by omega)]
    rw [c6]
    refine hy _ t6 hac rfl hch h5 ⟨⟨?_, fun c' hc' => ?_⟩, ?_, fun i c' hi q hq => ?_⟩ ?_ ?_
    · show (g_bt G ++ [_]).length ≤ 5
      rw [g_len1]
      omega
    · rcases List.mem_append.mp (show c' ∈ g_bt G ++ [_] from hc') with h | h
      · exact hb.1.2 c' h
      · obtain rfl := List.mem_singleton.mp h
        exact hok
    · show _ = nI (g_bt G ++ [_]).length
      rw [g_len1]
      exact c6
    · rw [c31]
      rcases g_app_get (show (g_bt G ++ [_])[i]? = some c' from hi) with ⟨hi, hic⟩ | ⟨rfl, rfl⟩
      · rw [v5, if_neg (by omega), if_neg (by omega), if_neg (by omega), if_neg (by omega), if_neg (by omega), if_neg (by omega)]
        exact hb4.2.2 i c' hic q hq
      · rcases (show q = 0 ∨ q = 1 ∨ q = 2 ∨ q = 3 ∨ q = 4 ∨ q = 5 by omega) with rfl | rfl | rfl | rfl | rfl | rfl
        · rw [v5, if_neg (by omega), if_neg (by omega), if_neg (by omega), if_neg (by omega), if_neg (by omega), if_pos ⟨rfl, rfl, rfl⟩]
          exact g0
        · rw [v5, if_neg (by omega), if_neg (by omega), if_neg (by omega), if_neg (by omega), if_pos ⟨rfl, rfl, rfl⟩]
          exact hnd.2.1
        · rw [v5, if_neg (by omega), if_neg (by omega), if_neg (by omega), if_pos ⟨rfl, rfl, rfl⟩]
          exact hnd.2.2.2.1
        · rw [v5, if_neg (by omega), if_neg (by omega), if_pos ⟨rfl, rfl, rfl⟩]
          exact g3
        · rw [v5, if_neg (by omega), if_pos ⟨rfl, rfl, rfl⟩]
          exact g4
        · rw [v5, if_pos ⟨rfl, rfl, rfl⟩]
          exact g5
    · rw [i6, mx_si_n (by omega), v5, if_neg (by omega), if_neg (by omega), if_neg (by omega), if_neg (by omega), if_neg (by omega), if_neg (by omega)]
      exact z4
    · refine f1.tr (f4.tr ?_)
      rw [i6, i5, i4, i3, i2, i1, i0]
      exact mx_fr.tr (mx_fr.tr (mx_fr.tr (mx_fr.tr (mx_fr.tr (mx_fr.tr (mx_fr.si (Or.inr rfl)) (mx_fr.si (Or.inr rfl))) (mx_fr.si (Or.inr rfl))) (mx_fr.si (Or.inr rfl))) (mx_fr.si (Or.inr rfl))) (mx_fr.si (Or.inr rfl))) (mx_fr.si (Or.inl ⟨rfl, Or.inr rfl⟩))
  have hst : a4 = nI st ∧ a5 = nI a ∧ (a4 = (2 : Int32) → a6 = nI s') ∧ (¬ a4 = (2 : Int32) → (0 : Int32) = nI s') := by
    rcases hls with ⟨e1, e2, -, e3, e4, e5⟩ | ⟨e1, e2, e3, e4, -, e5⟩ | ⟨e1, e2, ⟨rl2, e3⟩, -⟩
    · exact ⟨by rw [e2]; exact e1, e4, fun h9 => absurd (e1.symm.trans h9) g_d02, fun _ => by rw [e5]; rfl⟩
    · exact ⟨by rw [e2]; exact e1, e4, fun h9 => absurd (e1.symm.trans h9) g_d12, fun _ => by rw [e5]; rfl⟩
    · exact ⟨by rw [e2]; exact e1, e3.2.1, fun _ => e3.2.2.2.1, fun h9 => absurd e1 h9⟩
  rw [k0, show nI (6 * (g_bt G).length) + (1 : Int32) = nI (6 * (g_bt G).length + 1) from nI_add _ 1, show nI (6 * (g_bt G).length) + (2 : Int32) = nI (6 * (g_bt G).length + 2) from nI_add _ 2, show nI (6 * (g_bt G).length) + (3 : Int32) = nI (6 * (g_bt G).length + 3) from nI_add _ 3, show nI (6 * (g_bt G).length) + (4 : Int32) = nI (6 * (g_bt G).length + 4) from nI_add _ 4, show nI (6 * (g_bt G).length) + (5 : Int32) = nI (6 * (g_bt G).length + 5) from nI_add _ 5,
    pk_cl (6 * (g_bt G).length), pk_cl (6 * (g_bt G).length + 1), pk_cl (6 * (g_bt G).length + 2), pk_cl (6 * (g_bt G).length + 3), pk_cl (6 * (g_bt G).length + 4), pk_cl (6 * (g_bt G).length + 5)]
  have all : ∀ x0 : Int32, x0 = nI cm → (vp_in (nI (6 * (g_bt G).length)) 30 ∧ ∀ t0, t0 = mx_si s4 31 0 (6 * (g_bt G).length) x0 → (vp_in (nI (6 * (g_bt G).length + 1)) 30 ∧ ∀ t1, t1 = mx_si t0 31 0 (6 * (g_bt G).length + 1) a2 → (vp_in (nI (6 * (g_bt G).length + 2)) 30 ∧ ∀ t2, t2 = mx_si t1 31 0 (6 * (g_bt G).length + 2) a3 → (vp_in (nI (6 * (g_bt G).length + 3)) 30 ∧ ∀ t3, t3 = mx_si t2 31 0 (6 * (g_bt G).length + 3) a4 → (vp_in (nI (6 * (g_bt G).length + 4)) 30 ∧ ∀ t4, t4 = mx_si t3 31 0 (6 * (g_bt G).length + 4) a5 → ((a4 = (2 : Int32) → (vp_in (nI (6 * (g_bt G).length + 5)) 30 ∧ ∀ t5, t5 = mx_si t4 31 0 (6 * (g_bt G).length + 5) a6 → (∀ t6, t6 = mx_si t5 18 0 19 ((t5.1 18 0 19) + (1 : Int32)) → post (t6.1 18 0 19) t6))) ∧ (¬ a4 = (2 : Int32) → (vp_in (nI (6 * (g_bt G).length + 5)) 30 ∧ ∀ t5, t5 = mx_si t4 31 0 (6 * (g_bt G).length + 5) (0 : Int32) → (∀ t6, t6 = mx_si t5 18 0 19 ((t5.1 18 0 19) + (1 : Int32)) → post (t6.1 18 0 19) t6))))))))) := fun x0 g0 => ⟨pk_in (6 * (g_bt G).length) 30 (by omega), fun t0 i0 => ⟨pk_in (6 * (g_bt G).length + 1) 30 (by omega), fun t1 i1 => ⟨pk_in (6 * (g_bt G).length + 2) 30 (by omega), fun t2 i2 => ⟨pk_in (6 * (g_bt G).length + 3) 30 (by omega), fun t3 i3 => ⟨pk_in (6 * (g_bt G).length + 4) 30 (by omega), fun t4 i4 => ⟨fun h4 => ⟨pk_in (6 * (g_bt G).length + 5) 30 (by omega), fun t5 i5 t6 i6 => fin x0 a6 g0 (hst.2.2.1 h4) hst.1 hst.2.1 t0 i0 t1 i1 t2 i2 t3 i3 t4 i4 t5 i5 t6 i6⟩, fun h4 => ⟨pk_in (6 * (g_bt G).length + 5) 30 (by omega), fun t5 i5 t6 i6 => fin x0 0 g0 (hst.2.2.2 h4) hst.1 hst.2.1 t0 i0 t1 i1 t2 i2 t3 i3 t4 i4 t5 i5 t6 i6⟩⟩⟩⟩⟩⟩⟩
  exact pk_eq cm 0 (fun e => all 0 (by rw [e]; rfl)) (fun e => all 1 (by rw [show cm = 1 by omega]; rfl)) h1 rfl
end
end
section
theorem g_kept {L K t : Nat} (hL : L < 2 ^ 30) (hK : K < 2 ^ 30) (ht : t < 2 ^ 30) {A B : Prop} {x y z : Int32} (hx : x = nI L) (hy : y = nI K) (hz : z = nI t) (f : L < t + K → A) (g : t + K ≤ L → B) : (x - y < z → A) ∧ (¬ x - y < z → B) := by
  subst hx
  subst hy
  subst hz
  have e1 := pk_sub_toInt hL hK
  have e2 : (nI t).toInt = t := nI_toInt (by omega)
  refine ⟨fun h => f ?_, fun h => g ?_⟩
  · have h1 := Int32.lt_iff_toInt_lt.mp h
    omega
  · refine Nat.le_of_not_lt fun h9 => h (Int32.lt_iff_toInt_lt.mpr ?_)
    omega
def g_okK (G : gSt) : Prop := 1 ≤ G.1 ∧ G.1 ≤ 8
def F_mo (f _ j : Nat) : Prop := f = 18 ∧ j = 1
section
variable {scr : mSc} {d : Nat} {s : mSt} {G : gSt}
theorem g_lgl (h : (g_fl (g_lg G)).length ≤ 120) : (g_lg G).length ≤ 120 := by
  have := g_ev_len (l := g_lg G) (n := 0)
  omega
theorem S_refuse {post : mSt → Prop} {ex : Nat → mSt → Prop} {a1 a2 : Int32} (h : RC_lg G s) (hk : s.1 0 0 0 = nI G.1) (hK : g_okK G) (e2 : (a1 = 0 ∨ ∀ t, t ≤ (g_lg G).length → ¬ a2 = nI t) → ex 2 s) (e3 : ∀ t, ¬ a1 = 0 → t ≤ (g_lg G).length → a2 = nI t → t + G.1 ≤ (g_lg G).length → ex 3 s)
    (hy : ∀ t, ¬ a1 = 0 → t ≤ (g_lg G).length → a2 = nI t → (g_lg G).length < t + G.1 → post s) : X_Rs_refuseUnless scr (d + 1) s a1 a2 ex post := by
  have hl := g_lgl h.1.1
  have hm := h.2.2.1
  refine w_Rs_refuseUnless ⟨fun h0 => e2 (Or.inl h0), fun h0 => ⟨fun hn => e2 (Or.inr (fun t ht e => ?_)), fun hp => ?_⟩⟩
  · rw [e] at hn
    exact nI_pos (by omega) hn
  obtain ⟨t, ht, rfl⟩ := nI_of hp
  refine pk_le t (g_lg G).length (fun htl => ?_) (fun htl => e2 (Or.inr (fun t' ht' e => ?_))) rfl hm
  · exact g_kept (by omega) (by have := hK.2; omega) (by omega) hm hk rfl (fun h9 => hy t h0 htl rfl h9) (fun h9 => e3 t h0 htl rfl h9)
  · have := (nI_eq ht (by omega)).mp e
    omega
theorem S_fail {post : Int32 → mSt → Prop} {a1 : Int32} (h : ∀ t, t = mx_si s 18 0 1 a1 → post 0 t) : X_Md_fail scr (d + 1) s a1 post := w_Md_fail (fun t e => ⟨rfl, h t e⟩)
theorem S_isFine {post : Int32 → mSt → Prop} {a1 a2 : Int32} (h : RM_lg G s) (hk : s.1 18 0 0 = nI G.1) (hK : g_okK G) (e1 : ∀ u, (a2 = 0 ∨ ∀ t, t ≤ (g_lg G).length → ¬ a1 = nI t) → u.1 18 0 1 = 1 → mx_fr F_mo s u → post 0 u) (e2 : ∀ u t, ¬ a2 = 0 → t ≤ (g_lg G).length → a1 = nI t → t + G.1 ≤ (g_lg G).length → u.1 18 0 1 = 2 → mx_fr F_mo s u → post 0 u)
    (hy : ∀ u t, ¬ a2 = 0 → t ≤ (g_lg G).length → a1 = nI t → (g_lg G).length < t + G.1 → u.1 18 0 1 = 0 → mx_fr F_mo s u → post 1 u) : X_Md_isFine scr (d + 2) s a1 a2 post := by
  have hl := g_lgl h.1
  refine w_Md_isFine (fun s1 i1 => ?_)
  have f1 : mx_fr F_mo s s1 := by
    rw [i1]
    exact mx_fr.si ⟨rfl, rfl⟩
  have hm : s1.1 18 0 18 = nI (g_lg G).length := (f1.1 18 0 18 (fun h => by cases h.2)).trans h.2.2.2.1
  have hk1 : s1.1 18 0 0 = nI G.1 := (f1.1 18 0 0 (fun h => by cases h.2)).trans hk
  have go : ∀ (v : Int32) (u : mSt), u = mx_si s1 18 0 1 v → u.1 18 0 1 = v ∧ mx_fr F_mo s u := fun v u e => by
    refine ⟨by rw [e]; exact mx_si_s, f1.tr ?_⟩
    rw [e]
    exact mx_fr.si ⟨rfl, rfl⟩
  have no : (a2 = 0 ∨ ∀ t, t ≤ (g_lg G).length → ¬ a1 = nI t) → X_Md_fail scr (d + 1) s1 (1 : Int32) (fun r s2 => (mx_nr .boolean r ∧ post r s2)) := fun hc => S_fail (fun u e => ⟨rfl, e1 u hc (go 1 u e).1 (go 1 u e).2⟩)
  refine ⟨fun hn => no (Or.inr (fun t ht e => ?_)), fun hp => ?_⟩
  · rw [e] at hn
    exact nI_pos (by omega) hn
  obtain ⟨t, ht, rfl⟩ := nI_of hp
  refine pk_lt (g_lg G).length t (fun htl => no (Or.inr (fun t' ht' e => ?_))) (fun htl => ⟨fun h0 => no (Or.inl h0), fun h0 => ?_⟩) hm rfl
  · have := (nI_eq ht (by omega)).mp e
    omega
  · exact g_kept (by omega) (by have := hK.2; omega) (by omega) hm hk1 rfl (fun h9 => ⟨rfl, hy s1 t h0 htl rfl h9 (by rw [i1]; exact mx_si_s) f1⟩) (fun h9 => S_fail (fun u e => ⟨fun _ => ⟨rfl, e2 u t h0 htl rfl h9 (go 2 u e).1 (go 2 u e).2⟩, fun h => absurd rfl h⟩))
end
end
section
def g_pe (G : gSt) (t : Nat) : Nat := (g_fl ((g_lg G).take t)).length
section
variable {s : mSt} {G : gSt}
theorem g_fl_app {l l' : List (List gCh)} : g_fl (l ++ l') = g_fl l ++ g_fl l' := by
  unfold g_fl
  simp
theorem g_take1 {t : Nat} {b : List gCh} (h : (g_lg G)[t]? = some b) : (g_lg G).take (t + 1) = (g_lg G).take t ++ [b] := by
  rw [List.take_add_one, h]
  rfl
theorem g_pe_1 {t : Nat} {b : List gCh} (h : (g_lg G)[t]? = some b) : g_pe G (t + 1) = g_pe G t + b.length + 1 := by
  unfold g_pe
  rw [g_take1 h, g_fl_a, List.length_append, g_fb_len]
  omega
theorem g_pe_le {t : Nat} : g_pe G t ≤ (g_fl (g_lg G)).length := by
  unfold g_pe
  have h := congrArg (fun l => (g_fl l).length) (List.take_append_drop t (g_lg G))
  simp only [g_fl_app, List.length_append] at h
  omega
theorem g_rec {t i : Nat} {b : List gCh} {x : Int32} (hr : RC_lg G s) (h : (g_lg G)[t]? = some b) (hi : (g_fb b)[i]? = some x) : s.1 12 0 (g_pe G t + i) = x := by
  refine hr.2.2.2 _ x ?_
  have e : g_fl (g_lg G) = g_fl ((g_lg G).take t) ++ (g_fb b ++ g_fl ((g_lg G).drop (t + 1))) := by
    have h1 := List.take_append_drop (t + 1) (g_lg G)
    rw [g_take1 h, List.append_assoc] at h1
    have h2 := congrArg g_fl h1
    rw [g_fl_app, g_fl_app] at h2
    rw [← h2]
    show _ = _ ++ (g_fb b ++ _)
    congr 2
    unfold g_fl
    simp
  have hl := g_len_get hi
  rw [e, List.getElem?_append_right (by show g_pe G t ≤ _; omega)]
  show (g_fb b ++ _)[g_pe G t + i - g_pe G t]? = some x
  rw [show g_pe G t + i - g_pe G t = i by omega, List.getElem?_append_left hl]
  exact hi
theorem g_rec_c {t i : Nat} {b : List gCh} {c : gCh} (hr : RC_lg G s) (h : (g_lg G)[t]? = some b) (hi : b[i]? = some c) : s.1 12 0 (g_pe G t + i) = g_pk c := by
  refine g_rec hr h ?_
  have hl := g_len_get hi
  unfold g_fb
  rw [List.getElem?_append_left (by rw [List.length_map]; exact hl), List.getElem?_map, hi]
  rfl
theorem g_rec_m {t : Nat} {b : List gCh} (hr : RC_lg G s) (h : (g_lg G)[t]? = some b) : s.1 12 0 (g_pe G t + b.length) = -1 := by
  refine g_rec hr h ?_
  unfold g_fb
  rw [List.getElem?_append_right (by rw [List.length_map]; exact Nat.le_refl _), List.length_map, Nat.sub_self]
  rfl
theorem g_mk_in {t : Nat} {b : List gCh} (hr : RC_lg G s) (h : (g_lg G)[t]? = some b) : ∀ i, i ≤ b.length → lg_mk (s.1 12 0) (g_pe G t + i) = lg_mk (s.1 12 0) (g_pe G t) := by
  intro i
  induction i with
  | zero => exact fun _ => rfl
  | succ i ih =>
    intro hi
    have hc : ∃ c, b[i]? = some c := ⟨b[i], List.getElem?_eq_getElem (by omega)⟩
    obtain ⟨c, hc⟩ := hc
    have hok := (hr.1.2 b (List.mem_of_getElem? h)).2 c (List.mem_of_getElem? hc)
    rw [show g_pe G t + (i + 1) = g_pe G t + i + 1 by omega, lg_mk_0 (by rw [g_rec_c hr h hc]; exact g_pk_ne hok)]
    exact ih (by omega)
theorem g_mk_pe (hr : RC_lg G s) : ∀ t, t ≤ (g_lg G).length → lg_mk (s.1 12 0) (g_pe G t) = t ∧ ∀ q, q < g_pe G t → lg_mk (s.1 12 0) q < t := by
  intro t
  induction t with
  | zero =>
    intro _
    have e : g_pe G 0 = 0 := by simp [g_pe, g_fl]
    rw [e]
    exact ⟨rfl, fun q hq => by omega⟩
  | succ t ih =>
    intro ht
    obtain ⟨ih1, ih2⟩ := ih (by omega)
    obtain ⟨b, hb⟩ : ∃ b, (g_lg G)[t]? = some b := ⟨(g_lg G)[t], List.getElem?_eq_getElem (by omega)⟩
    rw [g_pe_1 hb]
    have hin := g_mk_in hr hb
    refine ⟨?_, fun q hq => ?_⟩
    · rw [lg_mk_1 (g_rec_m hr hb), hin b.length (Nat.le_refl _), ih1]
    · by_cases h1 : q < g_pe G t
      · have := ih2 q h1
        omega
      · have h2 := hin (q - g_pe G t) (by omega)
        rw [show g_pe G t + (q - g_pe G t) = q by omega, ih1] at h2
        omega
theorem g_at {t p : Nat} (hr : RC_lg G s) (ht : t ≤ (g_lg G).length) (h : lg_at (s.1 12 0) (g_fl (g_lg G)).length t p) : p = g_pe G t := by
  obtain ⟨h1, h2⟩ := g_mk_pe hr t ht
  obtain ⟨q1, q2, q3⟩ := h
  have h3 := g_pe_le (G := G) (t := t)
  rcases Nat.lt_trichotomy p (g_pe G t) with h4 | h4 | h4
  · have h5 := h2 p h4
    rcases q2 with q2 | q2 <;> omega
  · exact h4
  · have h5 := q3 _ h4
    omega
end
end
section
def g_ec (G : gSt) (t : Nat) : Nat := (g_ev 0 ((g_lg G).take t)).length
theorem g_ev_app : ∀ {l l' : List (List gCh)} {n : Nat}, g_ev n (l ++ l') = g_ev n l ++ g_ev (n + l.length) l'
  | [], l', n => rfl
  | b :: l, l', n => by
    show b.map _ ++ g_ev (n + 1) (l ++ l') = (b.map _ ++ g_ev (n + 1) l) ++ g_ev (n + (l.length + 1)) l'
    rw [g_ev_app, List.append_assoc, show n + 1 + l.length = n + (l.length + 1) by omega]
theorem g_ev_rng {e : gCh × Nat} : ∀ {l : List (List gCh)} {n : Nat}, e ∈ g_ev n l → n < e.2 ∧ e.2 ≤ n + l.length
  | [], n, h => by cases h
  | b :: l, n, h => by
    rcases List.mem_append.mp (show e ∈ b.map (fun c => (c, n + 1)) ++ g_ev (n + 1) l from h) with h | h
    · obtain ⟨c, -, rfl⟩ := List.mem_map.mp h
      show n < n + 1 ∧ n + 1 ≤ n + (l.length + 1)
      omega
    · have h1 := g_ev_rng h
      show n < e.2 ∧ e.2 ≤ n + (l.length + 1)
      omega
section
variable {scr : mSc} {d : Nat} {s : mSt} {G : gSt}
theorem g_ec_pe {t : Nat} (h : t ≤ (g_lg G).length) : g_ec G t + t = g_pe G t := by
  have h1 := g_ev_len (l := (g_lg G).take t) (n := 0)
  rw [List.length_take, Nat.min_eq_left h] at h1
  exact h1
theorem g_ec_le {t : Nat} : g_ec G t ≤ (g_ev 0 (g_lg G)).length := by
  have h := congrArg (fun l => (g_ev 0 l).length) (List.take_append_drop t (g_lg G))
  simp only [g_ev_app, List.length_append] at h
  unfold g_ec
  omega
theorem g_made {t k : Nat} {e : gCh × Nat} (ht : t ≤ (g_lg G).length) (h : (g_ev 0 (g_lg G))[k]? = some e) : (k < g_ec G t → e.2 ≤ t) ∧ (g_ec G t ≤ k → t < e.2) := by
  have h1 : g_ev 0 (g_lg G) = g_ev 0 ((g_lg G).take t) ++ g_ev t ((g_lg G).drop t) := by
    have h2 := g_ev_app (l := (g_lg G).take t) (l' := (g_lg G).drop t) (n := 0)
    rw [List.take_append_drop, List.length_take, Nat.min_eq_left ht, Nat.zero_add] at h2
    exact h2
  rw [h1] at h
  refine ⟨fun hk => ?_, fun hk => ?_⟩
  · rw [List.getElem?_append_left (show k < (g_ev 0 ((g_lg G).take t)).length from hk)] at h
    have h2 := (g_ev_rng (List.mem_of_getElem? h)).2
    rw [List.length_take] at h2
    omega
  · rw [List.getElem?_append_right (show (g_ev 0 ((g_lg G).take t)).length ≤ k from hk)] at h
    exact (g_ev_rng (List.mem_of_getElem? h)).1
theorem S_since_2 {post : Int32 → mSt → Prop} {ex : Nat → mSt → Prop} {t : Nat} (hl : RM_lg G s) (ht : t ≤ (g_lg G).length) (h : post (nI (g_ec G t)) s) : ∀ (m k : Nat), k + m = g_ec G t → r_Md_since_2 scr d (nI t) post ex (m + 1) s (nI k) := by
  have hle := g_ec_le (G := G) (t := t)
  have hel := g_ev_len (l := g_lg G) (n := 0)
  have h120 := hl.1
  have hll := g_lgl h120
  intro m
  induction m with
  | zero =>
    intro k hk
    obtain rfl : k = g_ec G t := by omega
    refine w_Md_since_2 (pk_le (g_ev 0 (g_lg G)).length (g_ec G t) (fun _ => h) (fun h9 => ⟨pk_in (g_ec G t) 120 (by omega), ?_⟩) hl.2.1)
    rw [pk_cl (g_ec G t)]
    have he : (g_ev 0 (g_lg G))[g_ec G t]? = some (g_ev 0 (g_lg G))[g_ec G t] := List.getElem?_eq_getElem h9
    have h1 := (g_made ht he).2 (Nat.le_refl _)
    have h2 := (g_ev_rng (List.mem_of_getElem? he)).2
    exact pk_lt t (g_ev 0 (g_lg G))[g_ec G t].2 (fun _ => h) (fun h => by omega) rfl (hl.2.2.2.2 _ _ he).1
  | succ m ih =>
    intro k hk
    refine w_Md_since_2 (pk_le (g_ev 0 (g_lg G)).length k (fun h => by omega) (fun h9 => ⟨pk_in k 120 (by omega), ?_⟩) hl.2.1)
    rw [pk_cl k, show nI k + (1 : Int32) = nI (k + 1) from nI_1 k]
    have he : (g_ev 0 (g_lg G))[k]? = some (g_ev 0 (g_lg G))[k] := List.getElem?_eq_getElem h9
    have h1 := (g_made ht he).1 (by omega)
    exact pk_lt t (g_ev 0 (g_lg G))[k].2 (fun h => by omega) (fun _ => ih (k + 1) (by omega)) rfl (hl.2.2.2.2 _ _ he).1
theorem S_since {post : Int32 → mSt → Prop} {t : Nat} (hl : RM_lg G s) (ht : t ≤ (g_lg G).length) (h : post (nI (g_ec G t)) s) : X_Md_since scr (d + 1) s (nI t) post := w_Md_since ⟨g_ec G t + 1, S_since_2 hl ht h (g_ec G t) 0 (by omega)⟩
theorem S_changesSince {post : Int32 → mSt → Prop} {t : Nat} (hl : RC_lg G s) (ht : t ≤ (g_lg G).length) (h : post (nI ((g_ev 0 (g_lg G)).length - g_ec G t)) s) : X_Lg_changesSince scr (d + 2) s (nI t) post := by
  have hll := g_lgl hl.1.1
  refine w_Lg_changesSince (S_lengthAt hl.2.1 hl.1.1 (by omega) (fun p hp => ?_))
  rw [g_at hl ht hp, hl.2.1, hl.2.2.1]
  have h1 := g_pe_le (G := G) (t := t)
  have h2 := g_ec_pe ht
  have h3 := g_ev_len (l := g_lg G) (n := 0)
  have h4 := g_ec_le (G := G) (t := t)
  rw [pk_sub h1, pk_sub ht, pk_sub (by omega), show (g_fl (g_lg G)).length - g_pe G t - ((g_lg G).length - t) = (g_ev 0 (g_lg G)).length - g_ec G t by omega]
  exact h
end
end
section
section
variable {scr : mSc} {d : Nat} {s : mSt} {G : gSt}
theorem S_Rs_watch {post : Int32 → mSt → Prop} {ex : Nat → mSt → Prop} {a1 : Int32} (h : RC_lg G s) (hk : s.1 0 0 0 = nI G.1) (hK : g_okK G) (e2 : (∀ t, t ≤ (g_lg G).length → ¬ a1 = nI t) → ex 2 s) (e3 : ∀ t, t ≤ (g_lg G).length → a1 = nI t → t + G.1 ≤ (g_lg G).length → ex 3 s)
    (hy : ∀ t, t ≤ (g_lg G).length → a1 = nI t → (g_lg G).length < t + G.1 → post (nI ((g_ev 0 (g_lg G)).length - g_ec G t)) s) : X_Rs_watch scr (d + 3) s a1 ex post := by
  refine w_Rs_watch (S_refuse h hk hK (fun hc => ⟨fun h => absurd h (by decide), fun _ => e2 (hc.resolve_left (by decide)), fun h => absurd h (by decide)⟩) (fun t _ ht e h9 => ⟨fun h => absurd h (by decide), fun h => absurd h (by decide), fun _ => e3 t ht e h9⟩) (fun t _ ht e h9 => ?_))
  rw [e]
  exact S_changesSince h ht (hy t ht e h9)
theorem S_Md_watch {post : Int32 → mSt → Prop} {a1 : Int32} (h : RM_lg G s) (hk : s.1 18 0 0 = nI G.1) (hK : g_okK G) (e1 : ∀ u, (∀ t, t ≤ (g_lg G).length → ¬ a1 = nI t) → u.1 18 0 1 = 1 → mx_fr F_mo s u → post 0 u) (e2 : ∀ u t, t ≤ (g_lg G).length → a1 = nI t → t + G.1 ≤ (g_lg G).length → u.1 18 0 1 = 2 → mx_fr F_mo s u → post 0 u)
    (hy : ∀ u t, t ≤ (g_lg G).length → a1 = nI t → (g_lg G).length < t + G.1 → u.1 18 0 1 = 0 → mx_fr F_mo s u → post (nI ((g_ev 0 (g_lg G)).length - g_ec G t)) u) : X_Md_watch scr (d + 3) s a1 post := by
  refine w_Md_watch (S_isFine h hk hK (fun u hc z f => ⟨fun _ => e1 u (hc.resolve_left (by decide)) z f, fun h => absurd rfl h⟩) (fun u t _ ht e h9 z f => ⟨fun _ => e2 u t ht e h9 z f, fun h => absurd rfl h⟩) (fun u t _ ht e h9 z f => ⟨fun h => absurd h (by decide), fun _ => ?_⟩))
  have hu : RM_lg G u := RM_lg_fr h f (fun h => by cases h.2) (fun h => by cases h.2) (fun h => by cases h.2) (fun j h => by cases h.1) (fun j h => by cases h.1)
  rw [e]
  refine S_since hu ht ?_
  rw [hu.2.1, pk_sub g_ec_le]
  exact hy u t ht e h9 z f
end
theorem g_sm : ∀ q, q < 6 → (((nI (4 * q)) &&& (31 : Int32)).toBitVec.smod 32).toNat = 4 * q := by decide +kernel
theorem g_a15 (n : Nat) : nI n &&& (15 : Int32) = nI (n % 16) := by
  have h : nI n &&& nI 15 = nI (n &&& 15) := Int32.toBitVec_inj.mp (by
    rw [Int32.toBitVec_and]
    show BitVec.ofNat 32 n &&& BitVec.ofNat 32 15 = BitVec.ofNat 32 (n &&& 15)
    rw [BitVec.ofNat_and])
  rw [show (15 : Int32) = nI 15 from rfl, h, show n &&& 15 = n % 16 from Nat.and_two_pow_sub_one_eq_mod n 4]
theorem g_fld {c : gCh} {q : Nat} (hc : g_okC c) (hq : q < 6) : g_pn c / 2 ^ (4 * q) % 16 = g_fd c q := by
  obtain ⟨h1, h2, h3, h4, h5, h6⟩ := hc
  unfold g_pn
  rcases (show q = 0 ∨ q = 1 ∨ q = 2 ∨ q = 3 ∨ q = 4 ∨ q = 5 by omega) with rfl | rfl | rfl | rfl | rfl | rfl
  · show _ / 1 % 16 = c.1
    omega
  · show _ / 16 % 16 = c.2.1
    omega
  · show _ / 256 % 16 = c.2.2.1
    omega
  · show _ / 4096 % 16 = c.2.2.2.1
    omega
  · show _ / 65536 % 16 = c.2.2.2.2.1
    omega
  · show _ / 1048576 % 16 = c.2.2.2.2.2
    omega
theorem S_field {scr : mSc} {d : Nat} {s : mSt} {post : Int32 → mSt → Prop} {c : gCh} {q : Nat} (hc : g_okC c) (hq : q < 6) (h : post (nI (g_fd c q)) s) : X_Rs_field scr (d + 1) s (g_pk c) (nI q) post := by
  refine w_Rs_field ?_
  have hn := g_pn_lt hc
  rw [show (4 : Int32) * nI q = nI (4 * q) from pk_mul 4 q]
  unfold g_pk
  rw [pk_shrN (by omega) (nI (4 * q) &&& 31) (4 * q) (g_sm q hq), g_a15, g_fld hc hq]
  exact h
end
section
section
variable {scr : mSc} {d : Nat} {s : mSt} {G : gSt}
theorem g_ec_1 {t : Nat} {b : List gCh} (h : (g_lg G)[t]? = some b) : g_ec G (t + 1) = g_ec G t + b.length := by
  have ht := g_len_get h
  have h1 := g_ec_pe (G := G) (t := t) (by omega)
  have h2 := g_ec_pe (G := G) (t := t + 1) (by omega)
  have h3 := g_pe_1 h
  omega
theorem g_ev_at {i : Nat} {e : gCh × Nat} (h : (g_ev 0 (g_lg G))[i]? = some e) : ∃ j b x, (g_lg G)[j]? = some b ∧ b[x]? = some e.1 ∧ e.2 = j + 1 ∧ i = g_ec G j + x := by
  have hr := g_ev_rng (List.mem_of_getElem? h)
  obtain ⟨j, hj⟩ : ∃ j, e.2 = j + 1 := ⟨e.2 - 1, by omega⟩
  have hjl : j < (g_lg G).length := by omega
  obtain ⟨b, hb⟩ : ∃ b, (g_lg G)[j]? = some b := ⟨(g_lg G)[j], List.getElem?_eq_getElem hjl⟩
  have h1 : g_ec G j ≤ i := Nat.le_of_not_lt fun h9 => by
    have := (g_made (t := j) (by omega) h).1 h9
    omega
  have h2 : i < g_ec G (j + 1) := Nat.lt_of_not_le fun h9 => by
    have := (g_made (t := j + 1) (by omega) h).2 h9
    omega
  rw [g_ec_1 hb] at h2
  refine ⟨j, b, i - g_ec G j, hb, ?_, hj, by omega⟩
  have e1 := g_ev_app (l := (g_lg G).take (j + 1)) (l' := (g_lg G).drop (j + 1)) (n := 0)
  rw [List.take_append_drop, g_take1 hb, g_ev_a, List.append_assoc] at e1
  rw [e1, List.getElem?_append_right (show (g_ev 0 ((g_lg G).take j)).length ≤ i from h1), List.getElem?_append_left (by rw [List.length_map]; show i - g_ec G j < _; omega), List.getElem?_map] at h
  have h : (b[i - g_ec G j]?).map (fun c => (c, 0 + ((g_lg G).take j).length + 1)) = some e := h
  cases h7 : b[i - g_ec G j]? with
  | none =>
    rw [h7] at h
    cases h
  | some c =>
    rw [h7] at h
    cases h
    rfl
theorem g_place {i : Nat} {e : gCh × Nat} (hr : RC_lg G s) (h : (g_ev 0 (g_lg G))[i]? = some e) : ∃ q m, e.2 = m + 1 ∧ q = i + m ∧ q < (g_fl (g_lg G)).length ∧ s.1 12 0 q = g_pk e.1 ∧ g_okC e.1 ∧ lg_mk (s.1 12 0) q = m ∧ lg_cn (s.1 12 0) q = i := by
  obtain ⟨j, b, x, hb, hx, hj, hi⟩ := g_ev_at h
  have hjl := g_len_get hb
  have hxl := g_len_get hx
  have h1 := g_ec_pe (G := G) (t := j) (by omega)
  have h2 := g_pe_le (G := G) (t := j + 1)
  rw [g_pe_1 hb] at h2
  have h3 := g_mk_in hr hb x (by omega)
  rw [(g_mk_pe hr j (by omega)).1] at h3
  have h4 := lg_mk_c (R := s.1 12 0) (g_pe G j + x)
  have hq : i + j = g_pe G j + x := by omega
  refine ⟨i + j, j, hj, rfl, by omega, ?_, (hr.1.2 b (List.mem_of_getElem? hb)).2 _ (List.mem_of_getElem? hx), ?_, ?_⟩
  · rw [hq]
    exact g_rec_c hr hb hx
  · rw [hq]
    exact h3
  · rw [hq]
    omega
end
end
section
def g_wv (e : gCh × Nat) (q : Nat) : Int32 := if q = 6 then nI e.2 else nI (g_fd e.1 q)
section
variable {scr : mSc} {d : Nat} {s : mSt} {G : gSt}
set_option maxHeartbeats 4000000 in
theorem S_Rs_watched {post : Int32 → mSt → Prop} {ex : Nat → mSt → Prop} {a1 a2 a3 : Int32} (h : RC_lg G s) (hk : s.1 0 0 0 = nI G.1) (hK : g_okK G) (e2 : (∀ t, t ≤ (g_lg G).length → ¬ a1 = nI t) → ex 2 s) (e3 : ∀ t, t ≤ (g_lg G).length → a1 = nI t → t + G.1 ≤ (g_lg G).length → ex 3 s)
    (hm : ∀ t, t ≤ (g_lg G).length → a1 = nI t → (g_lg G).length < t + G.1 → (∀ k q, ¬ (g_ec G t + k < (g_ev 0 (g_lg G)).length ∧ a2 = nI k ∧ q ≤ 6 ∧ a3 = nI q)) → post (-1) s)
    (hy : ∀ t k q e, t ≤ (g_lg G).length → a1 = nI t → (g_lg G).length < t + G.1 → a2 = nI k → q ≤ 6 → a3 = nI q → (g_ev 0 (g_lg G))[g_ec G t + k]? = some e → post (g_wv e q) s) : X_Rs_watched scr (d + 3) s a1 a2 a3 ex post := by
  have hll := g_lgl h.1.1
  have hel := g_ev_len (l := g_lg G) (n := 0)
  have h120 := h.1.1
  refine w_Rs_watched (S_refuse h hk hK (fun hc => ⟨fun h => absurd h (by decide), fun _ => e2 (hc.resolve_left (by decide)), fun h => absurd h (by decide)⟩) (fun t _ ht e h9 => ⟨fun h => absurd h (by decide), fun h => absurd h (by decide), fun _ => e3 t ht e h9⟩) (fun t _ ht e h9 => ?_))
  have hm := hm t ht e h9
  have hle := g_ec_le (G := G) (t := t)
  refine ⟨fun hn => hm (fun k q hc => ?_), fun hp => ?_⟩
  · rw [hc.2.1] at hn
    exact nI_pos (by omega) hn
  obtain ⟨k, hk31, rfl⟩ := nI_of hp
  rw [e]
  refine S_changesSince h ht (pk_le ((g_ev 0 (g_lg G)).length - g_ec G t) k (fun hkn => hm (fun k' q hc => ?_)) (fun hkn => ⟨fun hn => hm (fun k' q hc => ?_), fun hp3 => ?_⟩))
  · have := (nI_eq hk31 (by omega)).mp hc.2.1
    omega
  · rw [hc.2.2.2] at hn
    exact nI_pos (by omega) hn
  obtain ⟨q, hq31, rfl⟩ := nI_of hp3
  refine pk_le q 6 (fun hq => ?_) (fun hq => hm (fun k' q' hc => ?_))
  · have he : (g_ev 0 (g_lg G))[g_ec G t + k]? = some (g_ev 0 (g_lg G))[g_ec G t + k] := List.getElem?_eq_getElem (by omega)
    have hy := hy t k q _ ht e h9 rfl hq rfl he
    obtain ⟨p, m, g1, g2, g3, g4, g5, g6, g7⟩ := g_place h he
    refine S_placeOf h.2.1 h120 (by omega) (fun p0 hp0 => ?_)
    have ep := g_at h ht hp0
    have c0 : lg_cn (s.1 12 0) p0 = g_ec G t := by
      have h1 := (g_mk_pe h t ht).1
      have h2 := lg_mk_c (R := s.1 12 0) (g_pe G t)
      have h3 := g_ec_pe (G := G) ht
      rw [ep]
      omega
    have hpp : p0 ≤ p := Nat.le_of_not_lt fun h8 => by
      have h7 := lg_cn_mono (R := s.1 12 0) (show p + 1 ≤ p0 from h8)
      rw [lg_cn_0 (by rw [g4]; exact g_pk_ne g5)] at h7
      omega
    refine ⟨p, hpp, g3, by rw [g4]; exact g_pk_ne g5, by omega, pk_eq q 6 (fun e6 => ?_) (fun n6 => ⟨pk_in p 120 (by omega), ?_⟩)⟩
    · refine S_marksBefore (by omega) ?_
      unfold g_wv at hy
      rw [if_pos e6, g1] at hy
      rw [g6]
      show post (nI m + 1) s
      rw [show nI m + (1 : Int32) = nI (m + 1) from nI_1 m]
      exact hy
    · rw [pk_cl p, g4]
      unfold g_wv at hy
      rw [if_neg n6] at hy
      exact S_field g5 (by omega) hy
  · have := (nI_eq hq31 (by omega)).mp hc.2.2.2
    omega
end
end
section
section
variable {scr : mSc} {d : Nat} {s : mSt} {G : gSt}
set_option maxHeartbeats 4000000 in
theorem S_Md_watched {post : Int32 → mSt → Prop} {a1 a2 a3 : Int32} (h : RM_lg G s) (hk : s.1 18 0 0 = nI G.1) (hK : g_okK G) (e1 : ∀ u, (∀ t, t ≤ (g_lg G).length → ¬ a1 = nI t) → u.1 18 0 1 = 1 → mx_fr F_mo s u → post 0 u) (e2 : ∀ u t, t ≤ (g_lg G).length → a1 = nI t → t + G.1 ≤ (g_lg G).length → u.1 18 0 1 = 2 → mx_fr F_mo s u → post 0 u)
    (hm : ∀ u t, t ≤ (g_lg G).length → a1 = nI t → (g_lg G).length < t + G.1 → u.1 18 0 1 = 0 → mx_fr F_mo s u → (∀ k q, ¬ (g_ec G t + k < (g_ev 0 (g_lg G)).length ∧ a2 = nI k ∧ q ≤ 6 ∧ a3 = nI q)) → post (-1) u)
    (hy : ∀ u t k q e, t ≤ (g_lg G).length → a1 = nI t → (g_lg G).length < t + G.1 → u.1 18 0 1 = 0 → mx_fr F_mo s u → a2 = nI k → q ≤ 6 → a3 = nI q → (g_ev 0 (g_lg G))[g_ec G t + k]? = some e → post (g_wv e q) u) : X_Md_watched scr (d + 3) s a1 a2 a3 post := by
  have hll := g_lgl h.1
  have hel := g_ev_len (l := g_lg G) (n := 0)
  have h120 := h.1
  refine w_Md_watched (S_isFine h hk hK (fun u hc z f => ⟨fun _ => e1 u (hc.resolve_left (by decide)) z f, fun h => absurd rfl h⟩) (fun u t _ ht e h9 z f => ⟨fun _ => e2 u t ht e h9 z f, fun h => absurd rfl h⟩) (fun u t _ ht e h9 z f => ⟨fun h => absurd h (by decide), fun _ => ?_⟩))
  have hu : RM_lg G u := RM_lg_fr h f (fun h => by cases h.2) (fun h => by cases h.2) (fun h => by cases h.2) (fun j h => by cases h.1) (fun j h => by cases h.1)
  have hm := hm u t ht e h9 z f
  have hle := g_ec_le (G := G) (t := t)
  rw [e]
  refine S_since hu ht ⟨fun hn => hm (fun k q hc => ?_), fun hp => ?_⟩
  · rw [hc.2.1] at hn
    exact nI_pos (by omega) hn
  obtain ⟨k, hk31, rfl⟩ := nI_of hp
  refine S_since hu ht ?_
  rw [hu.2.1, pk_sub hle]
  refine pk_le ((g_ev 0 (g_lg G)).length - g_ec G t) k (fun hkn => hm (fun k' q hc => ?_)) (fun hkn => ⟨fun hn => hm (fun k' q hc => ?_), fun hp3 => ?_⟩)
  · have := (nI_eq hk31 (by omega)).mp hc.2.1
    omega
  · rw [hc.2.2.2] at hn
    exact nI_pos (by omega) hn
  obtain ⟨q, hq31, rfl⟩ := nI_of hp3
  refine pk_le q 6 (fun hq => ?_) (fun hq => hm (fun k' q' hc => ?_))
  · have he : (g_ev 0 (g_lg G))[g_ec G t + k]? = some (g_ev 0 (g_lg G))[g_ec G t + k] := List.getElem?_eq_getElem (by omega)
    have hy := hy u t k q _ ht e h9 z f rfl hq rfl he
    obtain ⟨r1, r2⟩ := hu.2.2.2.2 _ _ he
    unfold g_wv at hy
    rw [nI_add, show (6 : Int32) * nI (g_ec G t + k) = nI (6 * (g_ec G t + k)) from pk_mul 6 _, nI_add]
    refine pk_eq q 6 (fun e6 => ⟨pk_in (g_ec G t + k) 120 (by omega), ?_⟩) (fun n6 => ⟨pk_in (6 * (g_ec G t + k) + q) 720 (by omega), ?_⟩)
    · rw [pk_cl (g_ec G t + k), r1]
      rw [if_pos e6] at hy
      exact hy
    · rw [pk_cl (6 * (g_ec G t + k) + q), r2 q (by omega)]
      rw [if_neg n6] at hy
      exact hy
  · have := (nI_eq hq31 (by omega)).mp hc.2.2.2
    omega
end
end
section
theorem g_k8 (x : Int32) : ∃ K, (1 ≤ K ∧ K ≤ 8) ∧ 1 + (x &&& 7) = nI K := by
  have h0 : x = nI x.toBitVec.toNat := Int32.toBitVec_inj.mp (by
    show _ = BitVec.ofNat 32 _
    simp)
  have h : nI x.toBitVec.toNat &&& nI 7 = nI (x.toBitVec.toNat &&& 7) := Int32.toBitVec_inj.mp (by
    rw [Int32.toBitVec_and]
    show BitVec.ofNat 32 x.toBitVec.toNat &&& BitVec.ofNat 32 7 = BitVec.ofNat 32 (x.toBitVec.toNat &&& 7)
    rw [BitVec.ofNat_and])
  refine ⟨1 + x.toBitVec.toNat % 8, by omega, ?_⟩
  rw [h0, show (7 : Int32) = nI 7 from rfl, h, show (1 : Int32) = nI 1 from rfl, nI_add, show x.toBitVec.toNat &&& 7 = x.toBitVec.toNat % 8 from Nat.and_two_pow_sub_one_eq_mod _ 3, ← h0]
def g_0 (K : Nat) : gSt := (K, [], false, [], [])
section
variable {x : Int32} {K : Nat} {rl : List (Nat × Nat × Nat × Option Nat)}
theorem I_cf : RC_cf (g_0 K) (mx_as (mx_il_Z x) rl 107) := ⟨⟨Nat.zero_le _, fun r h => by cases h⟩, rfl, rfl, (fun i r h => by cases h), fun i _ _ => mx_kk_o (z := (0 : Int32)) (l := mx_il_Z x) (f := 5) (i := i) rfl 5⟩
theorem I_bt : RC_bt (g_0 K) (mx_as (mx_il_Z x) rl 107) := ⟨⟨Nat.zero_le _, fun r h => by cases h⟩, rfl, fun i r h => by cases h⟩
theorem I_lg : RC_lg (g_0 K) (mx_as (mx_il_Z x) rl 107) := ⟨⟨Nat.zero_le _, fun r h => by cases h⟩, rfl, rfl, fun i r h => by cases h⟩
theorem J_cf : RM_cf (g_0 K) (mx_as (mx_il_Z x) rl 107) := ⟨⟨Nat.zero_le _, fun r h => by cases h⟩, rfl, rfl, fun i r h => by cases h⟩
theorem J_bt : RM_bt (g_0 K) (mx_as (mx_il_Z x) rl 107) := ⟨⟨Nat.zero_le _, fun r h => by cases h⟩, rfl, fun i r h => by cases h⟩
theorem J_lg : RM_lg (g_0 K) (mx_as (mx_il_Z x) rl 107) := ⟨Nat.zero_le _, rfl, rfl, rfl, fun i r h => by cases h⟩
theorem I_k (h : 1 + (x &&& 7) = nI K) : (mx_as (mx_il_Z x) rl 107).1 0 0 0 = nI (g_0 K).1 ∧ (mx_as (mx_il_Z x) rl 107).1 18 0 0 = nI (g_0 K).1 := ⟨h, h⟩
theorem I_vs {v : Nat} (hv : v < 8) : (mx_as (mx_il_Z x) rl 107).1 14 v 0 = -1 := by
  rcases (show v = 0 ∨ v = 1 ∨ v = 2 ∨ v = 3 ∨ v = 4 ∨ v = 5 ∨ v = 6 ∨ v = 7 by omega) with rfl | rfl | rfl | rfl | rfl | rfl | rfl | rfl <;> rfl
end
end
section
set_option maxHeartbeats 4000000 in
theorem lw_walk (l : Launch) (hgo : ∀ b L xs, L ≤ 3585 → lw_Go (b, L, xs)) (htr : ∀ e, l.admits e → e.platform.stackTraces = false) (b : Addr) (xs : List Int32) : MetFree l x (headSpec (Jvm.Cond.code x code maxLocals ret :: tables_1) room_1) (lw_P b xs) (fun _ _ _ _ _ => True) lw_Q := by
  refine MetFree.of_bodyS (code := code) (maxLocals := maxLocals) (ret := ret) (by decide) ?_ ?_
  · intro args s m h hn
    obtain ⟨meth, c, h1, h2, h3, h4, h5, h6, -, -⟩ := Cond.code_spec hn (atoms_spec (ws := Jvm.Cond.code x code maxLocals ret :: tables_1) h _ List.mem_cons_self)
    exact ⟨meth, c, h1, h2, h3, h4, h5, h6⟩
  · intro p e s m args below meth c s₁ B hml0 hP _
    obtain ⟨rfl, hx, hbd, hgv⟩ := hP
    obtain ⟨scr, harrAt, hlist, hof, hsmall⟩ := hx
    obtain ⟨hcb, hkn, -, -⟩ := State.arrayAt?_spec harrAt
    have hown : s.vm.findClass R_law = some m.cls := findClass_of_methodNamed B.named
    have hts0 : ∀ c ∈ (Jvm.Cond.code x code maxLocals ret :: tables_1), c.before #[Value.ref b] s = true := atoms_spec (ws := Jvm.Cond.code x code maxLocals ret :: tables_1) B.pre
    have hts : ∀ w ∈ lw_tbl, w.before #[Value.ref b] s = true := k2_hts_sels lw_privs (fun w hw => hts0 w (List.mem_cons_of_mem _ hw)) lw_privs_ok
    have hml : c.maxLocals = 7 := B.maxLocals_eq (hts0 _ List.mem_cons_self)
    have X₀ : Stand p l e room_1 s m #[Value.ref b] below meth c s₁ [] 0 0 := Stand.of_body B
    have hh0 : s₁.heap = s.heap := by rw [B.state]; rfl
    have hsz : scr.slots.size = xs.length := by rw [← Array.length_toList, hlist, List.length_map]
    have hval : ∀ j : Nat, j < xs.length → scr.slots[j]? = some (.int (xs.getD j 0)) := fun j hj => by
      rw [← Array.getElem?_toList, hlist]
      simp [hj]
    have hbl : b < s.heap.size := (Array.getElem?_eq_some_iff.mp hcb).1
    have hX : va_X b xs.length (fun j => xs.getD j 0) s s.heap := ⟨scr, hcb, hof, hkn, hsz, hval⟩
    have K : W p l e room_1 s m #[Value.ref b] below meth c s₁.heap [] 0 0 (lw_Z below #[Value.ref b] s) (entryFrame m ([Value.ref b] : List Value).toArray 7) := by
      rw [hh0]
      exact lw_of l mx_ck mx_ckF lw_ck htr (hgo _ _ _ hbd) ⟨B.exec, B.bytes, B.returns, hml, hown, hts, hX, hbl, B.notSynchronized, hgv⟩
    obtain ⟨t, a1, o, b1, b2, b3⟩ := K s₁ rfl X₀
    exact ⟨t, o, a1, b1, b2, b3⟩
theorem lw_pre_spec {args : Array Value} {s : State} (h : (Jvm.Cond.and given_1 narrow_1).before args s = true) (hr : rest_1_c.before args s = true) : ∃ (b : Addr) (xs : List Int32), lw_P b xs args s := by
  have hs := flat_of_before _ h
  have hq := flat_of_before _ hr
  have hc : (Cond.count 1).before args s = true := hs _ (by decide +kernel)
  have harr : (Cond.arrayOf (.arg 0) .int).before args s = true := hs _ (by decide +kernel)
  have hle : (Cond.le (.length (.arg 0)) (.int 3585)).before args s = true := hs _ (by decide +kernel)
  have hlen : (Cond.isInt (.length (.arg 0))).before args s = true := hq _ (by decide +kernel)
  have hall : (Cond.all (.arg 0) (.isInt (.elem (.arg 0) (.index 0)))).before args s = true := hq _ (by decide +kernel)
  obtain ⟨b, xs, hb, hx⟩ := State.ints_of_pre rfl harr hlen hall
  have hsm : xs.length < 2 ^ 31 := hx.choose_spec.2.2.2
  have hev : (Term.length (.arg 0)).eval args s none [] s = some (.int xs.length.toInt32) := hx.length_eval hb
  have hv := Cond.le_ints hev (show (Term.int 3585).eval args s none [] s = some (.int 3585) from rfl)
  have hd : xs.length.toInt32 ≤ 3585 := by
    simpa [Cond.before, Cond.holds, hv] using hle
  have hN : xs.length ≤ 3585 := (Int32.ofNat_le_ofNat hsm (by decide)).mp (show Int32.ofNat xs.length ≤ Int32.ofNat 3585 from hd)
  exact ⟨b, xs, Cond.one_arg hc (show args[0]? = some (.ref b) from hb), hx, hN, h⟩
theorem lw_comes (l : Launch) (hgo : ∀ b L xs, L ≤ 3585 → lw_Go (b, L, xs)) (htr : ∀ e, l.admits e → e.platform.stackTraces = false) : Comes l x (Jvm.Cond.code x code maxLocals ret :: tables_1) room_1 (fun tb e args s => Calls_1 tb e args s ∧ rest_1 tb e args s ∧ Pre_1 tb e args s)
    (fun _ _ args s o t => lw_Q args s o t) := by
  intro p e ha hc hk s m args below hf hfit hheap happ hpre
  obtain ⟨b, xs, hP⟩ := lw_pre_spec hpre.2.2 hpre.2.1
  obtain ⟨k, o, h1, h2, h3, hQ⟩ := lw_walk l hgo htr b xs p e ha hc hk s m args below hf ((Spec.applies_iff_loose hf).mp happ).1 hP trivial
  exact ⟨k, o, h1, h2, h3, hQ⟩
theorem lw_frame {s t : State} {o : Outcome} {args : Array Value} (h : Framed s o t [] 601024 7293000) :
    Framed s o t (fieldLocs frame_1_writes args s ++ arrayLocs frame_1_arrays args s ++ staticLocs frame_1_statics s) 601024 7293000 := h
theorem lw_limb (hgo : ∀ b L xs, L ≤ 3585 → lw_Go (b, L, xs)) (L : Cond) (hL : ∀ (args : Array Value) (s t : State), L.after args s (.returned (some (.int 1))) t = true) :
    ArmFor flags0 classFile x code maxLocals ret World_1 tables_1 room_1 Calls_1 rest_1 Pre_1
      (fun tb e a s o t => postC L tb e a s o t ∧ Framed s o t (fieldLocs frame_1_writes a s ++ arrayLocs frame_1_arrays a s ++ staticLocs frame_1_statics s) 601024 7293000) := by
  intro l hfl _ _ p e ha hc hk s m args below hf hfit hheap happ hpre
  obtain ⟨k, o, h1, h2, h3, rfl, hF⟩ := lw_comes l hgo (fun e ha => Launch.traces_off hfl ha) p e ha hc hk s m args below hf hfit hheap happ hpre
  exact ⟨k, _, h1, h2, h3, hL args s _, lw_frame hF⟩
theorem lw_vc (hgo : ∀ b L xs, L ≤ 3585 → lw_Go (b, L, xs)) : Claimed_1_1 ∧ Claimed_1_2 := ⟨lw_limb hgo limb_1_1 (fun args s t => by simp [limb_1_1, Cond.after, Cond.holds, Cond.value]), lw_limb hgo limb_1_2 (fun args s t => Cond.after_iff.mpr (by
  first | (rw [show limb_1_2 = Cond.eq .result (.int 1) from rfl, Cond.eq_ints (x := 1) (y := 1) rfl rfl]; simp; done) | (simp [limb_1_2, Cond.value, Term.eval]; done)))⟩
end
